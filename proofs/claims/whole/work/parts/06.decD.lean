theorem dX7_row_58 : decode cX7_row 58 = .ok (.invokevirtual 176, 3) := by decide +kernel
theorem dX7_row_61 : decode cX7_row 61 = .ok (.ireturn, 1) := by decide +kernel
theorem dX7_isMaker_0 : decode cX7_isMaker 0 = .ok (.iload_n 0, 1) := by decide +kernel
theorem dX7_isMaker_1 : decode cX7_isMaker 1 = .ok (.i2l, 1) := by decide +kernel
theorem dX7_isMaker_2 : decode cX7_isMaker 2 = .ok (.lconst 0, 1) := by decide +kernel
theorem dX7_isMaker_3 : decode cX7_isMaker 3 = .ok (.ldc2_w 179, 3) := by decide +kernel
theorem dX7_isMaker_6 : decode cX7_isMaker 6 = .ok (.invokestatic 47, 3) := by decide +kernel
theorem dX7_isMaker_9 : decode cX7_isMaker 9 = .ok (.ireturn, 1) := by decide +kernel
theorem dX7_weightFrom_0 : decode cX7_weightFrom 0 = .ok (.aload_n 0, 1) := by decide +kernel
theorem dX7_weightFrom_1 : decode cX7_weightFrom 1 = .ok (.getfield 7, 3) := by decide +kernel
theorem dX7_weightFrom_4 : decode cX7_weightFrom 4 = .ok (.iconst 3, 1) := by decide +kernel
theorem dX7_weightFrom_5 : decode cX7_weightFrom 5 = .ok (.iaload, 1) := by decide +kernel
theorem dX7_weightFrom_6 : decode cX7_weightFrom 6 = .ok (.aload_n 0, 1) := by decide +kernel
theorem dX7_weightFrom_7 : decode cX7_weightFrom 7 = .ok (.getfield 7, 3) := by decide +kernel
theorem dX7_weightFrom_10 : decode cX7_weightFrom 10 = .ok (.bipush 9, 2) := by decide +kernel
theorem dX7_weightFrom_12 : decode cX7_weightFrom 12 = .ok (.iload_n 2, 1) := by decide +kernel
theorem dX7_weightFrom_13 : decode cX7_weightFrom 13 = .ok (.iadd, 1) := by decide +kernel
theorem dX7_weightFrom_14 : decode cX7_weightFrom 14 = .ok (.iaload, 1) := by decide +kernel
theorem dX7_weightFrom_15 : decode cX7_weightFrom 15 = .ok (.invokestatic 140, 3) := by decide +kernel
theorem dX7_weightFrom_18 : decode cX7_weightFrom 18 = .ok (.ifCond .eq 12, 3) := by decide +kernel
theorem dX7_weightFrom_21 : decode cX7_weightFrom 21 = .ok (.aload_n 0, 1) := by decide +kernel
theorem dX7_weightFrom_22 : decode cX7_weightFrom 22 = .ok (.iload_n 2, 1) := by decide +kernel
theorem dX7_weightFrom_23 : decode cX7_weightFrom 23 = .ok (.iconst 0, 1) := by decide +kernel
theorem dX7_weightFrom_24 : decode cX7_weightFrom 24 = .ok (.invokevirtual 143, 3) := by decide +kernel
theorem dX7_weightFrom_27 : decode cX7_weightFrom 27 = .ok (.goto 4, 3) := by decide +kernel
theorem dX7_weightFrom_30 : decode cX7_weightFrom 30 = .ok (.iconst (-1), 1) := by decide +kernel
theorem dX7_weightFrom_31 : decode cX7_weightFrom 31 = .ok (.istore_n 3, 1) := by decide +kernel
theorem dX7_weightFrom_32 : decode cX7_weightFrom 32 = .ok (.iload_n 3, 1) := by decide +kernel
theorem dX7_weightFrom_33 : decode cX7_weightFrom 33 = .ok (.iconst (-1), 1) := by decide +kernel
theorem dX7_weightFrom_34 : decode cX7_weightFrom 34 = .ok (.if_icmp .ne 7, 3) := by decide +kernel
theorem dX7_weightFrom_37 : decode cX7_weightFrom 37 = .ok (.lconst 0, 1) := by decide +kernel
theorem dX7_weightFrom_38 : decode cX7_weightFrom 38 = .ok (.goto 29, 3) := by decide +kernel
theorem dX7_weightFrom_41 : decode cX7_weightFrom 41 = .ok (.aload_n 0, 1) := by decide +kernel
theorem dX7_weightFrom_42 : decode cX7_weightFrom 42 = .ok (.iload_n 1, 1) := by decide +kernel
theorem dX7_weightFrom_43 : decode cX7_weightFrom 43 = .ok (.iload_n 2, 1) := by decide +kernel
theorem dX7_weightFrom_44 : decode cX7_weightFrom 44 = .ok (.invokevirtual 146, 3) := by decide +kernel
theorem dX7_weightFrom_47 : decode cX7_weightFrom 47 = .ok (.i2l, 1) := by decide +kernel
theorem dX7_weightFrom_48 : decode cX7_weightFrom 48 = .ok (.aload_n 0, 1) := by decide +kernel
theorem dX7_weightFrom_49 : decode cX7_weightFrom 49 = .ok (.getfield 25, 3) := by decide +kernel
theorem dX7_weightFrom_52 : decode cX7_weightFrom 52 = .ok (.iconst 4, 1) := by decide +kernel
theorem dX7_weightFrom_53 : decode cX7_weightFrom 53 = .ok (.iload_n 3, 1) := by decide +kernel
theorem dX7_weightFrom_54 : decode cX7_weightFrom 54 = .ok (.imul, 1) := by decide +kernel
theorem dX7_weightFrom_55 : decode cX7_weightFrom 55 = .ok (.aload_n 0, 1) := by decide +kernel
theorem dX7_weightFrom_56 : decode cX7_weightFrom 56 = .ok (.getfield 7, 3) := by decide +kernel
theorem dX7_weightFrom_59 : decode cX7_weightFrom 59 = .ok (.bipush 9, 2) := by decide +kernel
theorem dX7_weightFrom_61 : decode cX7_weightFrom 61 = .ok (.iload_n 2, 1) := by decide +kernel
theorem dX7_weightFrom_62 : decode cX7_weightFrom 62 = .ok (.iadd, 1) := by decide +kernel
theorem dX7_weightFrom_63 : decode cX7_weightFrom 63 = .ok (.iaload, 1) := by decide +kernel
theorem dX7_weightFrom_64 : decode cX7_weightFrom 64 = .ok (.iadd, 1) := by decide +kernel
theorem dX7_weightFrom_65 : decode cX7_weightFrom 65 = .ok (.laload, 1) := by decide +kernel
theorem dX7_weightFrom_66 : decode cX7_weightFrom 66 = .ok (.lmul, 1) := by decide +kernel
theorem dX7_weightFrom_67 : decode cX7_weightFrom 67 = .ok (.lreturn, 1) := by decide +kernel
theorem dX7_weight_0 : decode cX7_weight 0 = .ok (.iload_n 1, 1) := by decide +kernel
theorem dX7_weight_1 : decode cX7_weight 1 = .ok (.invokestatic 181, 3) := by decide +kernel
theorem dX7_weight_4 : decode cX7_weight 4 = .ok (.ifCond .eq 23, 3) := by decide +kernel
theorem dX7_weight_7 : decode cX7_weight 7 = .ok (.iload_n 2, 1) := by decide +kernel
theorem dX7_weight_8 : decode cX7_weight 8 = .ok (.i2l, 1) := by decide +kernel
theorem dX7_weight_9 : decode cX7_weight 9 = .ok (.ldc2_w 184, 3) := by decide +kernel
theorem dX7_weight_12 : decode cX7_weight 12 = .ok (.aload_n 0, 1) := by decide +kernel
theorem dX7_weight_13 : decode cX7_weight 13 = .ok (.getfield 7, 3) := by decide +kernel
theorem dX7_weight_16 : decode cX7_weight 16 = .ok (.iconst 0, 1) := by decide +kernel
theorem dX7_weight_17 : decode cX7_weight 17 = .ok (.iaload, 1) := by decide +kernel
theorem dX7_weight_18 : decode cX7_weight 18 = .ok (.iconst 1, 1) := by decide +kernel
theorem dX7_weight_19 : decode cX7_weight 19 = .ok (.isub, 1) := by decide +kernel
theorem dX7_weight_20 : decode cX7_weight 20 = .ok (.i2l, 1) := by decide +kernel
theorem dX7_weight_21 : decode cX7_weight 21 = .ok (.invokestatic 47, 3) := by decide +kernel
theorem dX7_weight_24 : decode cX7_weight 24 = .ok (.ifCond .ne 9, 3) := by decide +kernel
theorem dX7_weight_27 : decode cX7_weight 27 = .ok (.aload_n 0, 1) := by decide +kernel
theorem dX7_weight_28 : decode cX7_weight 28 = .ok (.invokevirtual 65, 3) := by decide +kernel
theorem dX7_weight_31 : decode cX7_weight 31 = .ok (.i2l, 1) := by decide +kernel
theorem dX7_weight_32 : decode cX7_weight 32 = .ok (.lreturn, 1) := by decide +kernel
theorem dX7_weight_33 : decode cX7_weight 33 = .ok (.aload_n 0, 1) := by decide +kernel
theorem dX7_weight_34 : decode cX7_weight 34 = .ok (.iconst 0, 1) := by decide +kernel
theorem dX7_weight_35 : decode cX7_weight 35 = .ok (.iload_n 1, 1) := by decide +kernel
theorem dX7_weight_36 : decode cX7_weight 36 = .ok (.invokevirtual 163, 3) := by decide +kernel
theorem dX7_weight_39 : decode cX7_weight 39 = .ok (.lstore_n 3, 1) := by decide +kernel
theorem dX7_weight_40 : decode cX7_weight 40 = .ok (.lload_n 3, 1) := by decide +kernel
theorem dX7_weight_41 : decode cX7_weight 41 = .ok (.ldc2_w 161, 3) := by decide +kernel
theorem dX7_weight_44 : decode cX7_weight 44 = .ok (.lcmp, 1) := by decide +kernel
theorem dX7_weight_45 : decode cX7_weight 45 = .ok (.ifCond .ne 9, 3) := by decide +kernel
theorem dX7_weight_48 : decode cX7_weight 48 = .ok (.aload_n 0, 1) := by decide +kernel
theorem dX7_weight_49 : decode cX7_weight 49 = .ok (.invokevirtual 166, 3) := by decide +kernel
theorem dX7_weight_52 : decode cX7_weight 52 = .ok (.i2l, 1) := by decide +kernel
theorem dX7_weight_53 : decode cX7_weight 53 = .ok (.lreturn, 1) := by decide +kernel
theorem dX7_weight_54 : decode cX7_weight 54 = .ok (.iload_n 2, 1) := by decide +kernel
theorem dX7_weight_55 : decode cX7_weight 55 = .ok (.iconst (-1), 1) := by decide +kernel
theorem dX7_weight_56 : decode cX7_weight 56 = .ok (.if_icmp .ne 7, 3) := by decide +kernel
theorem dX7_weight_59 : decode cX7_weight 59 = .ok (.lload_n 3, 1) := by decide +kernel
theorem dX7_weight_60 : decode cX7_weight 60 = .ok (.goto 9, 3) := by decide +kernel
theorem dX7_weight_63 : decode cX7_weight 63 = .ok (.aload_n 0, 1) := by decide +kernel
theorem dX7_weight_64 : decode cX7_weight 64 = .ok (.iload_n 1, 1) := by decide +kernel
theorem dX7_weight_65 : decode cX7_weight 65 = .ok (.iload_n 2, 1) := by decide +kernel
theorem dX7_weight_66 : decode cX7_weight 66 = .ok (.invokevirtual 186, 3) := by decide +kernel
theorem dX7_weight_69 : decode cX7_weight 69 = .ok (.lreturn, 1) := by decide +kernel
theorem dX7_picks_0 : decode cX7_picks 0 = .ok (.iload_n 1, 1) := by decide +kernel
theorem dX7_picks_1 : decode cX7_picks 1 = .ok (.invokestatic 181, 3) := by decide +kernel
theorem dX7_picks_4 : decode cX7_picks 4 = .ok (.ifCond .eq 20, 3) := by decide +kernel
theorem dX7_picks_7 : decode cX7_picks 7 = .ok (.iload_n 2, 1) := by decide +kernel
theorem dX7_picks_8 : decode cX7_picks 8 = .ok (.i2l, 1) := by decide +kernel
theorem dX7_picks_9 : decode cX7_picks 9 = .ok (.lconst 0, 1) := by decide +kernel
theorem dX7_picks_10 : decode cX7_picks 10 = .ok (.ldc2_w 190, 3) := by decide +kernel
theorem dX7_picks_13 : decode cX7_picks 13 = .ok (.invokestatic 47, 3) := by decide +kernel
theorem dX7_picks_16 : decode cX7_picks 16 = .ok (.ifCond .eq 8, 3) := by decide +kernel
theorem dX7_picks_19 : decode cX7_picks 19 = .ok (.iload_n 3, 1) := by decide +kernel
theorem dX7_picks_20 : decode cX7_picks 20 = .ok (.iconst (-1), 1) := by decide +kernel
theorem dX7_picks_21 : decode cX7_picks 21 = .ok (.if_icmp .ge 8, 3) := by decide +kernel
theorem dX7_picks_24 : decode cX7_picks 24 = .ok (.aload_n 0, 1) := by decide +kernel
theorem dX7_picks_25 : decode cX7_picks 25 = .ok (.invokevirtual 65, 3) := by decide +kernel
theorem dX7_picks_28 : decode cX7_picks 28 = .ok (.ireturn, 1) := by decide +kernel
theorem dX7_picks_29 : decode cX7_picks 29 = .ok (.aload_n 0, 1) := by decide +kernel
theorem dX7_picks_30 : decode cX7_picks 30 = .ok (.iconst 0, 1) := by decide +kernel
theorem dX7_picks_31 : decode cX7_picks 31 = .ok (.iload_n 1, 1) := by decide +kernel
theorem dX7_picks_32 : decode cX7_picks 32 = .ok (.invokevirtual 163, 3) := by decide +kernel
theorem dX7_picks_35 : decode cX7_picks 35 = .ok (.lstore 4, 2) := by decide +kernel
theorem dX7_picks_37 : decode cX7_picks 37 = .ok (.lload 4, 2) := by decide +kernel
theorem dX7_picks_39 : decode cX7_picks 39 = .ok (.ldc2_w 161, 3) := by decide +kernel
theorem dX7_picks_42 : decode cX7_picks 42 = .ok (.lcmp, 1) := by decide +kernel
theorem dX7_picks_43 : decode cX7_picks 43 = .ok (.ifCond .ne 8, 3) := by decide +kernel
theorem dX7_picks_46 : decode cX7_picks 46 = .ok (.aload_n 0, 1) := by decide +kernel
theorem dX7_picks_47 : decode cX7_picks 47 = .ok (.invokevirtual 166, 3) := by decide +kernel
theorem dX7_picks_50 : decode cX7_picks 50 = .ok (.ireturn, 1) := by decide +kernel
theorem dX7_picks_51 : decode cX7_picks 51 = .ok (.lload 4, 2) := by decide +kernel
theorem dX7_picks_53 : decode cX7_picks 53 = .ok (.lconst 0, 1) := by decide +kernel
theorem dX7_picks_54 : decode cX7_picks 54 = .ok (.lcmp, 1) := by decide +kernel
theorem dX7_picks_55 : decode cX7_picks 55 = .ok (.ifCond .ne 8, 3) := by decide +kernel
theorem dX7_picks_58 : decode cX7_picks 58 = .ok (.aload_n 0, 1) := by decide +kernel
theorem dX7_picks_59 : decode cX7_picks 59 = .ok (.invokevirtual 55, 3) := by decide +kernel
theorem dX7_picks_62 : decode cX7_picks 62 = .ok (.ireturn, 1) := by decide +kernel
theorem dX7_picks_63 : decode cX7_picks 63 = .ok (.iload_n 2, 1) := by decide +kernel
theorem dX7_picks_64 : decode cX7_picks 64 = .ok (.i2l, 1) := by decide +kernel
theorem dX7_picks_65 : decode cX7_picks 65 = .ok (.ldc2_w 192, 3) := by decide +kernel
theorem dX7_picks_68 : decode cX7_picks 68 = .ok (.lmul, 1) := by decide +kernel
theorem dX7_picks_69 : decode cX7_picks 69 = .ok (.ldc2_w 194, 3) := by decide +kernel
theorem dX7_picks_72 : decode cX7_picks 72 = .ok (.ladd, 1) := by decide +kernel
theorem dX7_picks_73 : decode cX7_picks 73 = .ok (.ldc2_w 196, 3) := by decide +kernel
theorem dX7_picks_76 : decode cX7_picks 76 = .ok (.lrem, 1) := by decide +kernel
theorem dX7_picks_77 : decode cX7_picks 77 = .ok (.lstore 6, 2) := by decide +kernel
theorem dX7_picks_79 : decode cX7_picks 79 = .ok (.aload_n 0, 1) := by decide +kernel
theorem dX7_picks_80 : decode cX7_picks 80 = .ok (.lload 6, 2) := by decide +kernel
theorem dX7_picks_82 : decode cX7_picks 82 = .ok (.lload 4, 2) := by decide +kernel
theorem dX7_picks_84 : decode cX7_picks 84 = .ok (.lrem, 1) := by decide +kernel
theorem dX7_picks_85 : decode cX7_picks 85 = .ok (.iload_n 1, 1) := by decide +kernel
theorem dX7_picks_86 : decode cX7_picks 86 = .ok (.invokevirtual 172, 3) := by decide +kernel
theorem dX7_picks_89 : decode cX7_picks 89 = .ok (.aload_n 0, 1) := by decide +kernel
theorem dX7_picks_90 : decode cX7_picks 90 = .ok (.iload_n 3, 1) := by decide +kernel
theorem dX7_picks_91 : decode cX7_picks 91 = .ok (.invokevirtual 176, 3) := by decide +kernel
theorem dX7_picks_94 : decode cX7_picks 94 = .ok (.ireturn, 1) := by decide +kernel
theorem dX7_dearest_0 : decode cX7_dearest 0 = .ok (.iconst (-1), 1) := by decide +kernel
theorem dX7_dearest_1 : decode cX7_dearest 1 = .ok (.istore 4, 2) := by decide +kernel
theorem dX7_dearest_3 : decode cX7_dearest 3 = .ok (.aload_n 0, 1) := by decide +kernel
theorem dX7_dearest_4 : decode cX7_dearest 4 = .ok (.iconst 0, 1) := by decide +kernel
theorem dX7_dearest_5 : decode cX7_dearest 5 = .ok (.putfield 198, 3) := by decide +kernel
theorem dX7_dearest_8 : decode cX7_dearest 8 = .ok (.aload_n 0, 1) := by decide +kernel
theorem dX7_dearest_9 : decode cX7_dearest 9 = .ok (.iconst 0, 1) := by decide +kernel
theorem dX7_dearest_10 : decode cX7_dearest 10 = .ok (.putfield 201, 3) := by decide +kernel
theorem dX7_dearest_13 : decode cX7_dearest 13 = .ok (.iconst 0, 1) := by decide +kernel
theorem dX7_dearest_14 : decode cX7_dearest 14 = .ok (.istore 5, 2) := by decide +kernel
theorem dX7_dearest_16 : decode cX7_dearest 16 = .ok (.iload 5, 2) := by decide +kernel
theorem dX7_dearest_18 : decode cX7_dearest 18 = .ok (.aload_n 0, 1) := by decide +kernel
theorem dX7_dearest_19 : decode cX7_dearest 19 = .ok (.getfield 7, 3) := by decide +kernel
theorem dX7_dearest_22 : decode cX7_dearest 22 = .ok (.iconst 0, 1) := by decide +kernel
theorem dX7_dearest_23 : decode cX7_dearest 23 = .ok (.iaload, 1) := by decide +kernel
theorem dX7_dearest_24 : decode cX7_dearest 24 = .ok (.if_icmp .ge 190, 3) := by decide +kernel
theorem dX7_dearest_27 : decode cX7_dearest 27 = .ok (.iload_n 2, 1) := by decide +kernel
theorem dX7_dearest_28 : decode cX7_dearest 28 = .ok (.aload_n 0, 1) := by decide +kernel
theorem dX7_dearest_29 : decode cX7_dearest 29 = .ok (.getfield 7, 3) := by decide +kernel
theorem dX7_dearest_32 : decode cX7_dearest 32 = .ok (.bipush 9, 2) := by decide +kernel
theorem dX7_dearest_34 : decode cX7_dearest 34 = .ok (.iload 5, 2) := by decide +kernel
theorem dX7_dearest_36 : decode cX7_dearest 36 = .ok (.iadd, 1) := by decide +kernel
theorem dX7_dearest_37 : decode cX7_dearest 37 = .ok (.iaload, 1) := by decide +kernel
theorem dX7_dearest_38 : decode cX7_dearest 38 = .ok (.invokestatic 140, 3) := by decide +kernel
theorem dX7_dearest_41 : decode cX7_dearest 41 = .ok (.ifCond .eq 13, 3) := by decide +kernel
theorem dX7_dearest_44 : decode cX7_dearest 44 = .ok (.aload_n 0, 1) := by decide +kernel
theorem dX7_dearest_45 : decode cX7_dearest 45 = .ok (.iload 5, 2) := by decide +kernel
theorem dX7_dearest_47 : decode cX7_dearest 47 = .ok (.iload_n 1, 1) := by decide +kernel
theorem dX7_dearest_48 : decode cX7_dearest 48 = .ok (.invokevirtual 143, 3) := by decide +kernel
theorem dX7_dearest_51 : decode cX7_dearest 51 = .ok (.goto 4, 3) := by decide +kernel
theorem dX7_dearest_54 : decode cX7_dearest 54 = .ok (.iconst (-1), 1) := by decide +kernel
theorem dX7_dearest_55 : decode cX7_dearest 55 = .ok (.istore 6, 2) := by decide +kernel
theorem dX7_dearest_57 : decode cX7_dearest 57 = .ok (.iconst 4, 1) := by decide +kernel
theorem dX7_dearest_58 : decode cX7_dearest 58 = .ok (.iload 6, 2) := by decide +kernel
theorem dX7_dearest_60 : decode cX7_dearest 60 = .ok (.imul, 1) := by decide +kernel
theorem dX7_dearest_61 : decode cX7_dearest 61 = .ok (.aload_n 0, 1) := by decide +kernel
theorem dX7_dearest_62 : decode cX7_dearest 62 = .ok (.getfield 7, 3) := by decide +kernel
theorem dX7_dearest_65 : decode cX7_dearest 65 = .ok (.bipush 9, 2) := by decide +kernel
theorem dX7_dearest_67 : decode cX7_dearest 67 = .ok (.iload 5, 2) := by decide +kernel
theorem dX7_dearest_69 : decode cX7_dearest 69 = .ok (.iadd, 1) := by decide +kernel
theorem dX7_dearest_70 : decode cX7_dearest 70 = .ok (.iaload, 1) := by decide +kernel
theorem dX7_dearest_71 : decode cX7_dearest 71 = .ok (.iadd, 1) := by decide +kernel
theorem dX7_dearest_72 : decode cX7_dearest 72 = .ok (.istore 7, 2) := by decide +kernel
theorem dX7_dearest_74 : decode cX7_dearest 74 = .ok (.iload 6, 2) := by decide +kernel
theorem dX7_dearest_76 : decode cX7_dearest 76 = .ok (.iconst (-1), 1) := by decide +kernel
theorem dX7_dearest_77 : decode cX7_dearest 77 = .ok (.if_icmp .eq 131, 3) := by decide +kernel
theorem dX7_dearest_80 : decode cX7_dearest 80 = .ok (.aload_n 0, 1) := by decide +kernel
theorem dX7_dearest_81 : decode cX7_dearest 81 = .ok (.getfield 35, 3) := by decide +kernel
theorem dX7_dearest_84 : decode cX7_dearest 84 = .ok (.iload 7, 2) := by decide +kernel
theorem dX7_dearest_86 : decode cX7_dearest 86 = .ok (.iaload, 1) := by decide +kernel
theorem dX7_dearest_87 : decode cX7_dearest 87 = .ok (.ifCond .lt 121, 3) := by decide +kernel
theorem dX7_dearest_90 : decode cX7_dearest 90 = .ok (.aload_n 0, 1) := by decide +kernel
theorem dX7_dearest_91 : decode cX7_dearest 91 = .ok (.getfield 32, 3) := by decide +kernel
theorem dX7_dearest_94 : decode cX7_dearest 94 = .ok (.iload 7, 2) := by decide +kernel
theorem dX7_dearest_96 : decode cX7_dearest 96 = .ok (.iaload, 1) := by decide +kernel
theorem dX7_dearest_97 : decode cX7_dearest 97 = .ok (.aload_n 0, 1) := by decide +kernel
theorem dX7_dearest_98 : decode cX7_dearest 98 = .ok (.iload_n 3, 1) := by decide +kernel
theorem dX7_dearest_99 : decode cX7_dearest 99 = .ok (.iload 5, 2) := by decide +kernel
theorem dX7_dearest_101 : decode cX7_dearest 101 = .ok (.invokevirtual 113, 3) := by decide +kernel
theorem dX7_dearest_104 : decode cX7_dearest 104 = .ok (.iadd, 1) := by decide +kernel
theorem dX7_dearest_105 : decode cX7_dearest 105 = .ok (.istore 8, 2) := by decide +kernel
theorem dX7_dearest_107 : decode cX7_dearest 107 = .ok (.aload_n 0, 1) := by decide +kernel
theorem dX7_dearest_108 : decode cX7_dearest 108 = .ok (.getfield 35, 3) := by decide +kernel
theorem dX7_dearest_111 : decode cX7_dearest 111 = .ok (.iload 7, 2) := by decide +kernel
theorem dX7_dearest_113 : decode cX7_dearest 113 = .ok (.iaload, 1) := by decide +kernel
theorem dX7_dearest_114 : decode cX7_dearest 114 = .ok (.iconst 1, 1) := by decide +kernel
theorem dX7_dearest_115 : decode cX7_dearest 115 = .ok (.iadd, 1) := by decide +kernel
theorem dX7_dearest_116 : decode cX7_dearest 116 = .ok (.istore 9, 2) := by decide +kernel
theorem dX7_dearest_118 : decode cX7_dearest 118 = .ok (.iload 4, 2) := by decide +kernel
theorem dX7_dearest_120 : decode cX7_dearest 120 = .ok (.iconst (-1), 1) := by decide +kernel
theorem dX7_dearest_121 : decode cX7_dearest 121 = .ok (.if_icmp .eq 30, 3) := by decide +kernel
theorem dX7_dearest_124 : decode cX7_dearest 124 = .ok (.iload 8, 2) := by decide +kernel
theorem dX7_dearest_126 : decode cX7_dearest 126 = .ok (.aload_n 0, 1) := by decide +kernel
theorem dX7_dearest_127 : decode cX7_dearest 127 = .ok (.getfield 198, 3) := by decide +kernel
theorem dX7_dearest_130 : decode cX7_dearest 130 = .ok (.if_icmp .gt 21, 3) := by decide +kernel
theorem dX7_dearest_133 : decode cX7_dearest 133 = .ok (.iload 8, 2) := by decide +kernel
theorem dX7_dearest_135 : decode cX7_dearest 135 = .ok (.aload_n 0, 1) := by decide +kernel
theorem dX7_dearest_136 : decode cX7_dearest 136 = .ok (.getfield 198, 3) := by decide +kernel
theorem dX7_dearest_139 : decode cX7_dearest 139 = .ok (.if_icmp .ne 16, 3) := by decide +kernel
theorem dX7_dearest_142 : decode cX7_dearest 142 = .ok (.iload 9, 2) := by decide +kernel
theorem dX7_dearest_144 : decode cX7_dearest 144 = .ok (.aload_n 0, 1) := by decide +kernel
theorem dX7_dearest_145 : decode cX7_dearest 145 = .ok (.getfield 201, 3) := by decide +kernel
theorem dX7_dearest_148 : decode cX7_dearest 148 = .ok (.if_icmp .ge 7, 3) := by decide +kernel
theorem dX7_dearest_151 : decode cX7_dearest 151 = .ok (.iconst 1, 1) := by decide +kernel
theorem dX7_dearest_152 : decode cX7_dearest 152 = .ok (.goto 4, 3) := by decide +kernel
theorem dX7_dearest_155 : decode cX7_dearest 155 = .ok (.iconst 0, 1) := by decide +kernel
theorem dX7_dearest_156 : decode cX7_dearest 156 = .ok (.istore 10, 2) := by decide +kernel
theorem dX7_dearest_158 : decode cX7_dearest 158 = .ok (.iload 10, 2) := by decide +kernel
theorem dX7_dearest_160 : decode cX7_dearest 160 = .ok (.ifCond .eq 8, 3) := by decide +kernel
theorem dX7_dearest_163 : decode cX7_dearest 163 = .ok (.iload 5, 2) := by decide +kernel
theorem dX7_dearest_165 : decode cX7_dearest 165 = .ok (.goto 5, 3) := by decide +kernel
theorem dX7_dearest_168 : decode cX7_dearest 168 = .ok (.iload 4, 2) := by decide +kernel
theorem dX7_dearest_170 : decode cX7_dearest 170 = .ok (.istore 4, 2) := by decide +kernel
theorem dX7_dearest_172 : decode cX7_dearest 172 = .ok (.aload_n 0, 1) := by decide +kernel
theorem dX7_dearest_173 : decode cX7_dearest 173 = .ok (.iload 10, 2) := by decide +kernel
theorem dX7_dearest_175 : decode cX7_dearest 175 = .ok (.ifCond .eq 8, 3) := by decide +kernel
theorem dX7_dearest_178 : decode cX7_dearest 178 = .ok (.iload 8, 2) := by decide +kernel
theorem dX7_dearest_180 : decode cX7_dearest 180 = .ok (.goto 7, 3) := by decide +kernel
theorem dX7_dearest_183 : decode cX7_dearest 183 = .ok (.aload_n 0, 1) := by decide +kernel
theorem dX7_dearest_184 : decode cX7_dearest 184 = .ok (.getfield 198, 3) := by decide +kernel
theorem dX7_dearest_187 : decode cX7_dearest 187 = .ok (.putfield 198, 3) := by decide +kernel
theorem dX7_dearest_190 : decode cX7_dearest 190 = .ok (.aload_n 0, 1) := by decide +kernel
theorem dX7_dearest_191 : decode cX7_dearest 191 = .ok (.iload 10, 2) := by decide +kernel
theorem dX7_dearest_193 : decode cX7_dearest 193 = .ok (.ifCond .eq 8, 3) := by decide +kernel
theorem dX7_dearest_196 : decode cX7_dearest 196 = .ok (.iload 9, 2) := by decide +kernel
theorem dX7_dearest_198 : decode cX7_dearest 198 = .ok (.goto 7, 3) := by decide +kernel
theorem dX7_dearest_201 : decode cX7_dearest 201 = .ok (.aload_n 0, 1) := by decide +kernel
theorem dX7_dearest_202 : decode cX7_dearest 202 = .ok (.getfield 201, 3) := by decide +kernel
theorem dX7_dearest_205 : decode cX7_dearest 205 = .ok (.putfield 201, 3) := by decide +kernel
theorem dX7_dearest_208 : decode cX7_dearest 208 = .ok (.iinc 5 1, 3) := by decide +kernel
theorem dX7_dearest_211 : decode cX7_dearest 211 = .ok (.goto (-195), 3) := by decide +kernel
theorem dX7_dearest_214 : decode cX7_dearest 214 = .ok (.iload 4, 2) := by decide +kernel
theorem dX7_dearest_216 : decode cX7_dearest 216 = .ok (.ireturn, 1) := by decide +kernel
theorem dX7_laysBest_0 : decode cX7_laysBest 0 = .ok (.aload_n 0, 1) := by decide +kernel
theorem dX7_laysBest_1 : decode cX7_laysBest 1 = .ok (.iconst 1, 1) := by decide +kernel
theorem dX7_laysBest_2 : decode cX7_laysBest 2 = .ok (.putfield 121, 3) := by decide +kernel
theorem dX7_laysBest_5 : decode cX7_laysBest 5 = .ok (.aload_n 0, 1) := by decide +kernel
theorem dX7_laysBest_6 : decode cX7_laysBest 6 = .ok (.invokevirtual 125, 3) := by decide +kernel
theorem dX7_laysBest_9 : decode cX7_laysBest 9 = .ok (.istore_n 2, 1) := by decide +kernel
theorem dX7_laysBest_10 : decode cX7_laysBest 10 = .ok (.iload_n 2, 1) := by decide +kernel
theorem dX7_laysBest_11 : decode cX7_laysBest 11 = .ok (.istore_n 3, 1) := by decide +kernel
theorem dX7_laysBest_12 : decode cX7_laysBest 12 = .ok (.iload_n 3, 1) := by decide +kernel
theorem dX7_laysBest_13 : decode cX7_laysBest 13 = .ok (.ifCond .le 154, 3) := by decide +kernel
theorem dX7_laysBest_16 : decode cX7_laysBest 16 = .ok (.iconst 0, 1) := by decide +kernel
theorem dX7_laysBest_17 : decode cX7_laysBest 17 = .ok (.istore 4, 2) := by decide +kernel
theorem dX7_laysBest_19 : decode cX7_laysBest 19 = .ok (.iload 4, 2) := by decide +kernel
theorem dX7_laysBest_21 : decode cX7_laysBest 21 = .ok (.iconst 4, 1) := by decide +kernel
theorem dX7_laysBest_22 : decode cX7_laysBest 22 = .ok (.if_icmp .ge 139, 3) := by decide +kernel
theorem dX7_laysBest_25 : decode cX7_laysBest 25 = .ok (.iconst 4, 1) := by decide +kernel
theorem dX7_laysBest_26 : decode cX7_laysBest 26 = .ok (.iload_n 3, 1) := by decide +kernel
theorem dX7_laysBest_27 : decode cX7_laysBest 27 = .ok (.imul, 1) := by decide +kernel
theorem dX7_laysBest_28 : decode cX7_laysBest 28 = .ok (.iload 4, 2) := by decide +kernel
theorem dX7_laysBest_30 : decode cX7_laysBest 30 = .ok (.iadd, 1) := by decide +kernel
theorem dX7_laysBest_31 : decode cX7_laysBest 31 = .ok (.istore 5, 2) := by decide +kernel
theorem dX7_laysBest_33 : decode cX7_laysBest 33 = .ok (.aload_n 0, 1) := by decide +kernel
theorem dX7_laysBest_34 : decode cX7_laysBest 34 = .ok (.getfield 38, 3) := by decide +kernel
theorem dX7_laysBest_37 : decode cX7_laysBest 37 = .ok (.iload 5, 2) := by decide +kernel
theorem dX7_laysBest_39 : decode cX7_laysBest 39 = .ok (.iload_n 3, 1) := by decide +kernel
theorem dX7_laysBest_40 : decode cX7_laysBest 40 = .ok (.iload_n 2, 1) := by decide +kernel
theorem dX7_laysBest_41 : decode cX7_laysBest 41 = .ok (.if_icmp .ne 7, 3) := by decide +kernel
theorem dX7_laysBest_44 : decode cX7_laysBest 44 = .ok (.iconst (-1), 1) := by decide +kernel
theorem dX7_laysBest_45 : decode cX7_laysBest 45 = .ok (.goto 18, 3) := by decide +kernel
theorem dX7_laysBest_48 : decode cX7_laysBest 48 = .ok (.aload_n 0, 1) := by decide +kernel
theorem dX7_laysBest_49 : decode cX7_laysBest 49 = .ok (.iload_n 3, 1) := by decide +kernel
theorem dX7_laysBest_50 : decode cX7_laysBest 50 = .ok (.aload_n 0, 1) := by decide +kernel
theorem dX7_laysBest_51 : decode cX7_laysBest 51 = .ok (.getfield 7, 3) := by decide +kernel
theorem dX7_laysBest_54 : decode cX7_laysBest 54 = .ok (.iconst 5, 1) := by decide +kernel
theorem dX7_laysBest_55 : decode cX7_laysBest 55 = .ok (.iload 4, 2) := by decide +kernel
theorem dX7_laysBest_57 : decode cX7_laysBest 57 = .ok (.iadd, 1) := by decide +kernel
theorem dX7_laysBest_58 : decode cX7_laysBest 58 = .ok (.iaload, 1) := by decide +kernel
theorem dX7_laysBest_59 : decode cX7_laysBest 59 = .ok (.iload_n 1, 1) := by decide +kernel
theorem dX7_laysBest_60 : decode cX7_laysBest 60 = .ok (.invokevirtual 204, 3) := by decide +kernel
theorem dX7_laysBest_63 : decode cX7_laysBest 63 = .ok (.iastore, 1) := by decide +kernel
theorem dX7_laysBest_64 : decode cX7_laysBest 64 = .ok (.iload_n 3, 1) := by decide +kernel
theorem dX7_laysBest_65 : decode cX7_laysBest 65 = .ok (.iload_n 2, 1) := by decide +kernel
theorem dX7_laysBest_66 : decode cX7_laysBest 66 = .ok (.if_icmp .ne 17, 3) := by decide +kernel
theorem dX7_laysBest_69 : decode cX7_laysBest 69 = .ok (.aload_n 0, 1) := by decide +kernel
theorem dX7_laysBest_70 : decode cX7_laysBest 70 = .ok (.getfield 7, 3) := by decide +kernel
theorem dX7_laysBest_73 : decode cX7_laysBest 73 = .ok (.iconst 4, 1) := by decide +kernel
theorem dX7_laysBest_74 : decode cX7_laysBest 74 = .ok (.iaload, 1) := by decide +kernel
theorem dX7_laysBest_75 : decode cX7_laysBest 75 = .ok (.iload 4, 2) := by decide +kernel
theorem dX7_laysBest_77 : decode cX7_laysBest 77 = .ok (.invokestatic 140, 3) := by decide +kernel
theorem dX7_laysBest_80 : decode cX7_laysBest 80 = .ok (.goto 19, 3) := by decide +kernel
theorem dX7_laysBest_83 : decode cX7_laysBest 83 = .ok (.aload_n 0, 1) := by decide +kernel
theorem dX7_laysBest_84 : decode cX7_laysBest 84 = .ok (.getfield 38, 3) := by decide +kernel
theorem dX7_laysBest_87 : decode cX7_laysBest 87 = .ok (.iload 5, 2) := by decide +kernel
theorem dX7_laysBest_89 : decode cX7_laysBest 89 = .ok (.iaload, 1) := by decide +kernel
theorem dX7_laysBest_90 : decode cX7_laysBest 90 = .ok (.iconst (-1), 1) := by decide +kernel
theorem dX7_laysBest_91 : decode cX7_laysBest 91 = .ok (.if_icmp .eq 7, 3) := by decide +kernel
theorem dX7_laysBest_94 : decode cX7_laysBest 94 = .ok (.iconst 1, 1) := by decide +kernel
theorem dX7_laysBest_95 : decode cX7_laysBest 95 = .ok (.goto 4, 3) := by decide +kernel
theorem dX7_laysBest_98 : decode cX7_laysBest 98 = .ok (.iconst 0, 1) := by decide +kernel
theorem dX7_laysBest_99 : decode cX7_laysBest 99 = .ok (.istore 6, 2) := by decide +kernel
theorem dX7_laysBest_101 : decode cX7_laysBest 101 = .ok (.aload_n 0, 1) := by decide +kernel
theorem dX7_laysBest_102 : decode cX7_laysBest 102 = .ok (.getfield 32, 3) := by decide +kernel
theorem dX7_laysBest_105 : decode cX7_laysBest 105 = .ok (.iload 5, 2) := by decide +kernel
theorem dX7_laysBest_107 : decode cX7_laysBest 107 = .ok (.iload_n 3, 1) := by decide +kernel
theorem dX7_laysBest_108 : decode cX7_laysBest 108 = .ok (.iload_n 2, 1) := by decide +kernel
theorem dX7_laysBest_109 : decode cX7_laysBest 109 = .ok (.if_icmp .eq 8, 3) := by decide +kernel
theorem dX7_laysBest_112 : decode cX7_laysBest 112 = .ok (.iload 6, 2) := by decide +kernel
theorem dX7_laysBest_114 : decode cX7_laysBest 114 = .ok (.ifCond .ne 7, 3) := by decide +kernel
theorem dX7_laysBest_117 : decode cX7_laysBest 117 = .ok (.iconst 0, 1) := by decide +kernel
theorem dX7_laysBest_118 : decode cX7_laysBest 118 = .ok (.goto 7, 3) := by decide +kernel
theorem dX7_laysBest_121 : decode cX7_laysBest 121 = .ok (.aload_n 0, 1) := by decide +kernel
theorem dX7_laysBest_122 : decode cX7_laysBest 122 = .ok (.getfield 198, 3) := by decide +kernel
theorem dX7_laysBest_125 : decode cX7_laysBest 125 = .ok (.iastore, 1) := by decide +kernel
theorem dX7_laysBest_126 : decode cX7_laysBest 126 = .ok (.aload_n 0, 1) := by decide +kernel
theorem dX7_laysBest_127 : decode cX7_laysBest 127 = .ok (.getfield 35, 3) := by decide +kernel
theorem dX7_laysBest_130 : decode cX7_laysBest 130 = .ok (.iload 5, 2) := by decide +kernel
theorem dX7_laysBest_132 : decode cX7_laysBest 132 = .ok (.iload 6, 2) := by decide +kernel
theorem dX7_laysBest_134 : decode cX7_laysBest 134 = .ok (.ifCond .ne 7, 3) := by decide +kernel
theorem dX7_laysBest_137 : decode cX7_laysBest 137 = .ok (.iconst (-1), 1) := by decide +kernel
theorem dX7_laysBest_138 : decode cX7_laysBest 138 = .ok (.goto 16, 3) := by decide +kernel
theorem dX7_laysBest_141 : decode cX7_laysBest 141 = .ok (.iload_n 3, 1) := by decide +kernel
theorem dX7_laysBest_142 : decode cX7_laysBest 142 = .ok (.iload_n 2, 1) := by decide +kernel
theorem dX7_laysBest_143 : decode cX7_laysBest 143 = .ok (.if_icmp .ne 7, 3) := by decide +kernel
theorem dX7_laysBest_146 : decode cX7_laysBest 146 = .ok (.iconst 0, 1) := by decide +kernel
theorem dX7_laysBest_147 : decode cX7_laysBest 147 = .ok (.goto 7, 3) := by decide +kernel
theorem dX7_laysBest_150 : decode cX7_laysBest 150 = .ok (.aload_n 0, 1) := by decide +kernel
theorem dX7_laysBest_151 : decode cX7_laysBest 151 = .ok (.getfield 201, 3) := by decide +kernel
theorem dX7_laysBest_154 : decode cX7_laysBest 154 = .ok (.iastore, 1) := by decide +kernel
theorem dX7_laysBest_155 : decode cX7_laysBest 155 = .ok (.iinc 4 1, 3) := by decide +kernel
theorem dX7_laysBest_158 : decode cX7_laysBest 158 = .ok (.goto (-139), 3) := by decide +kernel
theorem dX7_laysBest_161 : decode cX7_laysBest 161 = .ok (.iinc 3 (-1), 3) := by decide +kernel
theorem dX7_laysBest_164 : decode cX7_laysBest 164 = .ok (.goto (-152), 3) := by decide +kernel
theorem dX7_laysBest_167 : decode cX7_laysBest 167 = .ok (.return_, 1) := by decide +kernel
theorem dX7_findsBest_0 : decode cX7_findsBest 0 = .ok (.aload_n 0, 1) := by decide +kernel
theorem dX7_findsBest_1 : decode cX7_findsBest 1 = .ok (.iload_n 1, 1) := by decide +kernel
theorem dX7_findsBest_2 : decode cX7_findsBest 2 = .ok (.invokevirtual 208, 3) := by decide +kernel
theorem dX7_findsBest_5 : decode cX7_findsBest 5 = .ok (.aload_n 0, 1) := by decide +kernel
theorem dX7_findsBest_6 : decode cX7_findsBest 6 = .ok (.iconst 0, 1) := by decide +kernel
theorem dX7_findsBest_7 : decode cX7_findsBest 7 = .ok (.putfield 169, 3) := by decide +kernel
theorem dX7_findsBest_10 : decode cX7_findsBest 10 = .ok (.aload_n 0, 1) := by decide +kernel
theorem dX7_findsBest_11 : decode cX7_findsBest 11 = .ok (.iconst 0, 1) := by decide +kernel
theorem dX7_findsBest_12 : decode cX7_findsBest 12 = .ok (.aload_n 0, 1) := by decide +kernel
theorem dX7_findsBest_13 : decode cX7_findsBest 13 = .ok (.getfield 7, 3) := by decide +kernel
theorem dX7_findsBest_16 : decode cX7_findsBest 16 = .ok (.iconst 3, 1) := by decide +kernel
theorem dX7_findsBest_17 : decode cX7_findsBest 17 = .ok (.iaload, 1) := by decide +kernel
theorem dX7_findsBest_18 : decode cX7_findsBest 18 = .ok (.iload_n 1, 1) := by decide +kernel
theorem dX7_findsBest_19 : decode cX7_findsBest 19 = .ok (.invokevirtual 204, 3) := by decide +kernel
theorem dX7_findsBest_22 : decode cX7_findsBest 22 = .ok (.istore_n 2, 1) := by decide +kernel
theorem dX7_findsBest_23 : decode cX7_findsBest 23 = .ok (.iload_n 2, 1) := by decide +kernel
theorem dX7_findsBest_24 : decode cX7_findsBest 24 = .ok (.iconst (-1), 1) := by decide +kernel
theorem dX7_findsBest_25 : decode cX7_findsBest 25 = .ok (.if_icmp .ne 5, 3) := by decide +kernel
theorem dX7_findsBest_28 : decode cX7_findsBest 28 = .ok (.iconst (-1), 1) := by decide +kernel
theorem dX7_findsBest_29 : decode cX7_findsBest 29 = .ok (.ireturn, 1) := by decide +kernel
theorem dX7_findsBest_30 : decode cX7_findsBest 30 = .ok (.aload_n 0, 1) := by decide +kernel
theorem dX7_findsBest_31 : decode cX7_findsBest 31 = .ok (.getfield 198, 3) := by decide +kernel
theorem dX7_findsBest_34 : decode cX7_findsBest 34 = .ok (.istore_n 3, 1) := by decide +kernel
theorem dX7_findsBest_35 : decode cX7_findsBest 35 = .ok (.iconst 0, 1) := by decide +kernel
theorem dX7_findsBest_36 : decode cX7_findsBest 36 = .ok (.istore 4, 2) := by decide +kernel
theorem dX7_findsBest_38 : decode cX7_findsBest 38 = .ok (.iload_n 2, 1) := by decide +kernel
theorem dX7_findsBest_39 : decode cX7_findsBest 39 = .ok (.iconst (-1), 1) := by decide +kernel
theorem dX7_findsBest_40 : decode cX7_findsBest 40 = .ok (.if_icmp .eq 55, 3) := by decide +kernel
theorem dX7_findsBest_43 : decode cX7_findsBest 43 = .ok (.aload_n 0, 1) := by decide +kernel
theorem dX7_findsBest_44 : decode cX7_findsBest 44 = .ok (.getfield 29, 3) := by decide +kernel
theorem dX7_findsBest_47 : decode cX7_findsBest 47 = .ok (.aload_n 0, 1) := by decide +kernel
theorem dX7_findsBest_48 : decode cX7_findsBest 48 = .ok (.getfield 169, 3) := by decide +kernel
theorem dX7_findsBest_51 : decode cX7_findsBest 51 = .ok (.iload_n 2, 1) := by decide +kernel
theorem dX7_findsBest_52 : decode cX7_findsBest 52 = .ok (.iastore, 1) := by decide +kernel
theorem dX7_findsBest_53 : decode cX7_findsBest 53 = .ok (.aload_n 0, 1) := by decide +kernel
theorem dX7_findsBest_54 : decode cX7_findsBest 54 = .ok (.dup, 1) := by decide +kernel
theorem dX7_findsBest_55 : decode cX7_findsBest 55 = .ok (.getfield 169, 3) := by decide +kernel
theorem dX7_findsBest_58 : decode cX7_findsBest 58 = .ok (.iconst 1, 1) := by decide +kernel
theorem dX7_findsBest_59 : decode cX7_findsBest 59 = .ok (.iadd, 1) := by decide +kernel
theorem dX7_findsBest_60 : decode cX7_findsBest 60 = .ok (.putfield 169, 3) := by decide +kernel
theorem dX7_findsBest_63 : decode cX7_findsBest 63 = .ok (.aload_n 0, 1) := by decide +kernel
theorem dX7_findsBest_64 : decode cX7_findsBest 64 = .ok (.iload_n 2, 1) := by decide +kernel
theorem dX7_findsBest_65 : decode cX7_findsBest 65 = .ok (.iload 4, 2) := by decide +kernel
theorem dX7_findsBest_67 : decode cX7_findsBest 67 = .ok (.invokevirtual 143, 3) := by decide +kernel
theorem dX7_findsBest_70 : decode cX7_findsBest 70 = .ok (.istore 4, 2) := by decide +kernel
theorem dX7_findsBest_72 : decode cX7_findsBest 72 = .ok (.aload_n 0, 1) := by decide +kernel
theorem dX7_findsBest_73 : decode cX7_findsBest 73 = .ok (.getfield 38, 3) := by decide +kernel
theorem dX7_findsBest_76 : decode cX7_findsBest 76 = .ok (.iconst 4, 1) := by decide +kernel
theorem dX7_findsBest_77 : decode cX7_findsBest 77 = .ok (.iload 4, 2) := by decide +kernel
theorem dX7_findsBest_79 : decode cX7_findsBest 79 = .ok (.imul, 1) := by decide +kernel
theorem dX7_findsBest_80 : decode cX7_findsBest 80 = .ok (.aload_n 0, 1) := by decide +kernel
theorem dX7_findsBest_81 : decode cX7_findsBest 81 = .ok (.getfield 7, 3) := by decide +kernel
theorem dX7_findsBest_84 : decode cX7_findsBest 84 = .ok (.bipush 9, 2) := by decide +kernel
theorem dX7_findsBest_86 : decode cX7_findsBest 86 = .ok (.iload_n 2, 1) := by decide +kernel
theorem dX7_findsBest_87 : decode cX7_findsBest 87 = .ok (.iadd, 1) := by decide +kernel
theorem dX7_findsBest_88 : decode cX7_findsBest 88 = .ok (.iaload, 1) := by decide +kernel
theorem dX7_findsBest_89 : decode cX7_findsBest 89 = .ok (.iadd, 1) := by decide +kernel
theorem dX7_findsBest_90 : decode cX7_findsBest 90 = .ok (.iaload, 1) := by decide +kernel
theorem dX7_findsBest_91 : decode cX7_findsBest 91 = .ok (.istore_n 2, 1) := by decide +kernel
theorem dX7_findsBest_92 : decode cX7_findsBest 92 = .ok (.goto (-54), 3) := by decide +kernel
theorem dX7_findsBest_95 : decode cX7_findsBest 95 = .ok (.iload_n 3, 1) := by decide +kernel
theorem dX7_findsBest_96 : decode cX7_findsBest 96 = .ok (.ireturn, 1) := by decide +kernel
theorem dX7_best_0 : decode cX7_best 0 = .ok (.iload_n 1, 1) := by decide +kernel
theorem dX7_best_1 : decode cX7_best 1 = .ok (.invokestatic 181, 3) := by decide +kernel
theorem dX7_best_4 : decode cX7_best 4 = .ok (.ifCond .eq 9, 3) := by decide +kernel
theorem dX7_best_7 : decode cX7_best 7 = .ok (.iload_n 2, 1) := by decide +kernel
theorem dX7_best_8 : decode cX7_best 8 = .ok (.bipush (-2), 2) := by decide +kernel
theorem dX7_best_10 : decode cX7_best 10 = .ok (.if_icmp .ge 8, 3) := by decide +kernel
theorem dX7_best_13 : decode cX7_best 13 = .ok (.aload_n 0, 1) := by decide +kernel
theorem dX7_best_14 : decode cX7_best 14 = .ok (.invokevirtual 65, 3) := by decide +kernel
theorem dX7_best_17 : decode cX7_best 17 = .ok (.ireturn, 1) := by decide +kernel
theorem dX7_best_18 : decode cX7_best 18 = .ok (.aload_n 0, 1) := by decide +kernel
theorem dX7_best_19 : decode cX7_best 19 = .ok (.iload_n 1, 1) := by decide +kernel
theorem dX7_best_20 : decode cX7_best 20 = .ok (.invokevirtual 212, 3) := by decide +kernel
theorem dX7_best_23 : decode cX7_best 23 = .ok (.istore_n 3, 1) := by decide +kernel
theorem dX7_best_24 : decode cX7_best 24 = .ok (.iload_n 3, 1) := by decide +kernel
theorem dX7_best_25 : decode cX7_best 25 = .ok (.ifCond .ge 8, 3) := by decide +kernel
theorem dX7_best_28 : decode cX7_best 28 = .ok (.aload_n 0, 1) := by decide +kernel
theorem dX7_best_29 : decode cX7_best 29 = .ok (.invokevirtual 55, 3) := by decide +kernel
theorem dX7_best_32 : decode cX7_best 32 = .ok (.ireturn, 1) := by decide +kernel
theorem dX7_best_33 : decode cX7_best 33 = .ok (.iload_n 2, 1) := by decide +kernel
theorem dX7_best_34 : decode cX7_best 34 = .ok (.bipush (-2), 2) := by decide +kernel
theorem dX7_best_36 : decode cX7_best 36 = .ok (.if_icmp .ne 7, 3) := by decide +kernel
theorem dX7_best_39 : decode cX7_best 39 = .ok (.iload_n 3, 1) := by decide +kernel
theorem dX7_best_40 : decode cX7_best 40 = .ok (.goto 8, 3) := by decide +kernel
theorem dX7_best_43 : decode cX7_best 43 = .ok (.aload_n 0, 1) := by decide +kernel
theorem dX7_best_44 : decode cX7_best 44 = .ok (.iload_n 2, 1) := by decide +kernel
theorem dX7_best_45 : decode cX7_best 45 = .ok (.invokevirtual 176, 3) := by decide +kernel
theorem dX7_best_48 : decode cX7_best 48 = .ok (.ireturn, 1) := by decide +kernel
theorem dX7_singsOne_0 : decode cX7_singsOne 0 = .ok (.iload_n 1, 1) := by decide +kernel
theorem dX7_singsOne_1 : decode cX7_singsOne 1 = .ok (.invokestatic 181, 3) := by decide +kernel
theorem dX7_singsOne_4 : decode cX7_singsOne 4 = .ok (.ifCond .ne 6, 3) := by decide +kernel
theorem dX7_singsOne_7 : decode cX7_singsOne 7 = .ok (.bipush (-2), 2) := by decide +kernel
theorem dX7_singsOne_9 : decode cX7_singsOne 9 = .ok (.ireturn, 1) := by decide +kernel
theorem dX7_singsOne_10 : decode cX7_singsOne 10 = .ok (.aload_n 0, 1) := by decide +kernel
theorem dX7_singsOne_11 : decode cX7_singsOne 11 = .ok (.iload_n 1, 1) := by decide +kernel
theorem dX7_singsOne_12 : decode cX7_singsOne 12 = .ok (.invokevirtual 212, 3) := by decide +kernel
theorem dX7_singsOne_15 : decode cX7_singsOne 15 = .ok (.ifCond .ge 6, 3) := by decide +kernel
theorem dX7_singsOne_18 : decode cX7_singsOne 18 = .ok (.bipush (-3), 2) := by decide +kernel
theorem dX7_singsOne_20 : decode cX7_singsOne 20 = .ok (.ireturn, 1) := by decide +kernel
theorem dX7_singsOne_21 : decode cX7_singsOne 21 = .ok (.iconst 0, 1) := by decide +kernel
theorem dX7_singsOne_22 : decode cX7_singsOne 22 = .ok (.istore_n 2, 1) := by decide +kernel
theorem dX7_singsOne_23 : decode cX7_singsOne 23 = .ok (.iload_n 2, 1) := by decide +kernel
theorem dX7_singsOne_24 : decode cX7_singsOne 24 = .ok (.aload_n 0, 1) := by decide +kernel
theorem dX7_singsOne_25 : decode cX7_singsOne 25 = .ok (.getfield 169, 3) := by decide +kernel
theorem dX7_singsOne_28 : decode cX7_singsOne 28 = .ok (.if_icmp .ge 32, 3) := by decide +kernel
theorem dX7_singsOne_31 : decode cX7_singsOne 31 = .ok (.aload_n 0, 1) := by decide +kernel
theorem dX7_singsOne_32 : decode cX7_singsOne 32 = .ok (.getfield 7, 3) := by decide +kernel
theorem dX7_singsOne_35 : decode cX7_singsOne 35 = .ok (.bipush 33, 2) := by decide +kernel
theorem dX7_singsOne_37 : decode cX7_singsOne 37 = .ok (.bipush 12, 2) := by decide +kernel
theorem dX7_singsOne_39 : decode cX7_singsOne 39 = .ok (.iload_n 1, 1) := by decide +kernel
theorem dX7_singsOne_40 : decode cX7_singsOne 40 = .ok (.imul, 1) := by decide +kernel
theorem dX7_singsOne_41 : decode cX7_singsOne 41 = .ok (.iadd, 1) := by decide +kernel
theorem dX7_singsOne_42 : decode cX7_singsOne 42 = .ok (.aload_n 0, 1) := by decide +kernel
theorem dX7_singsOne_43 : decode cX7_singsOne 43 = .ok (.getfield 29, 3) := by decide +kernel
theorem dX7_singsOne_46 : decode cX7_singsOne 46 = .ok (.iload_n 2, 1) := by decide +kernel
theorem dX7_singsOne_47 : decode cX7_singsOne 47 = .ok (.iaload, 1) := by decide +kernel
theorem dX7_singsOne_48 : decode cX7_singsOne 48 = .ok (.iadd, 1) := by decide +kernel
theorem dX7_singsOne_49 : decode cX7_singsOne 49 = .ok (.dup2, 1) := by decide +kernel
theorem dX7_singsOne_50 : decode cX7_singsOne 50 = .ok (.iaload, 1) := by decide +kernel
theorem dX7_singsOne_51 : decode cX7_singsOne 51 = .ok (.iconst 1, 1) := by decide +kernel
theorem dX7_singsOne_52 : decode cX7_singsOne 52 = .ok (.iadd, 1) := by decide +kernel
theorem dX7_singsOne_53 : decode cX7_singsOne 53 = .ok (.iastore, 1) := by decide +kernel
theorem dX7_singsOne_54 : decode cX7_singsOne 54 = .ok (.iinc 2 1, 3) := by decide +kernel
theorem dX7_singsOne_57 : decode cX7_singsOne 57 = .ok (.goto (-34), 3) := by decide +kernel
theorem dX7_singsOne_60 : decode cX7_singsOne 60 = .ok (.aload_n 0, 1) := by decide +kernel
theorem dX7_singsOne_61 : decode cX7_singsOne 61 = .ok (.getfield 169, 3) := by decide +kernel
theorem dX7_singsOne_64 : decode cX7_singsOne 64 = .ok (.ireturn, 1) := by decide +kernel
theorem dX7_sings_0 : decode cX7_sings 0 = .ok (.aload_n 0, 1) := by decide +kernel
theorem dX7_sings_1 : decode cX7_sings 1 = .ok (.invokevirtual 87, 3) := by decide +kernel
theorem dX7_sings_4 : decode cX7_sings 4 = .ok (.aload_n 0, 1) := by decide +kernel
theorem dX7_sings_5 : decode cX7_sings 5 = .ok (.aload_n 0, 1) := by decide +kernel
theorem dX7_sings_6 : decode cX7_sings 6 = .ok (.iload_n 1, 1) := by decide +kernel
theorem dX7_sings_7 : decode cX7_sings 7 = .ok (.invokevirtual 215, 3) := by decide +kernel
theorem dX7_sings_10 : decode cX7_sings 10 = .ok (.invokevirtual 94, 3) := by decide +kernel
theorem dX7_sings_13 : decode cX7_sings 13 = .ok (.ireturn, 1) := by decide +kernel
theorem dX7_fixesTo_0 : decode cX7_fixesTo 0 = .ok (.iconst (-1), 1) := by decide +kernel
theorem dX7_fixesTo_1 : decode cX7_fixesTo 1 = .ok (.istore_n 3, 1) := by decide +kernel
theorem dX7_fixesTo_2 : decode cX7_fixesTo 2 = .ok (.iconst 0, 1) := by decide +kernel
theorem dX7_fixesTo_3 : decode cX7_fixesTo 3 = .ok (.istore 4, 2) := by decide +kernel
theorem dX7_fixesTo_5 : decode cX7_fixesTo 5 = .ok (.iconst 0, 1) := by decide +kernel
theorem dX7_fixesTo_6 : decode cX7_fixesTo 6 = .ok (.istore 5, 2) := by decide +kernel
theorem dX7_fixesTo_8 : decode cX7_fixesTo 8 = .ok (.iload 5, 2) := by decide +kernel
theorem dX7_fixesTo_10 : decode cX7_fixesTo 10 = .ok (.aload_n 0, 1) := by decide +kernel
theorem dX7_fixesTo_11 : decode cX7_fixesTo 11 = .ok (.getfield 7, 3) := by decide +kernel
theorem dX7_fixesTo_14 : decode cX7_fixesTo 14 = .ok (.iconst 0, 1) := by decide +kernel
theorem dX7_fixesTo_15 : decode cX7_fixesTo 15 = .ok (.iaload, 1) := by decide +kernel
theorem dX7_fixesTo_16 : decode cX7_fixesTo 16 = .ok (.if_icmp .ge 67, 3) := by decide +kernel
theorem dX7_fixesTo_19 : decode cX7_fixesTo 19 = .ok (.aload_n 0, 1) := by decide +kernel
theorem dX7_fixesTo_20 : decode cX7_fixesTo 20 = .ok (.getfield 7, 3) := by decide +kernel
theorem dX7_fixesTo_23 : decode cX7_fixesTo 23 = .ok (.bipush 9, 2) := by decide +kernel
theorem dX7_fixesTo_25 : decode cX7_fixesTo 25 = .ok (.iload 5, 2) := by decide +kernel
theorem dX7_fixesTo_27 : decode cX7_fixesTo 27 = .ok (.iadd, 1) := by decide +kernel
theorem dX7_fixesTo_28 : decode cX7_fixesTo 28 = .ok (.iaload, 1) := by decide +kernel
theorem dX7_fixesTo_29 : decode cX7_fixesTo 29 = .ok (.iload_n 2, 1) := by decide +kernel
theorem dX7_fixesTo_30 : decode cX7_fixesTo 30 = .ok (.if_icmp .ne 17, 3) := by decide +kernel
theorem dX7_fixesTo_33 : decode cX7_fixesTo 33 = .ok (.aload_n 0, 1) := by decide +kernel
theorem dX7_fixesTo_34 : decode cX7_fixesTo 34 = .ok (.iload_n 1, 1) := by decide +kernel
theorem dX7_fixesTo_35 : decode cX7_fixesTo 35 = .ok (.iload 5, 2) := by decide +kernel
theorem dX7_fixesTo_37 : decode cX7_fixesTo 37 = .ok (.invokevirtual 113, 3) := by decide +kernel
theorem dX7_fixesTo_40 : decode cX7_fixesTo 40 = .ok (.ifCond .le 7, 3) := by decide +kernel
theorem dX7_fixesTo_43 : decode cX7_fixesTo 43 = .ok (.iconst 1, 1) := by decide +kernel
theorem dX7_fixesTo_44 : decode cX7_fixesTo 44 = .ok (.goto 4, 3) := by decide +kernel
theorem dX7_fixesTo_47 : decode cX7_fixesTo 47 = .ok (.iconst 0, 1) := by decide +kernel
theorem dX7_fixesTo_48 : decode cX7_fixesTo 48 = .ok (.istore 6, 2) := by decide +kernel
theorem dX7_fixesTo_50 : decode cX7_fixesTo 50 = .ok (.iload 6, 2) := by decide +kernel
theorem dX7_fixesTo_52 : decode cX7_fixesTo 52 = .ok (.ifCond .eq 8, 3) := by decide +kernel
theorem dX7_fixesTo_55 : decode cX7_fixesTo 55 = .ok (.iload 5, 2) := by decide +kernel
theorem dX7_fixesTo_57 : decode cX7_fixesTo 57 = .ok (.goto 4, 3) := by decide +kernel
theorem dX7_fixesTo_60 : decode cX7_fixesTo 60 = .ok (.iload_n 3, 1) := by decide +kernel
theorem dX7_fixesTo_61 : decode cX7_fixesTo 61 = .ok (.istore_n 3, 1) := by decide +kernel
theorem dX7_fixesTo_62 : decode cX7_fixesTo 62 = .ok (.iload 4, 2) := by decide +kernel
theorem dX7_fixesTo_64 : decode cX7_fixesTo 64 = .ok (.iload 6, 2) := by decide +kernel
theorem dX7_fixesTo_66 : decode cX7_fixesTo 66 = .ok (.ifCond .eq 7, 3) := by decide +kernel
theorem dX7_fixesTo_69 : decode cX7_fixesTo 69 = .ok (.iconst 1, 1) := by decide +kernel
theorem dX7_fixesTo_70 : decode cX7_fixesTo 70 = .ok (.goto 4, 3) := by decide +kernel
theorem dX7_fixesTo_73 : decode cX7_fixesTo 73 = .ok (.iconst 0, 1) := by decide +kernel
theorem dX7_fixesTo_74 : decode cX7_fixesTo 74 = .ok (.iadd, 1) := by decide +kernel
theorem dX7_fixesTo_75 : decode cX7_fixesTo 75 = .ok (.istore 4, 2) := by decide +kernel
theorem dX7_fixesTo_77 : decode cX7_fixesTo 77 = .ok (.iinc 5 1, 3) := by decide +kernel
theorem dX7_fixesTo_80 : decode cX7_fixesTo 80 = .ok (.goto (-72), 3) := by decide +kernel
theorem dX7_fixesTo_83 : decode cX7_fixesTo 83 = .ok (.iload 4, 2) := by decide +kernel
theorem dX7_fixesTo_85 : decode cX7_fixesTo 85 = .ok (.iconst 1, 1) := by decide +kernel
theorem dX7_fixesTo_86 : decode cX7_fixesTo 86 = .ok (.if_icmp .ne 7, 3) := by decide +kernel
theorem dX7_fixesTo_89 : decode cX7_fixesTo 89 = .ok (.iload_n 3, 1) := by decide +kernel
theorem dX7_fixesTo_90 : decode cX7_fixesTo 90 = .ok (.goto 4, 3) := by decide +kernel
theorem dX7_fixesTo_93 : decode cX7_fixesTo 93 = .ok (.iconst (-1), 1) := by decide +kernel
theorem dX7_fixesTo_94 : decode cX7_fixesTo 94 = .ok (.ireturn, 1) := by decide +kernel
theorem dX7_fixes_0 : decode cX7_fixes 0 = .ok (.iload_n 1, 1) := by decide +kernel
theorem dX7_fixes_1 : decode cX7_fixes 1 = .ok (.invokestatic 181, 3) := by decide +kernel
theorem dX7_fixes_4 : decode cX7_fixes 4 = .ok (.ifCond .eq 24, 3) := by decide +kernel
theorem dX7_fixes_7 : decode cX7_fixes 7 = .ok (.iload_n 2, 1) := by decide +kernel
theorem dX7_fixes_8 : decode cX7_fixes 8 = .ok (.i2l, 1) := by decide +kernel
theorem dX7_fixes_9 : decode cX7_fixes 9 = .ok (.lconst 0, 1) := by decide +kernel
theorem dX7_fixes_10 : decode cX7_fixes 10 = .ok (.ldc2_w 72, 3) := by decide +kernel
theorem dX7_fixes_13 : decode cX7_fixes 13 = .ok (.invokestatic 47, 3) := by decide +kernel
theorem dX7_fixes_16 : decode cX7_fixes 16 = .ok (.ifCond .eq 12, 3) := by decide +kernel
theorem dX7_fixes_19 : decode cX7_fixes 19 = .ok (.aload_n 0, 1) := by decide +kernel
theorem dX7_fixes_20 : decode cX7_fixes 20 = .ok (.iload_n 1, 1) := by decide +kernel
theorem dX7_fixes_21 : decode cX7_fixes 21 = .ok (.iload_n 2, 1) := by decide +kernel
theorem dX7_fixes_22 : decode cX7_fixes 22 = .ok (.invokevirtual 218, 3) := by decide +kernel
theorem dX7_fixes_25 : decode cX7_fixes 25 = .ok (.goto 7, 3) := by decide +kernel
theorem dX7_fixes_28 : decode cX7_fixes 28 = .ok (.aload_n 0, 1) := by decide +kernel
theorem dX7_fixes_29 : decode cX7_fixes 29 = .ok (.invokevirtual 65, 3) := by decide +kernel
theorem dX7_fixes_32 : decode cX7_fixes 32 = .ok (.ireturn, 1) := by decide +kernel
theorem dX7_type_0 : decode cX7_type 0 = .ok (.iload_n 1, 1) := by decide +kernel
theorem dX7_type_1 : decode cX7_type 1 = .ok (.i2l, 1) := by decide +kernel
theorem dX7_type_2 : decode cX7_type 2 = .ok (.lconst 0, 1) := by decide +kernel
theorem dX7_type_3 : decode cX7_type 3 = .ok (.ldc2_w 221, 3) := by decide +kernel
theorem dX7_type_6 : decode cX7_type 6 = .ok (.invokestatic 47, 3) := by decide +kernel
theorem dX7_type_9 : decode cX7_type 9 = .ok (.ifCond .ne 8, 3) := by decide +kernel
theorem dX7_type_12 : decode cX7_type 12 = .ok (.aload_n 0, 1) := by decide +kernel
theorem dX7_type_13 : decode cX7_type 13 = .ok (.invokevirtual 65, 3) := by decide +kernel
theorem dX7_type_16 : decode cX7_type 16 = .ok (.ireturn, 1) := by decide +kernel
theorem dX7_type_17 : decode cX7_type 17 = .ok (.aload_n 0, 1) := by decide +kernel
theorem dX7_type_18 : decode cX7_type 18 = .ok (.getfield 223, 3) := by decide +kernel
theorem dX7_type_21 : decode cX7_type 21 = .ok (.sipush 150, 3) := by decide +kernel
theorem dX7_type_24 : decode cX7_type 24 = .ok (.if_icmp .ne 8, 3) := by decide +kernel
theorem dX7_type_27 : decode cX7_type 27 = .ok (.aload_n 0, 1) := by decide +kernel
theorem dX7_type_28 : decode cX7_type 28 = .ok (.invokevirtual 62, 3) := by decide +kernel
theorem dX7_type_31 : decode cX7_type 31 = .ok (.ireturn, 1) := by decide +kernel
theorem dX7_type_32 : decode cX7_type 32 = .ok (.aload_n 0, 1) := by decide +kernel
theorem dX7_type_33 : decode cX7_type 33 = .ok (.getfield 22, 3) := by decide +kernel
theorem dX7_type_36 : decode cX7_type 36 = .ok (.aload_n 0, 1) := by decide +kernel
theorem dX7_type_37 : decode cX7_type 37 = .ok (.getfield 223, 3) := by decide +kernel
theorem dX7_type_40 : decode cX7_type 40 = .ok (.iload_n 1, 1) := by decide +kernel
theorem dX7_type_41 : decode cX7_type 41 = .ok (.iastore, 1) := by decide +kernel
theorem dX7_type_42 : decode cX7_type 42 = .ok (.aload_n 0, 1) := by decide +kernel
theorem dX7_type_43 : decode cX7_type 43 = .ok (.dup, 1) := by decide +kernel
theorem dX7_type_44 : decode cX7_type 44 = .ok (.getfield 223, 3) := by decide +kernel
theorem dX7_type_47 : decode cX7_type 47 = .ok (.iconst 1, 1) := by decide +kernel
theorem dX7_type_48 : decode cX7_type 48 = .ok (.iadd, 1) := by decide +kernel
theorem dX7_type_49 : decode cX7_type 49 = .ok (.putfield 223, 3) := by decide +kernel
theorem dX7_type_52 : decode cX7_type 52 = .ok (.aload_n 0, 1) := by decide +kernel
theorem dX7_type_53 : decode cX7_type 53 = .ok (.getfield 223, 3) := by decide +kernel
theorem dX7_type_56 : decode cX7_type 56 = .ok (.ireturn, 1) := by decide +kernel
theorem dX7_clear_0 : decode cX7_clear 0 = .ok (.aload_n 0, 1) := by decide +kernel
theorem dX7_clear_1 : decode cX7_clear 1 = .ok (.getfield 223, 3) := by decide +kernel
theorem dX7_clear_4 : decode cX7_clear 4 = .ok (.istore_n 1, 1) := by decide +kernel
theorem dX7_clear_5 : decode cX7_clear 5 = .ok (.aload_n 0, 1) := by decide +kernel
theorem dX7_clear_6 : decode cX7_clear 6 = .ok (.iconst 0, 1) := by decide +kernel
theorem dX7_clear_7 : decode cX7_clear 7 = .ok (.putfield 223, 3) := by decide +kernel
theorem dX7_clear_10 : decode cX7_clear 10 = .ok (.iload_n 1, 1) := by decide +kernel
theorem dX7_clear_11 : decode cX7_clear 11 = .ok (.ireturn, 1) := by decide +kernel
theorem dX7_isAt_0 : decode cX7_isAt 0 = .ok (.aload_n 0, 1) := by decide +kernel
theorem dX7_isAt_1 : decode cX7_isAt 1 = .ok (.getfield 226, 3) := by decide +kernel
theorem dX7_isAt_4 : decode cX7_isAt 4 = .ok (.aload_n 0, 1) := by decide +kernel
theorem dX7_isAt_5 : decode cX7_isAt 5 = .ok (.getfield 223, 3) := by decide +kernel
theorem dX7_isAt_8 : decode cX7_isAt 8 = .ok (.if_icmp .ge 27, 3) := by decide +kernel
theorem dX7_isAt_11 : decode cX7_isAt 11 = .ok (.aload_n 0, 1) := by decide +kernel
theorem dX7_isAt_12 : decode cX7_isAt 12 = .ok (.getfield 22, 3) := by decide +kernel
theorem dX7_isAt_15 : decode cX7_isAt 15 = .ok (.aload_n 0, 1) := by decide +kernel
theorem dX7_isAt_16 : decode cX7_isAt 16 = .ok (.getfield 226, 3) := by decide +kernel
theorem dX7_isAt_19 : decode cX7_isAt 19 = .ok (.iaload, 1) := by decide +kernel
theorem dX7_isAt_20 : decode cX7_isAt 20 = .ok (.i2l, 1) := by decide +kernel
theorem dX7_isAt_21 : decode cX7_isAt 21 = .ok (.iload_n 1, 1) := by decide +kernel
theorem dX7_isAt_22 : decode cX7_isAt 22 = .ok (.i2l, 1) := by decide +kernel
theorem dX7_isAt_23 : decode cX7_isAt 23 = .ok (.iload_n 2, 1) := by decide +kernel
theorem dX7_isAt_24 : decode cX7_isAt 24 = .ok (.i2l, 1) := by decide +kernel
theorem dX7_isAt_25 : decode cX7_isAt 25 = .ok (.invokestatic 47, 3) := by decide +kernel
theorem dX7_isAt_28 : decode cX7_isAt 28 = .ok (.ifCond .eq 7, 3) := by decide +kernel
theorem dX7_isAt_31 : decode cX7_isAt 31 = .ok (.iconst 1, 1) := by decide +kernel
theorem dX7_isAt_32 : decode cX7_isAt 32 = .ok (.goto 4, 3) := by decide +kernel
theorem dX7_isAt_35 : decode cX7_isAt 35 = .ok (.iconst 0, 1) := by decide +kernel
theorem dX7_isAt_36 : decode cX7_isAt 36 = .ok (.ireturn, 1) := by decide +kernel
theorem dX7_blanks_0 : decode cX7_blanks 0 = .ok (.aload_n 0, 1) := by decide +kernel
theorem dX7_blanks_1 : decode cX7_blanks 1 = .ok (.bipush 32, 2) := by decide +kernel
theorem dX7_blanks_3 : decode cX7_blanks 3 = .ok (.bipush 32, 2) := by decide +kernel
theorem dX7_blanks_5 : decode cX7_blanks 5 = .ok (.invokevirtual 229, 3) := by decide +kernel
theorem dX7_blanks_8 : decode cX7_blanks 8 = .ok (.ifCond .eq 16, 3) := by decide +kernel
theorem dX7_blanks_11 : decode cX7_blanks 11 = .ok (.aload_n 0, 1) := by decide +kernel
theorem dX7_blanks_12 : decode cX7_blanks 12 = .ok (.dup, 1) := by decide +kernel
theorem dX7_blanks_13 : decode cX7_blanks 13 = .ok (.getfield 226, 3) := by decide +kernel
theorem dX7_blanks_16 : decode cX7_blanks 16 = .ok (.iconst 1, 1) := by decide +kernel
theorem dX7_blanks_17 : decode cX7_blanks 17 = .ok (.iadd, 1) := by decide +kernel
theorem dX7_blanks_18 : decode cX7_blanks 18 = .ok (.putfield 226, 3) := by decide +kernel
theorem dX7_blanks_21 : decode cX7_blanks 21 = .ok (.goto (-21), 3) := by decide +kernel
theorem dX7_blanks_24 : decode cX7_blanks 24 = .ok (.return_, 1) := by decide +kernel
theorem dX7_number_0 : decode cX7_number 0 = .ok (.aload_n 0, 1) := by decide +kernel
theorem dX7_number_1 : decode cX7_number 1 = .ok (.invokevirtual 232, 3) := by decide +kernel
theorem dX7_number_4 : decode cX7_number 4 = .ok (.iconst 0, 1) := by decide +kernel
theorem dX7_number_5 : decode cX7_number 5 = .ok (.istore_n 1, 1) := by decide +kernel
theorem dX7_number_6 : decode cX7_number 6 = .ok (.iconst 0, 1) := by decide +kernel
theorem dX7_number_7 : decode cX7_number 7 = .ok (.istore_n 2, 1) := by decide +kernel
theorem dX7_number_8 : decode cX7_number 8 = .ok (.aload_n 0, 1) := by decide +kernel
theorem dX7_number_9 : decode cX7_number 9 = .ok (.aload_n 0, 1) := by decide +kernel
theorem dX7_number_10 : decode cX7_number 10 = .ok (.getfield 235, 3) := by decide +kernel
theorem dX7_number_13 : decode cX7_number 13 = .ok (.ifCond .ne 14, 3) := by decide +kernel
theorem dX7_number_16 : decode cX7_number 16 = .ok (.aload_n 0, 1) := by decide +kernel
theorem dX7_number_17 : decode cX7_number 17 = .ok (.bipush 48, 2) := by decide +kernel
theorem dX7_number_19 : decode cX7_number 19 = .ok (.bipush 57, 2) := by decide +kernel
theorem dX7_number_21 : decode cX7_number 21 = .ok (.invokevirtual 229, 3) := by decide +kernel
theorem dX7_number_24 : decode cX7_number 24 = .ok (.ifCond .ne 7, 3) := by decide +kernel
theorem dX7_number_27 : decode cX7_number 27 = .ok (.iconst 1, 1) := by decide +kernel
theorem dX7_number_28 : decode cX7_number 28 = .ok (.goto 4, 3) := by decide +kernel
theorem dX7_number_31 : decode cX7_number 31 = .ok (.iconst 0, 1) := by decide +kernel
theorem dX7_number_32 : decode cX7_number 32 = .ok (.putfield 235, 3) := by decide +kernel
theorem dX7_number_35 : decode cX7_number 35 = .ok (.aload_n 0, 1) := by decide +kernel
theorem dX7_number_36 : decode cX7_number 36 = .ok (.getfield 235, 3) := by decide +kernel
theorem dX7_number_39 : decode cX7_number 39 = .ok (.ifCond .ne 84, 3) := by decide +kernel
theorem dX7_number_42 : decode cX7_number 42 = .ok (.aload_n 0, 1) := by decide +kernel
theorem dX7_number_43 : decode cX7_number 43 = .ok (.bipush 48, 2) := by decide +kernel
theorem dX7_number_45 : decode cX7_number 45 = .ok (.bipush 57, 2) := by decide +kernel
theorem dX7_number_47 : decode cX7_number 47 = .ok (.invokevirtual 229, 3) := by decide +kernel
theorem dX7_number_50 : decode cX7_number 50 = .ok (.ifCond .eq 73, 3) := by decide +kernel
theorem dX7_number_53 : decode cX7_number 53 = .ok (.iinc 2 1, 3) := by decide +kernel
theorem dX7_number_56 : decode cX7_number 56 = .ok (.aload_n 0, 1) := by decide +kernel
theorem dX7_number_57 : decode cX7_number 57 = .ok (.iload_n 2, 1) := by decide +kernel
theorem dX7_number_58 : decode cX7_number 58 = .ok (.iconst 2, 1) := by decide +kernel
theorem dX7_number_59 : decode cX7_number 59 = .ok (.if_icmp .le 7, 3) := by decide +kernel
theorem dX7_number_62 : decode cX7_number 62 = .ok (.iconst 1, 1) := by decide +kernel
theorem dX7_number_63 : decode cX7_number 63 = .ok (.goto 4, 3) := by decide +kernel
theorem dX7_number_66 : decode cX7_number 66 = .ok (.iconst 0, 1) := by decide +kernel
theorem dX7_number_67 : decode cX7_number 67 = .ok (.putfield 235, 3) := by decide +kernel
theorem dX7_number_70 : decode cX7_number 70 = .ok (.aload_n 0, 1) := by decide +kernel
theorem dX7_number_71 : decode cX7_number 71 = .ok (.getfield 235, 3) := by decide +kernel
theorem dX7_number_74 : decode cX7_number 74 = .ok (.ifCond .eq 7, 3) := by decide +kernel
theorem dX7_number_77 : decode cX7_number 77 = .ok (.iload_n 1, 1) := by decide +kernel
theorem dX7_number_78 : decode cX7_number 78 = .ok (.goto 20, 3) := by decide +kernel
theorem dX7_number_81 : decode cX7_number 81 = .ok (.bipush 10, 2) := by decide +kernel
theorem dX7_number_83 : decode cX7_number 83 = .ok (.iload_n 1, 1) := by decide +kernel
theorem dX7_number_84 : decode cX7_number 84 = .ok (.imul, 1) := by decide +kernel
theorem dX7_number_85 : decode cX7_number 85 = .ok (.aload_n 0, 1) := by decide +kernel
theorem dX7_number_86 : decode cX7_number 86 = .ok (.getfield 22, 3) := by decide +kernel
theorem dX7_number_89 : decode cX7_number 89 = .ok (.aload_n 0, 1) := by decide +kernel
theorem dX7_number_90 : decode cX7_number 90 = .ok (.getfield 226, 3) := by decide +kernel
theorem dX7_number_93 : decode cX7_number 93 = .ok (.iaload, 1) := by decide +kernel
theorem dX7_number_94 : decode cX7_number 94 = .ok (.iadd, 1) := by decide +kernel
theorem dX7_number_95 : decode cX7_number 95 = .ok (.bipush 48, 2) := by decide +kernel
theorem dX7_number_97 : decode cX7_number 97 = .ok (.isub, 1) := by decide +kernel
theorem dX7_number_98 : decode cX7_number 98 = .ok (.istore_n 1, 1) := by decide +kernel
theorem dX7_number_99 : decode cX7_number 99 = .ok (.aload_n 0, 1) := by decide +kernel
theorem dX7_number_100 : decode cX7_number 100 = .ok (.dup, 1) := by decide +kernel
theorem dX7_number_101 : decode cX7_number 101 = .ok (.getfield 226, 3) := by decide +kernel
theorem dX7_number_104 : decode cX7_number 104 = .ok (.aload_n 0, 1) := by decide +kernel
theorem dX7_number_105 : decode cX7_number 105 = .ok (.getfield 235, 3) := by decide +kernel
theorem dX7_number_108 : decode cX7_number 108 = .ok (.ifCond .eq 7, 3) := by decide +kernel
theorem dX7_number_111 : decode cX7_number 111 = .ok (.iconst 0, 1) := by decide +kernel
theorem dX7_number_112 : decode cX7_number 112 = .ok (.goto 4, 3) := by decide +kernel
theorem dX7_number_115 : decode cX7_number 115 = .ok (.iconst 1, 1) := by decide +kernel
theorem dX7_number_116 : decode cX7_number 116 = .ok (.iadd, 1) := by decide +kernel
theorem dX7_number_117 : decode cX7_number 117 = .ok (.putfield 226, 3) := by decide +kernel
theorem dX7_number_120 : decode cX7_number 120 = .ok (.goto (-85), 3) := by decide +kernel
theorem dX7_number_123 : decode cX7_number 123 = .ok (.iload_n 1, 1) := by decide +kernel
theorem dX7_number_124 : decode cX7_number 124 = .ok (.ireturn, 1) := by decide +kernel
theorem dX7_passesLetters_0 : decode cX7_passesLetters 0 = .ok (.aload_n 0, 1) := by decide +kernel
theorem dX7_passesLetters_1 : decode cX7_passesLetters 1 = .ok (.invokevirtual 232, 3) := by decide +kernel
theorem dX7_passesLetters_4 : decode cX7_passesLetters 4 = .ok (.aload_n 0, 1) := by decide +kernel
theorem dX7_passesLetters_5 : decode cX7_passesLetters 5 = .ok (.getfield 226, 3) := by decide +kernel
theorem dX7_passesLetters_8 : decode cX7_passesLetters 8 = .ok (.istore_n 3, 1) := by decide +kernel
theorem dX7_passesLetters_9 : decode cX7_passesLetters 9 = .ok (.aload_n 0, 1) := by decide +kernel
theorem dX7_passesLetters_10 : decode cX7_passesLetters 10 = .ok (.bipush 97, 2) := by decide +kernel
theorem dX7_passesLetters_12 : decode cX7_passesLetters 12 = .ok (.bipush 104, 2) := by decide +kernel
theorem dX7_passesLetters_14 : decode cX7_passesLetters 14 = .ok (.invokevirtual 229, 3) := by decide +kernel
theorem dX7_passesLetters_17 : decode cX7_passesLetters 17 = .ok (.ifCond .eq 53, 3) := by decide +kernel
theorem dX7_passesLetters_20 : decode cX7_passesLetters 20 = .ok (.aload_n 0, 1) := by decide +kernel
theorem dX7_passesLetters_21 : decode cX7_passesLetters 21 = .ok (.getfield 235, 3) := by decide +kernel
theorem dX7_passesLetters_24 : decode cX7_passesLetters 24 = .ok (.ifCond .ne 46, 3) := by decide +kernel
theorem dX7_passesLetters_27 : decode cX7_passesLetters 27 = .ok (.aload_n 0, 1) := by decide +kernel
theorem dX7_passesLetters_28 : decode cX7_passesLetters 28 = .ok (.aload_n 0, 1) := by decide +kernel
theorem dX7_passesLetters_29 : decode cX7_passesLetters 29 = .ok (.getfield 226, 3) := by decide +kernel
theorem dX7_passesLetters_32 : decode cX7_passesLetters 32 = .ok (.iload_n 3, 1) := by decide +kernel
theorem dX7_passesLetters_33 : decode cX7_passesLetters 33 = .ok (.isub, 1) := by decide +kernel
theorem dX7_passesLetters_34 : decode cX7_passesLetters 34 = .ok (.iload_n 2, 1) := by decide +kernel
theorem dX7_passesLetters_35 : decode cX7_passesLetters 35 = .ok (.if_icmp .ne 7, 3) := by decide +kernel
theorem dX7_passesLetters_38 : decode cX7_passesLetters 38 = .ok (.iconst 1, 1) := by decide +kernel
theorem dX7_passesLetters_39 : decode cX7_passesLetters 39 = .ok (.goto 4, 3) := by decide +kernel
theorem dX7_passesLetters_42 : decode cX7_passesLetters 42 = .ok (.iconst 0, 1) := by decide +kernel
theorem dX7_passesLetters_43 : decode cX7_passesLetters 43 = .ok (.putfield 235, 3) := by decide +kernel
theorem dX7_passesLetters_46 : decode cX7_passesLetters 46 = .ok (.aload_n 0, 1) := by decide +kernel
theorem dX7_passesLetters_47 : decode cX7_passesLetters 47 = .ok (.dup, 1) := by decide +kernel
theorem dX7_passesLetters_48 : decode cX7_passesLetters 48 = .ok (.getfield 226, 3) := by decide +kernel
theorem dX7_passesLetters_51 : decode cX7_passesLetters 51 = .ok (.aload_n 0, 1) := by decide +kernel
theorem dX7_passesLetters_52 : decode cX7_passesLetters 52 = .ok (.getfield 235, 3) := by decide +kernel
theorem dX7_passesLetters_55 : decode cX7_passesLetters 55 = .ok (.ifCond .eq 7, 3) := by decide +kernel
theorem dX7_passesLetters_58 : decode cX7_passesLetters 58 = .ok (.iconst 0, 1) := by decide +kernel
theorem dX7_passesLetters_59 : decode cX7_passesLetters 59 = .ok (.goto 4, 3) := by decide +kernel
theorem dX7_passesLetters_62 : decode cX7_passesLetters 62 = .ok (.iconst 1, 1) := by decide +kernel
theorem dX7_passesLetters_63 : decode cX7_passesLetters 63 = .ok (.iadd, 1) := by decide +kernel
theorem dX7_passesLetters_64 : decode cX7_passesLetters 64 = .ok (.putfield 226, 3) := by decide +kernel
theorem dX7_passesLetters_67 : decode cX7_passesLetters 67 = .ok (.goto (-58), 3) := by decide +kernel
theorem dX7_passesLetters_70 : decode cX7_passesLetters 70 = .ok (.aload_n 0, 1) := by decide +kernel
theorem dX7_passesLetters_71 : decode cX7_passesLetters 71 = .ok (.aload_n 0, 1) := by decide +kernel
theorem dX7_passesLetters_72 : decode cX7_passesLetters 72 = .ok (.getfield 235, 3) := by decide +kernel
theorem dX7_passesLetters_75 : decode cX7_passesLetters 75 = .ok (.ifCond .ne 13, 3) := by decide +kernel
theorem dX7_passesLetters_78 : decode cX7_passesLetters 78 = .ok (.aload_n 0, 1) := by decide +kernel
theorem dX7_passesLetters_79 : decode cX7_passesLetters 79 = .ok (.getfield 226, 3) := by decide +kernel
theorem dX7_passesLetters_82 : decode cX7_passesLetters 82 = .ok (.iload_n 3, 1) := by decide +kernel
theorem dX7_passesLetters_83 : decode cX7_passesLetters 83 = .ok (.isub, 1) := by decide +kernel
theorem dX7_passesLetters_84 : decode cX7_passesLetters 84 = .ok (.iload_n 1, 1) := by decide +kernel
theorem dX7_passesLetters_85 : decode cX7_passesLetters 85 = .ok (.if_icmp .ge 7, 3) := by decide +kernel
theorem dX7_passesLetters_88 : decode cX7_passesLetters 88 = .ok (.iconst 1, 1) := by decide +kernel
theorem dX7_passesLetters_89 : decode cX7_passesLetters 89 = .ok (.goto 4, 3) := by decide +kernel
theorem dX7_passesLetters_92 : decode cX7_passesLetters 92 = .ok (.iconst 0, 1) := by decide +kernel
theorem dX7_passesLetters_93 : decode cX7_passesLetters 93 = .ok (.putfield 235, 3) := by decide +kernel
theorem dX7_passesLetters_96 : decode cX7_passesLetters 96 = .ok (.iload_n 3, 1) := by decide +kernel
theorem dX7_passesLetters_97 : decode cX7_passesLetters 97 = .ok (.ireturn, 1) := by decide +kernel
theorem dX7_manyOf_0 : decode cX7_manyOf 0 = .ok (.iload_n 0, 1) := by decide +kernel
theorem dX7_manyOf_1 : decode cX7_manyOf 1 = .ok (.tableswitch 113 98 120 #[109, 113, 113, 109, 109, 113, 113, 113, 113, 111, 107, 113, 113, 113, 113, 113, 113, 109, 109, 113, 113, 111, 109], 107) := by decide +kernel
theorem dX7_manyOf_108 : decode cX7_manyOf 108 = .ok (.iconst 0, 1) := by decide +kernel
theorem dX7_manyOf_109 : decode cX7_manyOf 109 = .ok (.ireturn, 1) := by decide +kernel
theorem dX7_manyOf_110 : decode cX7_manyOf 110 = .ok (.iconst 1, 1) := by decide +kernel
theorem dX7_manyOf_111 : decode cX7_manyOf 111 = .ok (.ireturn, 1) := by decide +kernel
theorem dX7_manyOf_112 : decode cX7_manyOf 112 = .ok (.iconst 2, 1) := by decide +kernel
theorem dX7_manyOf_113 : decode cX7_manyOf 113 = .ok (.ireturn, 1) := by decide +kernel
theorem dX7_manyOf_114 : decode cX7_manyOf 114 = .ok (.iconst (-1), 1) := by decide +kernel
theorem dX7_manyOf_115 : decode cX7_manyOf 115 = .ok (.ireturn, 1) := by decide +kernel
theorem dX7_readsParts_0 : decode cX7_readsParts 0 = .ok (.iconst 0, 1) := by decide +kernel
theorem dX7_readsParts_1 : decode cX7_readsParts 1 = .ok (.istore_n 3, 1) := by decide +kernel
theorem dX7_readsParts_2 : decode cX7_readsParts 2 = .ok (.iload_n 3, 1) := by decide +kernel
theorem dX7_readsParts_3 : decode cX7_readsParts 3 = .ok (.iload_n 2, 1) := by decide +kernel
theorem dX7_readsParts_4 : decode cX7_readsParts 4 = .ok (.if_icmp .ge 33, 3) := by decide +kernel
theorem dX7_readsParts_7 : decode cX7_readsParts 7 = .ok (.aload_n 0, 1) := by decide +kernel
theorem dX7_readsParts_8 : decode cX7_readsParts 8 = .ok (.getfield 235, 3) := by decide +kernel
theorem dX7_readsParts_11 : decode cX7_readsParts 11 = .ok (.ifCond .ne 26, 3) := by decide +kernel
theorem dX7_readsParts_14 : decode cX7_readsParts 14 = .ok (.aload_n 0, 1) := by decide +kernel
theorem dX7_readsParts_15 : decode cX7_readsParts 15 = .ok (.getfield 44, 3) := by decide +kernel
theorem dX7_readsParts_18 : decode cX7_readsParts 18 = .ok (.iconst 2, 1) := by decide +kernel
theorem dX7_readsParts_19 : decode cX7_readsParts 19 = .ok (.aload_n 0, 1) := by decide +kernel
theorem dX7_readsParts_20 : decode cX7_readsParts 20 = .ok (.getfield 238, 3) := by decide +kernel
theorem dX7_readsParts_23 : decode cX7_readsParts 23 = .ok (.imul, 1) := by decide +kernel
theorem dX7_readsParts_24 : decode cX7_readsParts 24 = .ok (.iload_n 3, 1) := by decide +kernel
theorem dX7_readsParts_25 : decode cX7_readsParts 25 = .ok (.iadd, 1) := by decide +kernel
theorem dX7_readsParts_26 : decode cX7_readsParts 26 = .ok (.aload_n 0, 1) := by decide +kernel
theorem dX7_readsParts_27 : decode cX7_readsParts 27 = .ok (.invokevirtual 241, 3) := by decide +kernel
theorem dX7_readsParts_30 : decode cX7_readsParts 30 = .ok (.iastore, 1) := by decide +kernel
theorem dX7_readsParts_31 : decode cX7_readsParts 31 = .ok (.iinc 3 1, 3) := by decide +kernel
theorem dX7_readsParts_34 : decode cX7_readsParts 34 = .ok (.goto (-32), 3) := by decide +kernel
theorem dX7_readsParts_37 : decode cX7_readsParts 37 = .ok (.aload_n 0, 1) := by decide +kernel
theorem dX7_readsParts_38 : decode cX7_readsParts 38 = .ok (.getfield 235, 3) := by decide +kernel
theorem dX7_readsParts_41 : decode cX7_readsParts 41 = .ok (.ifCond .ne 32, 3) := by decide +kernel
theorem dX7_readsParts_44 : decode cX7_readsParts 44 = .ok (.iload_n 1, 1) := by decide +kernel
theorem dX7_readsParts_45 : decode cX7_readsParts 45 = .ok (.bipush 102, 2) := by decide +kernel
theorem dX7_readsParts_47 : decode cX7_readsParts 47 = .ok (.if_icmp .ne 26, 3) := by decide +kernel
theorem dX7_readsParts_50 : decode cX7_readsParts 50 = .ok (.aload_n 0, 1) := by decide +kernel
theorem dX7_readsParts_51 : decode cX7_readsParts 51 = .ok (.getfield 44, 3) := by decide +kernel
theorem dX7_readsParts_54 : decode cX7_readsParts 54 = .ok (.iconst 2, 1) := by decide +kernel
theorem dX7_readsParts_55 : decode cX7_readsParts 55 = .ok (.aload_n 0, 1) := by decide +kernel
theorem dX7_readsParts_56 : decode cX7_readsParts 56 = .ok (.getfield 238, 3) := by decide +kernel
theorem dX7_readsParts_59 : decode cX7_readsParts 59 = .ok (.imul, 1) := by decide +kernel
theorem dX7_readsParts_60 : decode cX7_readsParts 60 = .ok (.iconst 1, 1) := by decide +kernel
theorem dX7_readsParts_61 : decode cX7_readsParts 61 = .ok (.iadd, 1) := by decide +kernel
theorem dX7_readsParts_62 : decode cX7_readsParts 62 = .ok (.aload_n 0, 1) := by decide +kernel
theorem dX7_readsParts_63 : decode cX7_readsParts 63 = .ok (.iconst 1, 1) := by decide +kernel
theorem dX7_readsParts_64 : decode cX7_readsParts 64 = .ok (.bipush 6, 2) := by decide +kernel
theorem dX7_readsParts_66 : decode cX7_readsParts 66 = .ok (.invokevirtual 244, 3) := by decide +kernel
theorem dX7_readsParts_69 : decode cX7_readsParts 69 = .ok (.iastore, 1) := by decide +kernel
theorem dX7_readsParts_70 : decode cX7_readsParts 70 = .ok (.goto 34, 3) := by decide +kernel
theorem dX7_readsParts_73 : decode cX7_readsParts 73 = .ok (.aload_n 0, 1) := by decide +kernel
theorem dX7_readsParts_74 : decode cX7_readsParts 74 = .ok (.getfield 235, 3) := by decide +kernel
theorem dX7_readsParts_77 : decode cX7_readsParts 77 = .ok (.ifCond .ne 27, 3) := by decide +kernel
theorem dX7_readsParts_80 : decode cX7_readsParts 80 = .ok (.iload_n 1, 1) := by decide +kernel
theorem dX7_readsParts_81 : decode cX7_readsParts 81 = .ok (.bipush 108, 2) := by decide +kernel
theorem dX7_readsParts_83 : decode cX7_readsParts 83 = .ok (.if_icmp .ne 21, 3) := by decide +kernel
theorem dX7_readsParts_86 : decode cX7_readsParts 86 = .ok (.aload_n 0, 1) := by decide +kernel
theorem dX7_readsParts_87 : decode cX7_readsParts 87 = .ok (.getfield 44, 3) := by decide +kernel
theorem dX7_readsParts_90 : decode cX7_readsParts 90 = .ok (.iconst 2, 1) := by decide +kernel
theorem dX7_readsParts_91 : decode cX7_readsParts 91 = .ok (.aload_n 0, 1) := by decide +kernel
theorem dX7_readsParts_92 : decode cX7_readsParts 92 = .ok (.getfield 238, 3) := by decide +kernel
theorem dX7_readsParts_95 : decode cX7_readsParts 95 = .ok (.imul, 1) := by decide +kernel
theorem dX7_readsParts_96 : decode cX7_readsParts 96 = .ok (.aload_n 0, 1) := by decide +kernel
theorem dX7_readsParts_97 : decode cX7_readsParts 97 = .ok (.iconst 0, 1) := by decide +kernel
theorem dX7_readsParts_98 : decode cX7_readsParts 98 = .ok (.bipush 40, 2) := by decide +kernel
theorem dX7_readsParts_100 : decode cX7_readsParts 100 = .ok (.invokevirtual 244, 3) := by decide +kernel
theorem dX7_readsParts_103 : decode cX7_readsParts 103 = .ok (.iastore, 1) := by decide +kernel
theorem dX7_readsParts_104 : decode cX7_readsParts 104 = .ok (.return_, 1) := by decide +kernel
theorem dX7_readsOrder_0 : decode cX7_readsOrder 0 = .ok (.aload_n 0, 1) := by decide +kernel
theorem dX7_readsOrder_1 : decode cX7_readsOrder 1 = .ok (.getfield 22, 3) := by decide +kernel
theorem dX7_readsOrder_4 : decode cX7_readsOrder 4 = .ok (.aload_n 0, 1) := by decide +kernel
theorem dX7_readsOrder_5 : decode cX7_readsOrder 5 = .ok (.getfield 226, 3) := by decide +kernel
theorem dX7_readsOrder_8 : decode cX7_readsOrder 8 = .ok (.iaload, 1) := by decide +kernel
theorem dX7_readsOrder_9 : decode cX7_readsOrder 9 = .ok (.istore_n 1, 1) := by decide +kernel
theorem dX7_readsOrder_10 : decode cX7_readsOrder 10 = .ok (.iload_n 1, 1) := by decide +kernel
theorem dX7_readsOrder_11 : decode cX7_readsOrder 11 = .ok (.invokestatic 247, 3) := by decide +kernel
theorem dX7_readsOrder_14 : decode cX7_readsOrder 14 = .ok (.istore_n 2, 1) := by decide +kernel
theorem dX7_readsOrder_15 : decode cX7_readsOrder 15 = .ok (.aload_n 0, 1) := by decide +kernel
theorem dX7_readsOrder_16 : decode cX7_readsOrder 16 = .ok (.iload_n 2, 1) := by decide +kernel
theorem dX7_readsOrder_17 : decode cX7_readsOrder 17 = .ok (.ifCond .ge 7, 3) := by decide +kernel
theorem dX7_readsOrder_20 : decode cX7_readsOrder 20 = .ok (.iconst 1, 1) := by decide +kernel
theorem dX7_readsOrder_21 : decode cX7_readsOrder 21 = .ok (.goto 4, 3) := by decide +kernel
theorem dX7_readsOrder_24 : decode cX7_readsOrder 24 = .ok (.iconst 0, 1) := by decide +kernel
theorem dX7_readsOrder_25 : decode cX7_readsOrder 25 = .ok (.putfield 235, 3) := by decide +kernel
theorem dX7_readsOrder_28 : decode cX7_readsOrder 28 = .ok (.aload_n 0, 1) := by decide +kernel
theorem dX7_readsOrder_29 : decode cX7_readsOrder 29 = .ok (.dup, 1) := by decide +kernel
theorem dX7_readsOrder_30 : decode cX7_readsOrder 30 = .ok (.getfield 226, 3) := by decide +kernel
theorem dX7_readsOrder_33 : decode cX7_readsOrder 33 = .ok (.aload_n 0, 1) := by decide +kernel
theorem dX7_readsOrder_34 : decode cX7_readsOrder 34 = .ok (.getfield 235, 3) := by decide +kernel
theorem dX7_readsOrder_37 : decode cX7_readsOrder 37 = .ok (.ifCond .eq 7, 3) := by decide +kernel
theorem dX7_readsOrder_40 : decode cX7_readsOrder 40 = .ok (.iconst 0, 1) := by decide +kernel
theorem dX7_readsOrder_41 : decode cX7_readsOrder 41 = .ok (.goto 4, 3) := by decide +kernel
theorem dX7_readsOrder_44 : decode cX7_readsOrder 44 = .ok (.iconst 1, 1) := by decide +kernel
theorem dX7_readsOrder_45 : decode cX7_readsOrder 45 = .ok (.iadd, 1) := by decide +kernel
theorem dX7_readsOrder_46 : decode cX7_readsOrder 46 = .ok (.putfield 226, 3) := by decide +kernel
theorem dX7_readsOrder_49 : decode cX7_readsOrder 49 = .ok (.aload_n 0, 1) := by decide +kernel
theorem dX7_readsOrder_50 : decode cX7_readsOrder 50 = .ok (.iload_n 1, 1) := by decide +kernel
theorem dX7_readsOrder_51 : decode cX7_readsOrder 51 = .ok (.iload_n 2, 1) := by decide +kernel
theorem dX7_readsOrder_52 : decode cX7_readsOrder 52 = .ok (.invokevirtual 250, 3) := by decide +kernel
theorem dX7_readsOrder_55 : decode cX7_readsOrder 55 = .ok (.aload_n 0, 1) := by decide +kernel
theorem dX7_readsOrder_56 : decode cX7_readsOrder 56 = .ok (.getfield 235, 3) := by decide +kernel
theorem dX7_readsOrder_59 : decode cX7_readsOrder 59 = .ok (.ifCond .ne 48, 3) := by decide +kernel
theorem dX7_readsOrder_62 : decode cX7_readsOrder 62 = .ok (.aload_n 0, 1) := by decide +kernel
theorem dX7_readsOrder_63 : decode cX7_readsOrder 63 = .ok (.invokevirtual 232, 3) := by decide +kernel
theorem dX7_readsOrder_66 : decode cX7_readsOrder 66 = .ok (.aload_n 0, 1) := by decide +kernel
theorem dX7_readsOrder_67 : decode cX7_readsOrder 67 = .ok (.aload_n 0, 1) := by decide +kernel
theorem dX7_readsOrder_68 : decode cX7_readsOrder 68 = .ok (.bipush 59, 2) := by decide +kernel
theorem dX7_readsOrder_70 : decode cX7_readsOrder 70 = .ok (.bipush 59, 2) := by decide +kernel
theorem dX7_readsOrder_72 : decode cX7_readsOrder 72 = .ok (.invokevirtual 229, 3) := by decide +kernel
theorem dX7_readsOrder_75 : decode cX7_readsOrder 75 = .ok (.ifCond .ne 7, 3) := by decide +kernel
theorem dX7_readsOrder_78 : decode cX7_readsOrder 78 = .ok (.iconst 1, 1) := by decide +kernel
theorem dX7_readsOrder_79 : decode cX7_readsOrder 79 = .ok (.goto 4, 3) := by decide +kernel
theorem dX7_readsOrder_82 : decode cX7_readsOrder 82 = .ok (.iconst 0, 1) := by decide +kernel
theorem dX7_readsOrder_83 : decode cX7_readsOrder 83 = .ok (.putfield 235, 3) := by decide +kernel
theorem dX7_readsOrder_86 : decode cX7_readsOrder 86 = .ok (.aload_n 0, 1) := by decide +kernel
theorem dX7_readsOrder_87 : decode cX7_readsOrder 87 = .ok (.dup, 1) := by decide +kernel
theorem dX7_readsOrder_88 : decode cX7_readsOrder 88 = .ok (.getfield 226, 3) := by decide +kernel
theorem dX7_readsOrder_91 : decode cX7_readsOrder 91 = .ok (.aload_n 0, 1) := by decide +kernel
theorem dX7_readsOrder_92 : decode cX7_readsOrder 92 = .ok (.getfield 235, 3) := by decide +kernel
theorem dX7_readsOrder_95 : decode cX7_readsOrder 95 = .ok (.ifCond .eq 7, 3) := by decide +kernel
theorem dX7_readsOrder_98 : decode cX7_readsOrder 98 = .ok (.iconst 0, 1) := by decide +kernel
theorem dX7_readsOrder_99 : decode cX7_readsOrder 99 = .ok (.goto 4, 3) := by decide +kernel
theorem dX7_readsOrder_102 : decode cX7_readsOrder 102 = .ok (.iconst 1, 1) := by decide +kernel
theorem dX7_readsOrder_103 : decode cX7_readsOrder 103 = .ok (.iadd, 1) := by decide +kernel
theorem dX7_readsOrder_104 : decode cX7_readsOrder 104 = .ok (.putfield 226, 3) := by decide +kernel
theorem dX7_readsOrder_107 : decode cX7_readsOrder 107 = .ok (.aload_n 0, 1) := by decide +kernel
theorem dX7_readsOrder_108 : decode cX7_readsOrder 108 = .ok (.getfield 235, 3) := by decide +kernel
theorem dX7_readsOrder_111 : decode cX7_readsOrder 111 = .ok (.ifCond .ne 23, 3) := by decide +kernel
theorem dX7_readsOrder_114 : decode cX7_readsOrder 114 = .ok (.aload_n 0, 1) := by decide +kernel
theorem dX7_readsOrder_115 : decode cX7_readsOrder 115 = .ok (.getfield 41, 3) := by decide +kernel
theorem dX7_readsOrder_118 : decode cX7_readsOrder 118 = .ok (.aload_n 0, 1) := by decide +kernel
theorem dX7_readsOrder_119 : decode cX7_readsOrder 119 = .ok (.getfield 238, 3) := by decide +kernel
theorem dX7_readsOrder_122 : decode cX7_readsOrder 122 = .ok (.iload_n 1, 1) := by decide +kernel
theorem dX7_readsOrder_123 : decode cX7_readsOrder 123 = .ok (.iastore, 1) := by decide +kernel
theorem dX7_readsOrder_124 : decode cX7_readsOrder 124 = .ok (.aload_n 0, 1) := by decide +kernel
theorem dX7_readsOrder_125 : decode cX7_readsOrder 125 = .ok (.dup, 1) := by decide +kernel
theorem dX7_readsOrder_126 : decode cX7_readsOrder 126 = .ok (.getfield 238, 3) := by decide +kernel
theorem dX7_readsOrder_129 : decode cX7_readsOrder 129 = .ok (.iconst 1, 1) := by decide +kernel
theorem dX7_readsOrder_130 : decode cX7_readsOrder 130 = .ok (.iadd, 1) := by decide +kernel
theorem dX7_readsOrder_131 : decode cX7_readsOrder 131 = .ok (.putfield 238, 3) := by decide +kernel
theorem dX7_readsOrder_134 : decode cX7_readsOrder 134 = .ok (.return_, 1) := by decide +kernel
theorem dX7_isRead_0 : decode cX7_isRead 0 = .ok (.aload_n 0, 1) := by decide +kernel
theorem dX7_isRead_1 : decode cX7_isRead 1 = .ok (.iconst 0, 1) := by decide +kernel
theorem dX7_isRead_2 : decode cX7_isRead 2 = .ok (.putfield 226, 3) := by decide +kernel
theorem dX7_isRead_5 : decode cX7_isRead 5 = .ok (.aload_n 0, 1) := by decide +kernel
theorem dX7_isRead_6 : decode cX7_isRead 6 = .ok (.iconst 0, 1) := by decide +kernel
theorem dX7_isRead_7 : decode cX7_isRead 7 = .ok (.putfield 238, 3) := by decide +kernel
theorem dX7_isRead_10 : decode cX7_isRead 10 = .ok (.aload_n 0, 1) := by decide +kernel
theorem dX7_isRead_11 : decode cX7_isRead 11 = .ok (.invokevirtual 232, 3) := by decide +kernel
theorem dX7_isRead_14 : decode cX7_isRead 14 = .ok (.aload_n 0, 1) := by decide +kernel
theorem dX7_isRead_15 : decode cX7_isRead 15 = .ok (.aload_n 0, 1) := by decide +kernel
theorem dX7_isRead_16 : decode cX7_isRead 16 = .ok (.getfield 226, 3) := by decide +kernel
theorem dX7_isRead_19 : decode cX7_isRead 19 = .ok (.aload_n 0, 1) := by decide +kernel
theorem dX7_isRead_20 : decode cX7_isRead 20 = .ok (.getfield 223, 3) := by decide +kernel
theorem dX7_isRead_23 : decode cX7_isRead 23 = .ok (.if_icmp .ne 7, 3) := by decide +kernel
theorem dX7_isRead_26 : decode cX7_isRead 26 = .ok (.iconst 1, 1) := by decide +kernel
theorem dX7_isRead_27 : decode cX7_isRead 27 = .ok (.goto 4, 3) := by decide +kernel
theorem dX7_isRead_30 : decode cX7_isRead 30 = .ok (.iconst 0, 1) := by decide +kernel
theorem dX7_isRead_31 : decode cX7_isRead 31 = .ok (.putfield 235, 3) := by decide +kernel
theorem dX7_isRead_34 : decode cX7_isRead 34 = .ok (.aload_n 0, 1) := by decide +kernel
theorem dX7_isRead_35 : decode cX7_isRead 35 = .ok (.getfield 235, 3) := by decide +kernel
theorem dX7_isRead_38 : decode cX7_isRead 38 = .ok (.ifCond .ne 32, 3) := by decide +kernel
theorem dX7_isRead_41 : decode cX7_isRead 41 = .ok (.aload_n 0, 1) := by decide +kernel
theorem dX7_isRead_42 : decode cX7_isRead 42 = .ok (.getfield 226, 3) := by decide +kernel
theorem dX7_isRead_45 : decode cX7_isRead 45 = .ok (.aload_n 0, 1) := by decide +kernel
theorem dX7_isRead_46 : decode cX7_isRead 46 = .ok (.getfield 223, 3) := by decide +kernel
theorem dX7_isRead_49 : decode cX7_isRead 49 = .ok (.if_icmp .ge 21, 3) := by decide +kernel
theorem dX7_isRead_52 : decode cX7_isRead 52 = .ok (.aload_n 0, 1) := by decide +kernel
theorem dX7_isRead_53 : decode cX7_isRead 53 = .ok (.invokevirtual 254, 3) := by decide +kernel
theorem dX7_isRead_56 : decode cX7_isRead 56 = .ok (.aload_n 0, 1) := by decide +kernel
theorem dX7_isRead_57 : decode cX7_isRead 57 = .ok (.getfield 235, 3) := by decide +kernel
theorem dX7_isRead_60 : decode cX7_isRead 60 = .ok (.ifCond .ne (-26), 3) := by decide +kernel
theorem dX7_isRead_63 : decode cX7_isRead 63 = .ok (.aload_n 0, 1) := by decide +kernel
theorem dX7_isRead_64 : decode cX7_isRead 64 = .ok (.invokevirtual 232, 3) := by decide +kernel
theorem dX7_isRead_67 : decode cX7_isRead 67 = .ok (.goto (-33), 3) := by decide +kernel
theorem dX7_isRead_70 : decode cX7_isRead 70 = .ok (.aload_n 0, 1) := by decide +kernel
theorem dX7_isRead_71 : decode cX7_isRead 71 = .ok (.getfield 235, 3) := by decide +kernel
theorem dX7_isRead_74 : decode cX7_isRead 74 = .ok (.ifCond .ne 7, 3) := by decide +kernel
theorem dX7_isRead_77 : decode cX7_isRead 77 = .ok (.iconst 1, 1) := by decide +kernel
theorem dX7_isRead_78 : decode cX7_isRead 78 = .ok (.goto 4, 3) := by decide +kernel
theorem dX7_isRead_81 : decode cX7_isRead 81 = .ok (.iconst 0, 1) := by decide +kernel
theorem dX7_isRead_82 : decode cX7_isRead 82 = .ok (.ireturn, 1) := by decide +kernel
theorem dX7_isLetter_0 : decode cX7_isLetter 0 = .ok (.iload_n 1, 1) := by decide +kernel
theorem dX7_isLetter_1 : decode cX7_isLetter 1 = .ok (.aload_n 0, 1) := by decide +kernel
theorem dX7_isLetter_2 : decode cX7_isLetter 2 = .ok (.getfield 223, 3) := by decide +kernel
theorem dX7_isLetter_5 : decode cX7_isLetter 5 = .ok (.if_icmp .ge 26, 3) := by decide +kernel
theorem dX7_isLetter_8 : decode cX7_isLetter 8 = .ok (.aload_n 0, 1) := by decide +kernel
theorem dX7_isLetter_9 : decode cX7_isLetter 9 = .ok (.getfield 22, 3) := by decide +kernel
theorem dX7_isLetter_12 : decode cX7_isLetter 12 = .ok (.iload_n 1, 1) := by decide +kernel
theorem dX7_isLetter_13 : decode cX7_isLetter 13 = .ok (.iaload, 1) := by decide +kernel
theorem dX7_isLetter_14 : decode cX7_isLetter 14 = .ok (.i2l, 1) := by decide +kernel
theorem dX7_isLetter_15 : decode cX7_isLetter 15 = .ok (.ldc2_w 257, 3) := by decide +kernel
theorem dX7_isLetter_18 : decode cX7_isLetter 18 = .ok (.ldc2_w 259, 3) := by decide +kernel
theorem dX7_isLetter_21 : decode cX7_isLetter 21 = .ok (.invokestatic 47, 3) := by decide +kernel
theorem dX7_isLetter_24 : decode cX7_isLetter 24 = .ok (.ifCond .eq 7, 3) := by decide +kernel
theorem dX7_isLetter_27 : decode cX7_isLetter 27 = .ok (.iconst 1, 1) := by decide +kernel
theorem dX7_isLetter_28 : decode cX7_isLetter 28 = .ok (.goto 4, 3) := by decide +kernel
theorem dX7_isLetter_31 : decode cX7_isLetter 31 = .ok (.iconst 0, 1) := by decide +kernel
theorem dX7_isLetter_32 : decode cX7_isLetter 32 = .ok (.ireturn, 1) := by decide +kernel
theorem dX7_codeFrom_0 : decode cX7_codeFrom 0 = .ok (.iconst 0, 1) := by decide +kernel
theorem dX7_codeFrom_1 : decode cX7_codeFrom 1 = .ok (.istore_n 2, 1) := by decide +kernel
theorem dX7_codeFrom_2 : decode cX7_codeFrom 2 = .ok (.iload_n 1, 1) := by decide +kernel
theorem dX7_codeFrom_3 : decode cX7_codeFrom 3 = .ok (.istore_n 3, 1) := by decide +kernel
theorem dX7_codeFrom_4 : decode cX7_codeFrom 4 = .ok (.aload_n 0, 1) := by decide +kernel
theorem dX7_codeFrom_5 : decode cX7_codeFrom 5 = .ok (.iload_n 3, 1) := by decide +kernel
theorem dX7_codeFrom_6 : decode cX7_codeFrom 6 = .ok (.invokevirtual 261, 3) := by decide +kernel
theorem dX7_codeFrom_9 : decode cX7_codeFrom 9 = .ok (.ifCond .eq 26, 3) := by decide +kernel
theorem dX7_codeFrom_12 : decode cX7_codeFrom 12 = .ok (.bipush 10, 2) := by decide +kernel
theorem dX7_codeFrom_14 : decode cX7_codeFrom 14 = .ok (.iload_n 2, 1) := by decide +kernel
theorem dX7_codeFrom_15 : decode cX7_codeFrom 15 = .ok (.imul, 1) := by decide +kernel
theorem dX7_codeFrom_16 : decode cX7_codeFrom 16 = .ok (.aload_n 0, 1) := by decide +kernel
theorem dX7_codeFrom_17 : decode cX7_codeFrom 17 = .ok (.getfield 22, 3) := by decide +kernel
theorem dX7_codeFrom_20 : decode cX7_codeFrom 20 = .ok (.iload_n 3, 1) := by decide +kernel
theorem dX7_codeFrom_21 : decode cX7_codeFrom 21 = .ok (.iaload, 1) := by decide +kernel
theorem dX7_codeFrom_22 : decode cX7_codeFrom 22 = .ok (.iadd, 1) := by decide +kernel
theorem dX7_codeFrom_23 : decode cX7_codeFrom 23 = .ok (.bipush 97, 2) := by decide +kernel
theorem dX7_codeFrom_25 : decode cX7_codeFrom 25 = .ok (.isub, 1) := by decide +kernel
theorem dX7_codeFrom_26 : decode cX7_codeFrom 26 = .ok (.iconst 1, 1) := by decide +kernel
theorem dX7_codeFrom_27 : decode cX7_codeFrom 27 = .ok (.iadd, 1) := by decide +kernel
theorem dX7_codeFrom_28 : decode cX7_codeFrom 28 = .ok (.istore_n 2, 1) := by decide +kernel
theorem dX7_codeFrom_29 : decode cX7_codeFrom 29 = .ok (.iinc 3 1, 3) := by decide +kernel
theorem dX7_codeFrom_32 : decode cX7_codeFrom 32 = .ok (.goto (-28), 3) := by decide +kernel
theorem dX7_codeFrom_35 : decode cX7_codeFrom 35 = .ok (.iload_n 2, 1) := by decide +kernel
theorem dX7_codeFrom_36 : decode cX7_codeFrom 36 = .ok (.ireturn, 1) := by decide +kernel
theorem dX7_setsLine_0 : decode cX7_setsLine 0 = .ok (.aload_n 0, 1) := by decide +kernel
theorem dX7_setsLine_1 : decode cX7_setsLine 1 = .ok (.getfield 7, 3) := by decide +kernel
theorem dX7_setsLine_4 : decode cX7_setsLine 4 = .ok (.iconst 1, 1) := by decide +kernel
theorem dX7_setsLine_5 : decode cX7_setsLine 5 = .ok (.iconst 0, 1) := by decide +kernel
theorem dX7_setsLine_6 : decode cX7_setsLine 6 = .ok (.iastore, 1) := by decide +kernel
theorem dX7_setsLine_7 : decode cX7_setsLine 7 = .ok (.iload_n 1, 1) := by decide +kernel
theorem dX7_setsLine_8 : decode cX7_setsLine 8 = .ok (.istore_n 2, 1) := by decide +kernel
theorem dX7_setsLine_9 : decode cX7_setsLine 9 = .ok (.aload_n 0, 1) := by decide +kernel
theorem dX7_setsLine_10 : decode cX7_setsLine 10 = .ok (.iload_n 2, 1) := by decide +kernel
theorem dX7_setsLine_11 : decode cX7_setsLine 11 = .ok (.invokevirtual 261, 3) := by decide +kernel
theorem dX7_setsLine_14 : decode cX7_setsLine 14 = .ok (.ifCond .eq 44, 3) := by decide +kernel
theorem dX7_setsLine_17 : decode cX7_setsLine 17 = .ok (.aload_n 0, 1) := by decide +kernel
theorem dX7_setsLine_18 : decode cX7_setsLine 18 = .ok (.getfield 7, 3) := by decide +kernel
theorem dX7_setsLine_21 : decode cX7_setsLine 21 = .ok (.bipush 69, 2) := by decide +kernel
theorem dX7_setsLine_23 : decode cX7_setsLine 23 = .ok (.aload_n 0, 1) := by decide +kernel
theorem dX7_setsLine_24 : decode cX7_setsLine 24 = .ok (.getfield 7, 3) := by decide +kernel
theorem dX7_setsLine_27 : decode cX7_setsLine 27 = .ok (.iconst 1, 1) := by decide +kernel
theorem dX7_setsLine_28 : decode cX7_setsLine 28 = .ok (.iaload, 1) := by decide +kernel
theorem dX7_setsLine_29 : decode cX7_setsLine 29 = .ok (.iadd, 1) := by decide +kernel
theorem dX7_setsLine_30 : decode cX7_setsLine 30 = .ok (.aload_n 0, 1) := by decide +kernel
theorem dX7_setsLine_31 : decode cX7_setsLine 31 = .ok (.getfield 22, 3) := by decide +kernel
theorem dX7_setsLine_34 : decode cX7_setsLine 34 = .ok (.iload_n 2, 1) := by decide +kernel
theorem dX7_setsLine_35 : decode cX7_setsLine 35 = .ok (.iaload, 1) := by decide +kernel
theorem dX7_setsLine_36 : decode cX7_setsLine 36 = .ok (.bipush 97, 2) := by decide +kernel
theorem dX7_setsLine_38 : decode cX7_setsLine 38 = .ok (.isub, 1) := by decide +kernel
theorem dX7_setsLine_39 : decode cX7_setsLine 39 = .ok (.iconst 1, 1) := by decide +kernel
theorem dX7_setsLine_40 : decode cX7_setsLine 40 = .ok (.iadd, 1) := by decide +kernel
theorem dX7_setsLine_41 : decode cX7_setsLine 41 = .ok (.iastore, 1) := by decide +kernel
theorem dX7_setsLine_42 : decode cX7_setsLine 42 = .ok (.aload_n 0, 1) := by decide +kernel
theorem dX7_setsLine_43 : decode cX7_setsLine 43 = .ok (.getfield 7, 3) := by decide +kernel
theorem dX7_setsLine_46 : decode cX7_setsLine 46 = .ok (.iconst 1, 1) := by decide +kernel
theorem dX7_setsLine_47 : decode cX7_setsLine 47 = .ok (.dup2, 1) := by decide +kernel
theorem dX7_setsLine_48 : decode cX7_setsLine 48 = .ok (.iaload, 1) := by decide +kernel
theorem dX7_setsLine_49 : decode cX7_setsLine 49 = .ok (.iconst 1, 1) := by decide +kernel
theorem dX7_setsLine_50 : decode cX7_setsLine 50 = .ok (.iadd, 1) := by decide +kernel
theorem dX7_setsLine_51 : decode cX7_setsLine 51 = .ok (.iastore, 1) := by decide +kernel
theorem dX7_setsLine_52 : decode cX7_setsLine 52 = .ok (.iinc 2 1, 3) := by decide +kernel
theorem dX7_setsLine_55 : decode cX7_setsLine 55 = .ok (.goto (-46), 3) := by decide +kernel
theorem dX7_setsLine_58 : decode cX7_setsLine 58 = .ok (.aload_n 0, 1) := by decide +kernel
theorem dX7_setsLine_59 : decode cX7_setsLine 59 = .ok (.getfield 7, 3) := by decide +kernel
theorem dX7_setsLine_62 : decode cX7_setsLine 62 = .ok (.iconst 1, 1) := by decide +kernel
theorem dX7_setsLine_63 : decode cX7_setsLine 63 = .ok (.iaload, 1) := by decide +kernel
theorem dX7_setsLine_64 : decode cX7_setsLine 64 = .ok (.ireturn, 1) := by decide +kernel
theorem dX7_doesOrder_0 : decode cX7_doesOrder 0 = .ok (.aload_n 0, 1) := by decide +kernel
theorem dX7_doesOrder_1 : decode cX7_doesOrder 1 = .ok (.getfield 44, 3) := by decide +kernel
theorem dX7_doesOrder_4 : decode cX7_doesOrder 4 = .ok (.iconst 2, 1) := by decide +kernel
theorem dX7_doesOrder_5 : decode cX7_doesOrder 5 = .ok (.iload_n 1, 1) := by decide +kernel
theorem dX7_doesOrder_6 : decode cX7_doesOrder 6 = .ok (.imul, 1) := by decide +kernel
theorem dX7_doesOrder_7 : decode cX7_doesOrder 7 = .ok (.iaload, 1) := by decide +kernel
theorem dX7_doesOrder_8 : decode cX7_doesOrder 8 = .ok (.istore_n 2, 1) := by decide +kernel
theorem dX7_doesOrder_9 : decode cX7_doesOrder 9 = .ok (.aload_n 0, 1) := by decide +kernel
theorem dX7_doesOrder_10 : decode cX7_doesOrder 10 = .ok (.getfield 44, 3) := by decide +kernel
theorem dX7_doesOrder_13 : decode cX7_doesOrder 13 = .ok (.iconst 2, 1) := by decide +kernel
theorem dX7_doesOrder_14 : decode cX7_doesOrder 14 = .ok (.iload_n 1, 1) := by decide +kernel
theorem dX7_doesOrder_15 : decode cX7_doesOrder 15 = .ok (.imul, 1) := by decide +kernel
theorem dX7_doesOrder_16 : decode cX7_doesOrder 16 = .ok (.iconst 1, 1) := by decide +kernel
theorem dX7_doesOrder_17 : decode cX7_doesOrder 17 = .ok (.iadd, 1) := by decide +kernel
theorem dX7_doesOrder_18 : decode cX7_doesOrder 18 = .ok (.iaload, 1) := by decide +kernel
theorem dX7_doesOrder_19 : decode cX7_doesOrder 19 = .ok (.istore_n 3, 1) := by decide +kernel
theorem dX7_doesOrder_20 : decode cX7_doesOrder 20 = .ok (.aload_n 0, 1) := by decide +kernel
theorem dX7_doesOrder_21 : decode cX7_doesOrder 21 = .ok (.getfield 41, 3) := by decide +kernel
theorem dX7_doesOrder_24 : decode cX7_doesOrder 24 = .ok (.iload_n 1, 1) := by decide +kernel
theorem dX7_doesOrder_25 : decode cX7_doesOrder 25 = .ok (.iaload, 1) := by decide +kernel
theorem dX7_doesOrder_26 : decode cX7_doesOrder 26 = .ok (.tableswitch 169 98 119 #[119, 169, 169, 129, 102, 169, 169, 169, 169, 156, 113, 169, 169, 169, 169, 169, 169, 163, 146, 169, 169, 139], 102) := by decide +kernel
theorem dX7_doesOrder_128 : decode cX7_doesOrder 128 = .ok (.aload_n 0, 1) := by decide +kernel
theorem dX7_doesOrder_129 : decode cX7_doesOrder 129 = .ok (.iload_n 2, 1) := by decide +kernel
theorem dX7_doesOrder_130 : decode cX7_doesOrder 130 = .ok (.aload_n 0, 1) := by decide +kernel
theorem dX7_doesOrder_131 : decode cX7_doesOrder 131 = .ok (.iload_n 3, 1) := by decide +kernel
theorem dX7_doesOrder_132 : decode cX7_doesOrder 132 = .ok (.invokevirtual 264, 3) := by decide +kernel
theorem dX7_doesOrder_135 : decode cX7_doesOrder 135 = .ok (.invokevirtual 90, 3) := by decide +kernel
theorem dX7_doesOrder_138 : decode cX7_doesOrder 138 = .ok (.ireturn, 1) := by decide +kernel
theorem dX7_doesOrder_139 : decode cX7_doesOrder 139 = .ok (.aload_n 0, 1) := by decide +kernel
theorem dX7_doesOrder_140 : decode cX7_doesOrder 140 = .ok (.iload_n 2, 1) := by decide +kernel
theorem dX7_doesOrder_141 : decode cX7_doesOrder 141 = .ok (.invokevirtual 267, 3) := by decide +kernel
theorem dX7_doesOrder_144 : decode cX7_doesOrder 144 = .ok (.ireturn, 1) := by decide +kernel
theorem dX7_doesOrder_145 : decode cX7_doesOrder 145 = .ok (.aload_n 0, 1) := by decide +kernel
theorem dX7_doesOrder_146 : decode cX7_doesOrder 146 = .ok (.iconst 3, 1) := by decide +kernel
theorem dX7_doesOrder_147 : decode cX7_doesOrder 147 = .ok (.iload_n 2, 1) := by decide +kernel
theorem dX7_doesOrder_148 : decode cX7_doesOrder 148 = .ok (.iconst 0, 1) := by decide +kernel
theorem dX7_doesOrder_149 : decode cX7_doesOrder 149 = .ok (.bipush 15, 2) := by decide +kernel
theorem dX7_doesOrder_151 : decode cX7_doesOrder 151 = .ok (.invokevirtual 81, 3) := by decide +kernel
theorem dX7_doesOrder_154 : decode cX7_doesOrder 154 = .ok (.ireturn, 1) := by decide +kernel
theorem dX7_doesOrder_155 : decode cX7_doesOrder 155 = .ok (.aload_n 0, 1) := by decide +kernel
theorem dX7_doesOrder_156 : decode cX7_doesOrder 156 = .ok (.iconst 4, 1) := by decide +kernel
theorem dX7_doesOrder_157 : decode cX7_doesOrder 157 = .ok (.iload_n 2, 1) := by decide +kernel
theorem dX7_doesOrder_158 : decode cX7_doesOrder 158 = .ok (.iconst 0, 1) := by decide +kernel
theorem dX7_doesOrder_159 : decode cX7_doesOrder 159 = .ok (.bipush 15, 2) := by decide +kernel
theorem dX7_doesOrder_161 : decode cX7_doesOrder 161 = .ok (.invokevirtual 81, 3) := by decide +kernel
theorem dX7_doesOrder_164 : decode cX7_doesOrder 164 = .ok (.ireturn, 1) := by decide +kernel
theorem dX7_doesOrder_165 : decode cX7_doesOrder 165 = .ok (.aload_n 0, 1) := by decide +kernel
theorem dX7_doesOrder_166 : decode cX7_doesOrder 166 = .ok (.iload_n 2, 1) := by decide +kernel
theorem dX7_doesOrder_167 : decode cX7_doesOrder 167 = .ok (.iload_n 3, 1) := by decide +kernel
theorem dX7_doesOrder_168 : decode cX7_doesOrder 168 = .ok (.invokevirtual 101, 3) := by decide +kernel
theorem dX7_doesOrder_171 : decode cX7_doesOrder 171 = .ok (.ireturn, 1) := by decide +kernel
theorem dX7_doesOrder_172 : decode cX7_doesOrder 172 = .ok (.aload_n 0, 1) := by decide +kernel
theorem dX7_doesOrder_173 : decode cX7_doesOrder 173 = .ok (.iconst 2, 1) := by decide +kernel
theorem dX7_doesOrder_174 : decode cX7_doesOrder 174 = .ok (.iload_n 2, 1) := by decide +kernel
theorem dX7_doesOrder_175 : decode cX7_doesOrder 175 = .ok (.iconst 1, 1) := by decide +kernel
theorem dX7_doesOrder_176 : decode cX7_doesOrder 176 = .ok (.bipush 40, 2) := by decide +kernel
theorem dX7_doesOrder_178 : decode cX7_doesOrder 178 = .ok (.invokevirtual 81, 3) := by decide +kernel
theorem dX7_doesOrder_181 : decode cX7_doesOrder 181 = .ok (.ireturn, 1) := by decide +kernel
theorem dX7_doesOrder_182 : decode cX7_doesOrder 182 = .ok (.aload_n 0, 1) := by decide +kernel
theorem dX7_doesOrder_183 : decode cX7_doesOrder 183 = .ok (.iload_n 2, 1) := by decide +kernel
theorem dX7_doesOrder_184 : decode cX7_doesOrder 184 = .ok (.iload_n 3, 1) := by decide +kernel
theorem dX7_doesOrder_185 : decode cX7_doesOrder 185 = .ok (.invokevirtual 104, 3) := by decide +kernel
theorem dX7_doesOrder_188 : decode cX7_doesOrder 188 = .ok (.ireturn, 1) := by decide +kernel
theorem dX7_doesOrder_189 : decode cX7_doesOrder 189 = .ok (.aload_n 0, 1) := by decide +kernel
theorem dX7_doesOrder_190 : decode cX7_doesOrder 190 = .ok (.iload_n 2, 1) := by decide +kernel
theorem dX7_doesOrder_191 : decode cX7_doesOrder 191 = .ok (.invokevirtual 215, 3) := by decide +kernel
theorem dX7_doesOrder_194 : decode cX7_doesOrder 194 = .ok (.ireturn, 1) := by decide +kernel
theorem dX7_doesOrder_195 : decode cX7_doesOrder 195 = .ok (.aload_n 0, 1) := by decide +kernel
theorem dX7_doesOrder_196 : decode cX7_doesOrder 196 = .ok (.iload_n 2, 1) := by decide +kernel
theorem dX7_doesOrder_197 : decode cX7_doesOrder 197 = .ok (.invokevirtual 98, 3) := by decide +kernel
theorem dX7_doesOrder_200 : decode cX7_doesOrder 200 = .ok (.ireturn, 1) := by decide +kernel
theorem dX7_reads_0 : decode cX7_reads 0 = .ok (.aload_n 0, 1) := by decide +kernel
theorem dX7_reads_1 : decode cX7_reads 1 = .ok (.invokevirtual 270, 3) := by decide +kernel
theorem dX7_reads_4 : decode cX7_reads 4 = .ok (.ifCond .ne 11, 3) := by decide +kernel
theorem dX7_reads_7 : decode cX7_reads 7 = .ok (.bipush (-10), 2) := by decide +kernel
theorem dX7_reads_9 : decode cX7_reads 9 = .ok (.aload_n 0, 1) := by decide +kernel
theorem dX7_reads_10 : decode cX7_reads 10 = .ok (.getfield 226, 3) := by decide +kernel
theorem dX7_reads_13 : decode cX7_reads 13 = .ok (.isub, 1) := by decide +kernel
theorem dX7_reads_14 : decode cX7_reads 14 = .ok (.ireturn, 1) := by decide +kernel
theorem dX7_reads_15 : decode cX7_reads 15 = .ok (.aload_n 0, 1) := by decide +kernel
theorem dX7_reads_16 : decode cX7_reads 16 = .ok (.invokevirtual 87, 3) := by decide +kernel
theorem dX7_reads_19 : decode cX7_reads 19 = .ok (.iconst 0, 1) := by decide +kernel
theorem dX7_reads_20 : decode cX7_reads 20 = .ok (.istore_n 1, 1) := by decide +kernel
theorem dX7_reads_21 : decode cX7_reads 21 = .ok (.iload_n 1, 1) := by decide +kernel
theorem dX7_reads_22 : decode cX7_reads 22 = .ok (.aload_n 0, 1) := by decide +kernel
theorem dX7_reads_23 : decode cX7_reads 23 = .ok (.getfield 238, 3) := by decide +kernel
theorem dX7_reads_26 : decode cX7_reads 26 = .ok (.if_icmp .ge 50, 3) := by decide +kernel
theorem dX7_reads_29 : decode cX7_reads 29 = .ok (.aload_n 0, 1) := by decide +kernel
theorem dX7_reads_30 : decode cX7_reads 30 = .ok (.iload_n 1, 1) := by decide +kernel
theorem dX7_reads_31 : decode cX7_reads 31 = .ok (.invokevirtual 274, 3) := by decide +kernel
theorem dX7_reads_34 : decode cX7_reads 34 = .ok (.ifCond .ge 36, 3) := by decide +kernel
theorem dX7_reads_37 : decode cX7_reads 37 = .ok (.iconst 0, 1) := by decide +kernel
theorem dX7_reads_38 : decode cX7_reads 38 = .ok (.istore_n 2, 1) := by decide +kernel
theorem dX7_reads_39 : decode cX7_reads 39 = .ok (.iload_n 2, 1) := by decide +kernel
theorem dX7_reads_40 : decode cX7_reads 40 = .ok (.sipush 148, 3) := by decide +kernel
theorem dX7_reads_43 : decode cX7_reads 43 = .ok (.if_icmp .ge 21, 3) := by decide +kernel
theorem dX7_reads_46 : decode cX7_reads 46 = .ok (.aload_n 0, 1) := by decide +kernel
theorem dX7_reads_47 : decode cX7_reads 47 = .ok (.getfield 7, 3) := by decide +kernel
theorem dX7_reads_50 : decode cX7_reads 50 = .ok (.iload_n 2, 1) := by decide +kernel
theorem dX7_reads_51 : decode cX7_reads 51 = .ok (.aload_n 0, 1) := by decide +kernel
theorem dX7_reads_52 : decode cX7_reads 52 = .ok (.getfield 13, 3) := by decide +kernel
theorem dX7_reads_55 : decode cX7_reads 55 = .ok (.iload_n 2, 1) := by decide +kernel
theorem dX7_reads_56 : decode cX7_reads 56 = .ok (.iaload, 1) := by decide +kernel
theorem dX7_reads_57 : decode cX7_reads 57 = .ok (.iastore, 1) := by decide +kernel
theorem dX7_reads_58 : decode cX7_reads 58 = .ok (.iinc 2 1, 3) := by decide +kernel
theorem dX7_reads_61 : decode cX7_reads 61 = .ok (.goto (-22), 3) := by decide +kernel
theorem dX7_reads_64 : decode cX7_reads 64 = .ok (.sipush (-1000), 3) := by decide +kernel
theorem dX7_reads_67 : decode cX7_reads 67 = .ok (.iload_n 1, 1) := by decide +kernel
theorem dX7_reads_68 : decode cX7_reads 68 = .ok (.isub, 1) := by decide +kernel
theorem dX7_reads_69 : decode cX7_reads 69 = .ok (.ireturn, 1) := by decide +kernel
theorem dX7_reads_70 : decode cX7_reads 70 = .ok (.iinc 1 1, 3) := by decide +kernel
theorem dX7_reads_73 : decode cX7_reads 73 = .ok (.goto (-52), 3) := by decide +kernel
theorem dX7_reads_76 : decode cX7_reads 76 = .ok (.aload_n 0, 1) := by decide +kernel
theorem dX7_reads_77 : decode cX7_reads 77 = .ok (.invokevirtual 59, 3) := by decide +kernel
theorem dX7_reads_80 : decode cX7_reads 80 = .ok (.aload_n 0, 1) := by decide +kernel
theorem dX7_reads_81 : decode cX7_reads 81 = .ok (.getfield 238, 3) := by decide +kernel
theorem dX7_reads_84 : decode cX7_reads 84 = .ok (.ireturn, 1) := by decide +kernel
theorem dX7_toldOf_0 : decode cX7_toldOf 0 = .ok (.iload_n 1, 1) := by decide +kernel
theorem dX7_toldOf_1 : decode cX7_toldOf 1 = .ok (.iconst 4, 1) := by decide +kernel
theorem dX7_toldOf_2 : decode cX7_toldOf 2 = .ok (.if_icmp .ge 10, 3) := by decide +kernel
theorem dX7_toldOf_5 : decode cX7_toldOf 5 = .ok (.aload_n 0, 1) := by decide +kernel
theorem dX7_toldOf_6 : decode cX7_toldOf 6 = .ok (.getfield 19, 3) := by decide +kernel
theorem dX7_toldOf_9 : decode cX7_toldOf 9 = .ok (.iload_n 1, 1) := by decide +kernel
theorem dX7_toldOf_10 : decode cX7_toldOf 10 = .ok (.iaload, 1) := by decide +kernel
theorem dX7_toldOf_11 : decode cX7_toldOf 11 = .ok (.ireturn, 1) := by decide +kernel
theorem dX7_toldOf_12 : decode cX7_toldOf 12 = .ok (.iload_n 1, 1) := by decide +kernel
theorem dX7_toldOf_13 : decode cX7_toldOf 13 = .ok (.tableswitch 90 4 14 #[59, 64, 71, 78, 90, 90, 90, 90, 90, 90, 85], 59) := by decide +kernel
theorem dX7_toldOf_72 : decode cX7_toldOf 72 = .ok (.aload_n 0, 1) := by decide +kernel
theorem dX7_toldOf_73 : decode cX7_toldOf 73 = .ok (.getfield 223, 3) := by decide +kernel
theorem dX7_toldOf_76 : decode cX7_toldOf 76 = .ok (.ireturn, 1) := by decide +kernel
theorem dX7_toldOf_77 : decode cX7_toldOf 77 = .ok (.aload_n 0, 1) := by decide +kernel
theorem dX7_toldOf_78 : decode cX7_toldOf 78 = .ok (.getfield 7, 3) := by decide +kernel
theorem dX7_toldOf_81 : decode cX7_toldOf 81 = .ok (.iconst 0, 1) := by decide +kernel
theorem dX7_toldOf_82 : decode cX7_toldOf 82 = .ok (.iaload, 1) := by decide +kernel
theorem dX7_toldOf_83 : decode cX7_toldOf 83 = .ok (.ireturn, 1) := by decide +kernel
theorem dX7_toldOf_84 : decode cX7_toldOf 84 = .ok (.aload_n 0, 1) := by decide +kernel
theorem dX7_toldOf_85 : decode cX7_toldOf 85 = .ok (.getfield 7, 3) := by decide +kernel
theorem dX7_toldOf_88 : decode cX7_toldOf 88 = .ok (.iconst 1, 1) := by decide +kernel
theorem dX7_toldOf_89 : decode cX7_toldOf 89 = .ok (.iaload, 1) := by decide +kernel
theorem dX7_toldOf_90 : decode cX7_toldOf 90 = .ok (.ireturn, 1) := by decide +kernel
theorem dX7_toldOf_91 : decode cX7_toldOf 91 = .ok (.aload_n 0, 1) := by decide +kernel
theorem dX7_toldOf_92 : decode cX7_toldOf 92 = .ok (.getfield 7, 3) := by decide +kernel
theorem dX7_toldOf_95 : decode cX7_toldOf 95 = .ok (.iconst 2, 1) := by decide +kernel
theorem dX7_toldOf_96 : decode cX7_toldOf 96 = .ok (.iaload, 1) := by decide +kernel
theorem dX7_toldOf_97 : decode cX7_toldOf 97 = .ok (.ireturn, 1) := by decide +kernel
theorem dX7_toldOf_98 : decode cX7_toldOf 98 = .ok (.aload_n 0, 1) := by decide +kernel
theorem dX7_toldOf_99 : decode cX7_toldOf 99 = .ok (.getfield 51, 3) := by decide +kernel
theorem dX7_toldOf_102 : decode cX7_toldOf 102 = .ok (.ireturn, 1) := by decide +kernel
theorem dX7_toldOf_103 : decode cX7_toldOf 103 = .ok (.aload_n 0, 1) := by decide +kernel
theorem dX7_toldOf_104 : decode cX7_toldOf 104 = .ok (.getfield 7, 3) := by decide +kernel
theorem dX7_toldOf_107 : decode cX7_toldOf 107 = .ok (.iconst 3, 1) := by decide +kernel
theorem dX7_toldOf_108 : decode cX7_toldOf 108 = .ok (.iload_n 1, 1) := by decide +kernel
theorem dX7_toldOf_109 : decode cX7_toldOf 109 = .ok (.iadd, 1) := by decide +kernel
theorem dX7_toldOf_110 : decode cX7_toldOf 110 = .ok (.bipush 8, 2) := by decide +kernel
theorem dX7_toldOf_112 : decode cX7_toldOf 112 = .ok (.isub, 1) := by decide +kernel
theorem dX7_toldOf_113 : decode cX7_toldOf 113 = .ok (.iaload, 1) := by decide +kernel
theorem dX7_toldOf_114 : decode cX7_toldOf 114 = .ok (.ireturn, 1) := by decide +kernel
theorem dX7_told_0 : decode cX7_told 0 = .ok (.iload_n 1, 1) := by decide +kernel
theorem dX7_told_1 : decode cX7_told 1 = .ok (.i2l, 1) := by decide +kernel
theorem dX7_told_2 : decode cX7_told 2 = .ok (.lconst 0, 1) := by decide +kernel
theorem dX7_told_3 : decode cX7_told 3 = .ok (.ldc2_w 277, 3) := by decide +kernel
theorem dX7_told_6 : decode cX7_told 6 = .ok (.invokestatic 47, 3) := by decide +kernel
theorem dX7_told_9 : decode cX7_told 9 = .ok (.ifCond .eq 11, 3) := by decide +kernel
theorem dX7_told_12 : decode cX7_told 12 = .ok (.aload_n 0, 1) := by decide +kernel
theorem dX7_told_13 : decode cX7_told 13 = .ok (.iload_n 1, 1) := by decide +kernel
theorem dX7_told_14 : decode cX7_told 14 = .ok (.invokevirtual 279, 3) := by decide +kernel
theorem dX7_told_17 : decode cX7_told 17 = .ok (.goto 7, 3) := by decide +kernel
theorem dX7_told_20 : decode cX7_told 20 = .ok (.aload_n 0, 1) := by decide +kernel
theorem dX7_told_21 : decode cX7_told 21 = .ok (.invokevirtual 65, 3) := by decide +kernel
theorem dX7_told_24 : decode cX7_told 24 = .ok (.ireturn, 1) := by decide +kernel
theorem dX7_mix_0 : decode cX7_mix 0 = .ok (.aload_n 0, 1) := by decide +kernel
theorem dX7_mix_1 : decode cX7_mix 1 = .ok (.ldc2_w 282, 3) := by decide +kernel
theorem dX7_mix_4 : decode cX7_mix 4 = .ok (.aload_n 0, 1) := by decide +kernel
theorem dX7_mix_5 : decode cX7_mix 5 = .ok (.getfield 284, 3) := by decide +kernel
theorem dX7_mix_8 : decode cX7_mix 8 = .ok (.lmul, 1) := by decide +kernel
theorem dX7_mix_9 : decode cX7_mix 9 = .ok (.lload_n 1, 1) := by decide +kernel
theorem dX7_mix_10 : decode cX7_mix 10 = .ok (.ladd, 1) := by decide +kernel
theorem dX7_mix_11 : decode cX7_mix 11 = .ok (.putfield 284, 3) := by decide +kernel
theorem dX7_mix_14 : decode cX7_mix 14 = .ok (.return_, 1) := by decide +kernel
theorem dX7_digest_0 : decode cX7_digest 0 = .ok (.aload_n 0, 1) := by decide +kernel
theorem dX7_digest_1 : decode cX7_digest 1 = .ok (.ldc2_w 288, 3) := by decide +kernel
theorem dX7_digest_4 : decode cX7_digest 4 = .ok (.putfield 284, 3) := by decide +kernel
theorem dX7_digest_7 : decode cX7_digest 7 = .ok (.iconst 0, 1) := by decide +kernel
theorem dX7_digest_8 : decode cX7_digest 8 = .ok (.istore_n 1, 1) := by decide +kernel
theorem dX7_digest_9 : decode cX7_digest 9 = .ok (.iload_n 1, 1) := by decide +kernel
theorem dX7_digest_10 : decode cX7_digest 10 = .ok (.bipush 15, 2) := by decide +kernel
theorem dX7_digest_12 : decode cX7_digest 12 = .ok (.if_icmp .ge 19, 3) := by decide +kernel
theorem dX7_digest_15 : decode cX7_digest 15 = .ok (.aload_n 0, 1) := by decide +kernel
theorem dX7_digest_16 : decode cX7_digest 16 = .ok (.aload_n 0, 1) := by decide +kernel
theorem dX7_digest_17 : decode cX7_digest 17 = .ok (.iload_n 1, 1) := by decide +kernel
theorem dX7_digest_18 : decode cX7_digest 18 = .ok (.invokevirtual 279, 3) := by decide +kernel
theorem dX7_digest_21 : decode cX7_digest 21 = .ok (.i2l, 1) := by decide +kernel
theorem dX7_digest_22 : decode cX7_digest 22 = .ok (.invokevirtual 290, 3) := by decide +kernel
theorem dX7_digest_25 : decode cX7_digest 25 = .ok (.iinc 1 1, 3) := by decide +kernel
theorem dX7_digest_28 : decode cX7_digest 28 = .ok (.goto (-19), 3) := by decide +kernel
theorem dX7_digest_31 : decode cX7_digest 31 = .ok (.iconst 0, 1) := by decide +kernel
theorem dX7_digest_32 : decode cX7_digest 32 = .ok (.istore_n 1, 1) := by decide +kernel
theorem dX7_digest_33 : decode cX7_digest 33 = .ok (.iload_n 1, 1) := by decide +kernel
theorem dX7_digest_34 : decode cX7_digest 34 = .ok (.bipush 7, 2) := by decide +kernel
theorem dX7_digest_36 : decode cX7_digest 36 = .ok (.aload_n 0, 1) := by decide +kernel
theorem dX7_digest_37 : decode cX7_digest 37 = .ok (.getfield 7, 3) := by decide +kernel
theorem dX7_digest_40 : decode cX7_digest 40 = .ok (.iconst 0, 1) := by decide +kernel
theorem dX7_digest_41 : decode cX7_digest 41 = .ok (.iaload, 1) := by decide +kernel
theorem dX7_digest_42 : decode cX7_digest 42 = .ok (.imul, 1) := by decide +kernel
theorem dX7_digest_43 : decode cX7_digest 43 = .ok (.if_icmp .ge 26, 3) := by decide +kernel
theorem dX7_digest_46 : decode cX7_digest 46 = .ok (.aload_n 0, 1) := by decide +kernel
theorem dX7_digest_47 : decode cX7_digest 47 = .ok (.aload_n 0, 1) := by decide +kernel
theorem dX7_digest_48 : decode cX7_digest 48 = .ok (.iload_n 1, 1) := by decide +kernel
theorem dX7_digest_49 : decode cX7_digest 49 = .ok (.bipush 7, 2) := by decide +kernel
theorem dX7_digest_51 : decode cX7_digest 51 = .ok (.idiv, 1) := by decide +kernel
theorem dX7_digest_52 : decode cX7_digest 52 = .ok (.iload_n 1, 1) := by decide +kernel
theorem dX7_digest_53 : decode cX7_digest 53 = .ok (.bipush 7, 2) := by decide +kernel
theorem dX7_digest_55 : decode cX7_digest 55 = .ok (.irem, 1) := by decide +kernel
theorem dX7_digest_56 : decode cX7_digest 56 = .ok (.invokevirtual 118, 3) := by decide +kernel
theorem dX7_digest_59 : decode cX7_digest 59 = .ok (.i2l, 1) := by decide +kernel
theorem dX7_digest_60 : decode cX7_digest 60 = .ok (.invokevirtual 290, 3) := by decide +kernel
theorem dX7_digest_63 : decode cX7_digest 63 = .ok (.iinc 1 1, 3) := by decide +kernel
theorem dX7_digest_66 : decode cX7_digest 66 = .ok (.goto (-33), 3) := by decide +kernel
theorem dX7_digest_69 : decode cX7_digest 69 = .ok (.iconst 0, 1) := by decide +kernel
theorem dX7_digest_70 : decode cX7_digest 70 = .ok (.istore_n 1, 1) := by decide +kernel
theorem dX7_digest_71 : decode cX7_digest 71 = .ok (.iload_n 1, 1) := by decide +kernel
theorem dX7_digest_72 : decode cX7_digest 72 = .ok (.aload_n 0, 1) := by decide +kernel
theorem dX7_digest_73 : decode cX7_digest 73 = .ok (.getfield 7, 3) := by decide +kernel
theorem dX7_digest_76 : decode cX7_digest 76 = .ok (.iconst 1, 1) := by decide +kernel
theorem dX7_digest_77 : decode cX7_digest 77 = .ok (.iaload, 1) := by decide +kernel
theorem dX7_digest_78 : decode cX7_digest 78 = .ok (.if_icmp .ge 23, 3) := by decide +kernel
theorem dX7_digest_81 : decode cX7_digest 81 = .ok (.aload_n 0, 1) := by decide +kernel
theorem dX7_digest_82 : decode cX7_digest 82 = .ok (.aload_n 0, 1) := by decide +kernel
theorem dX7_digest_83 : decode cX7_digest 83 = .ok (.getfield 7, 3) := by decide +kernel
theorem dX7_digest_86 : decode cX7_digest 86 = .ok (.bipush 69, 2) := by decide +kernel
theorem dX7_digest_88 : decode cX7_digest 88 = .ok (.iload_n 1, 1) := by decide +kernel
theorem dX7_digest_89 : decode cX7_digest 89 = .ok (.iadd, 1) := by decide +kernel
theorem dX7_digest_90 : decode cX7_digest 90 = .ok (.iaload, 1) := by decide +kernel
theorem dX7_digest_91 : decode cX7_digest 91 = .ok (.i2l, 1) := by decide +kernel
theorem dX7_digest_92 : decode cX7_digest 92 = .ok (.invokevirtual 290, 3) := by decide +kernel
theorem dX7_digest_95 : decode cX7_digest 95 = .ok (.iinc 1 1, 3) := by decide +kernel
theorem dX7_digest_98 : decode cX7_digest 98 = .ok (.goto (-27), 3) := by decide +kernel
theorem dX7_digest_101 : decode cX7_digest 101 = .ok (.iconst 1, 1) := by decide +kernel
theorem dX7_digest_102 : decode cX7_digest 102 = .ok (.istore_n 1, 1) := by decide +kernel
theorem dX7_digest_103 : decode cX7_digest 103 = .ok (.iload_n 1, 1) := by decide +kernel
theorem dX7_digest_104 : decode cX7_digest 104 = .ok (.bipush 40, 2) := by decide +kernel
theorem dX7_digest_106 : decode cX7_digest 106 = .ok (.if_icmp .ge 23, 3) := by decide +kernel
theorem dX7_digest_109 : decode cX7_digest 109 = .ok (.aload_n 0, 1) := by decide +kernel
theorem dX7_digest_110 : decode cX7_digest 110 = .ok (.aload_n 0, 1) := by decide +kernel
theorem dX7_digest_111 : decode cX7_digest 111 = .ok (.getfield 7, 3) := by decide +kernel
theorem dX7_digest_114 : decode cX7_digest 114 = .ok (.bipush 108, 2) := by decide +kernel
theorem dX7_digest_116 : decode cX7_digest 116 = .ok (.iload_n 1, 1) := by decide +kernel
theorem dX7_digest_117 : decode cX7_digest 117 = .ok (.iadd, 1) := by decide +kernel
theorem dX7_digest_118 : decode cX7_digest 118 = .ok (.iaload, 1) := by decide +kernel
theorem dX7_digest_119 : decode cX7_digest 119 = .ok (.i2l, 1) := by decide +kernel
theorem dX7_digest_120 : decode cX7_digest 120 = .ok (.invokevirtual 290, 3) := by decide +kernel
theorem dX7_digest_123 : decode cX7_digest 123 = .ok (.iinc 1 1, 3) := by decide +kernel
theorem dX7_digest_126 : decode cX7_digest 126 = .ok (.goto (-23), 3) := by decide +kernel
theorem dX7_digest_129 : decode cX7_digest 129 = .ok (.aload_n 0, 1) := by decide +kernel
theorem dX7_digest_130 : decode cX7_digest 130 = .ok (.aload_n 0, 1) := by decide +kernel
theorem dX7_digest_131 : decode cX7_digest 131 = .ok (.iconst 1, 1) := by decide +kernel
theorem dX7_digest_132 : decode cX7_digest 132 = .ok (.iconst (-1), 1) := by decide +kernel
theorem dX7_digest_133 : decode cX7_digest 133 = .ok (.invokevirtual 163, 3) := by decide +kernel
theorem dX7_digest_136 : decode cX7_digest 136 = .ok (.invokevirtual 290, 3) := by decide +kernel
theorem dX7_digest_139 : decode cX7_digest 139 = .ok (.aload_n 0, 1) := by decide +kernel
theorem dX7_digest_140 : decode cX7_digest 140 = .ok (.aload_n 0, 1) := by decide +kernel
theorem dX7_digest_141 : decode cX7_digest 141 = .ok (.iconst 0, 1) := by decide +kernel
theorem dX7_digest_142 : decode cX7_digest 142 = .ok (.iconst (-1), 1) := by decide +kernel
theorem dX7_digest_143 : decode cX7_digest 143 = .ok (.invokevirtual 163, 3) := by decide +kernel
theorem dX7_digest_146 : decode cX7_digest 146 = .ok (.invokevirtual 290, 3) := by decide +kernel
theorem dX7_digest_149 : decode cX7_digest 149 = .ok (.iconst 0, 1) := by decide +kernel
theorem dX7_digest_150 : decode cX7_digest 150 = .ok (.istore_n 1, 1) := by decide +kernel
theorem dX7_digest_151 : decode cX7_digest 151 = .ok (.iload_n 1, 1) := by decide +kernel
theorem dX7_digest_152 : decode cX7_digest 152 = .ok (.iconst 3, 1) := by decide +kernel
theorem dX7_digest_153 : decode cX7_digest 153 = .ok (.if_icmp .ge 43, 3) := by decide +kernel
theorem dX7_digest_156 : decode cX7_digest 156 = .ok (.aload_n 0, 1) := by decide +kernel
theorem dX7_digest_157 : decode cX7_digest 157 = .ok (.aload_n 0, 1) := by decide +kernel
theorem dX7_digest_158 : decode cX7_digest 158 = .ok (.iconst 0, 1) := by decide +kernel
theorem dX7_digest_159 : decode cX7_digest 159 = .ok (.iload_n 1, 1) := by decide +kernel
theorem dX7_digest_160 : decode cX7_digest 160 = .ok (.invokevirtual 163, 3) := by decide +kernel
theorem dX7_digest_163 : decode cX7_digest 163 = .ok (.invokevirtual 290, 3) := by decide +kernel
theorem dX7_digest_166 : decode cX7_digest 166 = .ok (.iconst 0, 1) := by decide +kernel
theorem dX7_digest_167 : decode cX7_digest 167 = .ok (.istore_n 2, 1) := by decide +kernel
theorem dX7_digest_168 : decode cX7_digest 168 = .ok (.iload_n 2, 1) := by decide +kernel
theorem dX7_digest_169 : decode cX7_digest 169 = .ok (.iconst 4, 1) := by decide +kernel
theorem dX7_digest_170 : decode cX7_digest 170 = .ok (.if_icmp .ge 20, 3) := by decide +kernel
theorem dX7_digest_173 : decode cX7_digest 173 = .ok (.aload_n 0, 1) := by decide +kernel
theorem dX7_digest_174 : decode cX7_digest 174 = .ok (.aload_n 0, 1) := by decide +kernel
theorem dX7_digest_175 : decode cX7_digest 175 = .ok (.iload_n 1, 1) := by decide +kernel
theorem dX7_digest_176 : decode cX7_digest 176 = .ok (.iload_n 2, 1) := by decide +kernel
theorem dX7_digest_177 : decode cX7_digest 177 = .ok (.invokevirtual 218, 3) := by decide +kernel
theorem dX7_digest_180 : decode cX7_digest 180 = .ok (.i2l, 1) := by decide +kernel
theorem dX7_digest_181 : decode cX7_digest 181 = .ok (.invokevirtual 290, 3) := by decide +kernel
theorem dX7_digest_184 : decode cX7_digest 184 = .ok (.iinc 2 1, 3) := by decide +kernel
theorem dX7_digest_187 : decode cX7_digest 187 = .ok (.goto (-19), 3) := by decide +kernel
theorem dX7_digest_190 : decode cX7_digest 190 = .ok (.iinc 1 1, 3) := by decide +kernel
theorem dX7_digest_193 : decode cX7_digest 193 = .ok (.goto (-42), 3) := by decide +kernel
theorem dX7_digest_196 : decode cX7_digest 196 = .ok (.aload_n 0, 1) := by decide +kernel
theorem dX7_digest_197 : decode cX7_digest 197 = .ok (.getfield 284, 3) := by decide +kernel
theorem dX7_digest_200 : decode cX7_digest 200 = .ok (.lreturn, 1) := by decide +kernel
