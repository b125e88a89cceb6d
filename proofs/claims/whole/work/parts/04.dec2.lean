theorem dX4_patterns_86 : decode cX4_patterns 86 = .ok (.istore 4, 2) := by decide +kernel
theorem dX4_patterns_88 : decode cX4_patterns 88 = .ok (.iinc 5 (-1), 3) := by decide +kernel
theorem dX4_patterns_91 : decode cX4_patterns 91 = .ok (.goto (-43), 3) := by decide +kernel
theorem dX4_patterns_94 : decode cX4_patterns 94 = .ok (.iload_n 3, 1) := by decide +kernel
theorem dX4_patterns_95 : decode cX4_patterns 95 = .ok (.ifCond .ne 6, 3) := by decide +kernel
theorem dX4_patterns_98 : decode cX4_patterns 98 = .ok (.bipush (-9), 2) := by decide +kernel
theorem dX4_patterns_100 : decode cX4_patterns 100 = .ok (.ireturn, 1) := by decide +kernel
theorem dX4_patterns_101 : decode cX4_patterns 101 = .ok (.aload_n 0, 1) := by decide +kernel
theorem dX4_patterns_102 : decode cX4_patterns 102 = .ok (.iload 4, 2) := by decide +kernel
theorem dX4_patterns_104 : decode cX4_patterns 104 = .ok (.putfield 50, 3) := by decide +kernel
theorem dX4_patterns_107 : decode cX4_patterns 107 = .ok (.iload_n 3, 1) := by decide +kernel
theorem dX4_patterns_108 : decode cX4_patterns 108 = .ok (.ireturn, 1) := by decide +kernel
theorem dX4_kinds_0 : decode cX4_kinds 0 = .ok (.aload_n 0, 1) := by decide +kernel
theorem dX4_kinds_1 : decode cX4_kinds 1 = .ok (.iload_n 1, 1) := by decide +kernel
theorem dX4_kinds_2 : decode cX4_kinds 2 = .ok (.invokevirtual 126, 3) := by decide +kernel
theorem dX4_kinds_5 : decode cX4_kinds 5 = .ok (.ifCond .eq 10, 3) := by decide +kernel
theorem dX4_kinds_8 : decode cX4_kinds 8 = .ok (.iload_n 2, 1) := by decide +kernel
theorem dX4_kinds_9 : decode cX4_kinds 9 = .ok (.invokestatic 89, 3) := by decide +kernel
theorem dX4_kinds_12 : decode cX4_kinds 12 = .ok (.ifCond .ne 5, 3) := by decide +kernel
theorem dX4_kinds_15 : decode cX4_kinds 15 = .ok (.iconst (-1), 1) := by decide +kernel
theorem dX4_kinds_16 : decode cX4_kinds 16 = .ok (.ireturn, 1) := by decide +kernel
theorem dX4_kinds_17 : decode cX4_kinds 17 = .ok (.aload_n 0, 1) := by decide +kernel
theorem dX4_kinds_18 : decode cX4_kinds 18 = .ok (.iload_n 2, 1) := by decide +kernel
theorem dX4_kinds_19 : decode cX4_kinds 19 = .ok (.invokevirtual 230, 3) := by decide +kernel
theorem dX4_kinds_22 : decode cX4_kinds 22 = .ok (.istore_n 3, 1) := by decide +kernel
theorem dX4_kinds_23 : decode cX4_kinds 23 = .ok (.iload_n 3, 1) := by decide +kernel
theorem dX4_kinds_24 : decode cX4_kinds 24 = .ok (.ifCond .eq 9, 3) := by decide +kernel
theorem dX4_kinds_27 : decode cX4_kinds 27 = .ok (.aload_n 0, 1) := by decide +kernel
theorem dX4_kinds_28 : decode cX4_kinds 28 = .ok (.iload_n 3, 1) := by decide +kernel
theorem dX4_kinds_29 : decode cX4_kinds 29 = .ok (.invokevirtual 93, 3) := by decide +kernel
theorem dX4_kinds_32 : decode cX4_kinds 32 = .ok (.ireturn, 1) := by decide +kernel
theorem dX4_kinds_33 : decode cX4_kinds 33 = .ok (.aload_n 0, 1) := by decide +kernel
theorem dX4_kinds_34 : decode cX4_kinds 34 = .ok (.iload_n 1, 1) := by decide +kernel
theorem dX4_kinds_35 : decode cX4_kinds 35 = .ok (.iload_n 2, 1) := by decide +kernel
theorem dX4_kinds_36 : decode cX4_kinds 36 = .ok (.invokevirtual 236, 3) := by decide +kernel
theorem dX4_kinds_39 : decode cX4_kinds 39 = .ok (.ireturn, 1) := by decide +kernel
theorem dX4_test_0 : decode cX4_test 0 = .ok (.aload_n 0, 1) := by decide +kernel
theorem dX4_test_1 : decode cX4_test 1 = .ok (.iload_n 1, 1) := by decide +kernel
theorem dX4_test_2 : decode cX4_test 2 = .ok (.invokevirtual 126, 3) := by decide +kernel
theorem dX4_test_5 : decode cX4_test 5 = .ok (.ifCond .eq 10, 3) := by decide +kernel
theorem dX4_test_8 : decode cX4_test 8 = .ok (.iload_n 2, 1) := by decide +kernel
theorem dX4_test_9 : decode cX4_test 9 = .ok (.invokestatic 89, 3) := by decide +kernel
theorem dX4_test_12 : decode cX4_test 12 = .ok (.ifCond .ne 5, 3) := by decide +kernel
theorem dX4_test_15 : decode cX4_test 15 = .ok (.iconst (-1), 1) := by decide +kernel
theorem dX4_test_16 : decode cX4_test 16 = .ok (.ireturn, 1) := by decide +kernel
theorem dX4_test_17 : decode cX4_test 17 = .ok (.aload_n 0, 1) := by decide +kernel
theorem dX4_test_18 : decode cX4_test 18 = .ok (.iload_n 2, 1) := by decide +kernel
theorem dX4_test_19 : decode cX4_test 19 = .ok (.invokevirtual 230, 3) := by decide +kernel
theorem dX4_test_22 : decode cX4_test 22 = .ok (.istore_n 3, 1) := by decide +kernel
theorem dX4_test_23 : decode cX4_test 23 = .ok (.iload_n 3, 1) := by decide +kernel
theorem dX4_test_24 : decode cX4_test 24 = .ok (.ifCond .eq 9, 3) := by decide +kernel
theorem dX4_test_27 : decode cX4_test 27 = .ok (.aload_n 0, 1) := by decide +kernel
theorem dX4_test_28 : decode cX4_test 28 = .ok (.iload_n 3, 1) := by decide +kernel
theorem dX4_test_29 : decode cX4_test 29 = .ok (.invokevirtual 93, 3) := by decide +kernel
theorem dX4_test_32 : decode cX4_test 32 = .ok (.ireturn, 1) := by decide +kernel
theorem dX4_test_33 : decode cX4_test 33 = .ok (.aload_n 0, 1) := by decide +kernel
theorem dX4_test_34 : decode cX4_test 34 = .ok (.iload_n 1, 1) := by decide +kernel
theorem dX4_test_35 : decode cX4_test 35 = .ok (.iload_n 2, 1) := by decide +kernel
theorem dX4_test_36 : decode cX4_test 36 = .ok (.invokevirtual 236, 3) := by decide +kernel
theorem dX4_test_39 : decode cX4_test 39 = .ok (.istore 4, 2) := by decide +kernel
theorem dX4_test_41 : decode cX4_test 41 = .ok (.iload 4, 2) := by decide +kernel
theorem dX4_test_43 : decode cX4_test 43 = .ok (.ifCond .ne 6, 3) := by decide +kernel
theorem dX4_test_46 : decode cX4_test 46 = .ok (.bipush (-9), 2) := by decide +kernel
theorem dX4_test_48 : decode cX4_test 48 = .ok (.ireturn, 1) := by decide +kernel
theorem dX4_test_49 : decode cX4_test 49 = .ok (.aload_n 0, 1) := by decide +kernel
theorem dX4_test_50 : decode cX4_test 50 = .ok (.iload_n 1, 1) := by decide +kernel
theorem dX4_test_51 : decode cX4_test 51 = .ok (.iload 4, 2) := by decide +kernel
theorem dX4_test_53 : decode cX4_test 53 = .ok (.invokevirtual 239, 3) := by decide +kernel
theorem dX4_test_56 : decode cX4_test 56 = .ok (.bipush 7, 2) := by decide +kernel
theorem dX4_test_58 : decode cX4_test 58 = .ok (.istore 5, 2) := by decide +kernel
theorem dX4_test_60 : decode cX4_test 60 = .ok (.bipush (-9), 2) := by decide +kernel
theorem dX4_test_62 : decode cX4_test 62 = .ok (.istore 6, 2) := by decide +kernel
theorem dX4_test_64 : decode cX4_test 64 = .ok (.iconst 1, 1) := by decide +kernel
theorem dX4_test_65 : decode cX4_test 65 = .ok (.istore 7, 2) := by decide +kernel
theorem dX4_test_67 : decode cX4_test 67 = .ok (.iload 7, 2) := by decide +kernel
theorem dX4_test_69 : decode cX4_test 69 = .ok (.bipush 20, 2) := by decide +kernel
theorem dX4_test_71 : decode cX4_test 71 = .ok (.if_icmp .gt 32, 3) := by decide +kernel
theorem dX4_test_74 : decode cX4_test 74 = .ok (.aload_n 0, 1) := by decide +kernel
theorem dX4_test_75 : decode cX4_test 75 = .ok (.iload 7, 2) := by decide +kernel
theorem dX4_test_77 : decode cX4_test 77 = .ok (.invokevirtual 242, 3) := by decide +kernel
theorem dX4_test_80 : decode cX4_test 80 = .ok (.istore 8, 2) := by decide +kernel
theorem dX4_test_82 : decode cX4_test 82 = .ok (.iload 8, 2) := by decide +kernel
theorem dX4_test_84 : decode cX4_test 84 = .ok (.iload 5, 2) := by decide +kernel
theorem dX4_test_86 : decode cX4_test 86 = .ok (.if_icmp .ge 11, 3) := by decide +kernel
theorem dX4_test_89 : decode cX4_test 89 = .ok (.iload 8, 2) := by decide +kernel
theorem dX4_test_91 : decode cX4_test 91 = .ok (.istore 5, 2) := by decide +kernel
theorem dX4_test_93 : decode cX4_test 93 = .ok (.iload 7, 2) := by decide +kernel
theorem dX4_test_95 : decode cX4_test 95 = .ok (.istore 6, 2) := by decide +kernel
theorem dX4_test_97 : decode cX4_test 97 = .ok (.iinc 7 1, 3) := by decide +kernel
theorem dX4_test_100 : decode cX4_test 100 = .ok (.goto (-33), 3) := by decide +kernel
theorem dX4_test_103 : decode cX4_test 103 = .ok (.aload_n 0, 1) := by decide +kernel
theorem dX4_test_104 : decode cX4_test 104 = .ok (.iload 5, 2) := by decide +kernel
theorem dX4_test_106 : decode cX4_test 106 = .ok (.putfield 50, 3) := by decide +kernel
theorem dX4_test_109 : decode cX4_test 109 = .ok (.iload 6, 2) := by decide +kernel
theorem dX4_test_111 : decode cX4_test 111 = .ok (.ireturn, 1) := by decide +kernel
theorem dX4_duel_0 : decode cX4_duel 0 = .ok (.iload_n 1, 1) := by decide +kernel
theorem dX4_duel_1 : decode cX4_duel 1 = .ok (.ifCond .lt 8, 3) := by decide +kernel
theorem dX4_duel_4 : decode cX4_duel 4 = .ok (.iload_n 1, 1) := by decide +kernel
theorem dX4_duel_5 : decode cX4_duel 5 = .ok (.iconst 4, 1) := by decide +kernel
theorem dX4_duel_6 : decode cX4_duel 6 = .ok (.if_icmp .le 5, 3) := by decide +kernel
theorem dX4_duel_9 : decode cX4_duel 9 = .ok (.iconst (-1), 1) := by decide +kernel
theorem dX4_duel_10 : decode cX4_duel 10 = .ok (.ireturn, 1) := by decide +kernel
theorem dX4_duel_11 : decode cX4_duel 11 = .ok (.aload_n 0, 1) := by decide +kernel
theorem dX4_duel_12 : decode cX4_duel 12 = .ok (.getfield 33, 3) := by decide +kernel
theorem dX4_duel_15 : decode cX4_duel 15 = .ok (.getfield 125, 3) := by decide +kernel
theorem dX4_duel_18 : decode cX4_duel 18 = .ok (.ifCond .ne 6, 3) := by decide +kernel
theorem dX4_duel_21 : decode cX4_duel 21 = .ok (.bipush (-4), 2) := by decide +kernel
theorem dX4_duel_23 : decode cX4_duel 23 = .ok (.ireturn, 1) := by decide +kernel
theorem dX4_duel_24 : decode cX4_duel 24 = .ok (.aload_n 0, 1) := by decide +kernel
theorem dX4_duel_25 : decode cX4_duel 25 = .ok (.getfield 74, 3) := by decide +kernel
theorem dX4_duel_28 : decode cX4_duel 28 = .ok (.iconst (-1), 1) := by decide +kernel
theorem dX4_duel_29 : decode cX4_duel 29 = .ok (.invokestatic 80, 3) := by decide +kernel
theorem dX4_duel_32 : decode cX4_duel 32 = .ok (.aload_n 0, 1) := by decide +kernel
theorem dX4_duel_33 : decode cX4_duel 33 = .ok (.aload_n 0, 1) := by decide +kernel
theorem dX4_duel_34 : decode cX4_duel 34 = .ok (.getfield 33, 3) := by decide +kernel
theorem dX4_duel_37 : decode cX4_duel 37 = .ok (.getfield 160, 3) := by decide +kernel
theorem dX4_duel_40 : decode cX4_duel 40 = .ok (.iload_n 1, 1) := by decide +kernel
theorem dX4_duel_41 : decode cX4_duel 41 = .ok (.iconst 1, 1) := by decide +kernel
theorem dX4_duel_42 : decode cX4_duel 42 = .ok (.invokevirtual 245, 3) := by decide +kernel
theorem dX4_duel_45 : decode cX4_duel 45 = .ok (.ireturn, 1) := by decide +kernel
theorem dX4_odds_0 : decode cX4_odds 0 = .ok (.iload_n 1, 1) := by decide +kernel
theorem dX4_odds_1 : decode cX4_odds 1 = .ok (.ifCond .lt 16, 3) := by decide +kernel
theorem dX4_odds_4 : decode cX4_odds 4 = .ok (.iload_n 1, 1) := by decide +kernel
theorem dX4_odds_5 : decode cX4_odds 5 = .ok (.bipush 42, 2) := by decide +kernel
theorem dX4_odds_7 : decode cX4_odds 7 = .ok (.if_icmp .gt 10, 3) := by decide +kernel
theorem dX4_odds_10 : decode cX4_odds 10 = .ok (.iload_n 2, 1) := by decide +kernel
theorem dX4_odds_11 : decode cX4_odds 11 = .ok (.invokestatic 249, 3) := by decide +kernel
theorem dX4_odds_14 : decode cX4_odds 14 = .ok (.ifCond .ne 5, 3) := by decide +kernel
theorem dX4_odds_17 : decode cX4_odds 17 = .ok (.iconst (-1), 1) := by decide +kernel
theorem dX4_odds_18 : decode cX4_odds 18 = .ok (.ireturn, 1) := by decide +kernel
theorem dX4_odds_19 : decode cX4_odds 19 = .ok (.aload_n 0, 1) := by decide +kernel
theorem dX4_odds_20 : decode cX4_odds 20 = .ok (.getfield 33, 3) := by decide +kernel
theorem dX4_odds_23 : decode cX4_odds 23 = .ok (.getfield 125, 3) := by decide +kernel
theorem dX4_odds_26 : decode cX4_odds 26 = .ok (.ifCond .ne 6, 3) := by decide +kernel
theorem dX4_odds_29 : decode cX4_odds 29 = .ok (.bipush (-4), 2) := by decide +kernel
theorem dX4_odds_31 : decode cX4_odds 31 = .ok (.ireturn, 1) := by decide +kernel
theorem dX4_odds_32 : decode cX4_odds 32 = .ok (.lconst 0, 1) := by decide +kernel
theorem dX4_odds_33 : decode cX4_odds 33 = .ok (.lstore_n 3, 1) := by decide +kernel
theorem dX4_odds_34 : decode cX4_odds 34 = .ok (.iconst 0, 1) := by decide +kernel
theorem dX4_odds_35 : decode cX4_odds 35 = .ok (.istore 5, 2) := by decide +kernel
theorem dX4_odds_37 : decode cX4_odds 37 = .ok (.iload 5, 2) := by decide +kernel
theorem dX4_odds_39 : decode cX4_odds 39 = .ok (.bipush 64, 2) := by decide +kernel
theorem dX4_odds_41 : decode cX4_odds 41 = .ok (.if_icmp .ge 28, 3) := by decide +kernel
theorem dX4_odds_44 : decode cX4_odds 44 = .ok (.aload_n 0, 1) := by decide +kernel
theorem dX4_odds_45 : decode cX4_odds 45 = .ok (.iload 5, 2) := by decide +kernel
theorem dX4_odds_47 : decode cX4_odds 47 = .ok (.invokevirtual 252, 3) := by decide +kernel
theorem dX4_odds_50 : decode cX4_odds 50 = .ok (.iload_n 1, 1) := by decide +kernel
theorem dX4_odds_51 : decode cX4_odds 51 = .ok (.if_icmp .lt 12, 3) := by decide +kernel
theorem dX4_odds_54 : decode cX4_odds 54 = .ok (.lload_n 3, 1) := by decide +kernel
theorem dX4_odds_55 : decode cX4_odds 55 = .ok (.iload 5, 2) := by decide +kernel
theorem dX4_odds_57 : decode cX4_odds 57 = .ok (.iload_n 2, 1) := by decide +kernel
theorem dX4_odds_58 : decode cX4_odds 58 = .ok (.invokestatic 255, 3) := by decide +kernel
theorem dX4_odds_61 : decode cX4_odds 61 = .ok (.ladd, 1) := by decide +kernel
theorem dX4_odds_62 : decode cX4_odds 62 = .ok (.lstore_n 3, 1) := by decide +kernel
theorem dX4_odds_63 : decode cX4_odds 63 = .ok (.iinc 5 1, 3) := by decide +kernel
theorem dX4_odds_66 : decode cX4_odds 66 = .ok (.goto (-29), 3) := by decide +kernel
theorem dX4_odds_69 : decode cX4_odds 69 = .ok (.aload_n 0, 1) := by decide +kernel
theorem dX4_odds_70 : decode cX4_odds 70 = .ok (.lload_n 3, 1) := by decide +kernel
theorem dX4_odds_71 : decode cX4_odds 71 = .ok (.invokevirtual 259, 3) := by decide +kernel
theorem dX4_odds_74 : decode cX4_odds 74 = .ok (.iconst 1, 1) := by decide +kernel
theorem dX4_odds_75 : decode cX4_odds 75 = .ok (.ireturn, 1) := by decide +kernel
theorem dX4_mid_0 : decode cX4_mid 0 = .ok (.iload_n 1, 1) := by decide +kernel
theorem dX4_mid_1 : decode cX4_mid 1 = .ok (.invokestatic 249, 3) := by decide +kernel
theorem dX4_mid_4 : decode cX4_mid 4 = .ok (.ifCond .ne 5, 3) := by decide +kernel
theorem dX4_mid_7 : decode cX4_mid 7 = .ok (.iconst (-1), 1) := by decide +kernel
theorem dX4_mid_8 : decode cX4_mid 8 = .ok (.ireturn, 1) := by decide +kernel
theorem dX4_mid_9 : decode cX4_mid 9 = .ok (.aload_n 0, 1) := by decide +kernel
theorem dX4_mid_10 : decode cX4_mid 10 = .ok (.getfield 33, 3) := by decide +kernel
theorem dX4_mid_13 : decode cX4_mid 13 = .ok (.getfield 125, 3) := by decide +kernel
theorem dX4_mid_16 : decode cX4_mid 16 = .ok (.ifCond .ne 6, 3) := by decide +kernel
theorem dX4_mid_19 : decode cX4_mid 19 = .ok (.bipush (-4), 2) := by decide +kernel
theorem dX4_mid_21 : decode cX4_mid 21 = .ok (.ireturn, 1) := by decide +kernel
theorem dX4_mid_22 : decode cX4_mid 22 = .ok (.lconst 0, 1) := by decide +kernel
theorem dX4_mid_23 : decode cX4_mid 23 = .ok (.lstore_n 2, 1) := by decide +kernel
theorem dX4_mid_24 : decode cX4_mid 24 = .ok (.iconst 0, 1) := by decide +kernel
theorem dX4_mid_25 : decode cX4_mid 25 = .ok (.istore 4, 2) := by decide +kernel
theorem dX4_mid_27 : decode cX4_mid 27 = .ok (.iload 4, 2) := by decide +kernel
theorem dX4_mid_29 : decode cX4_mid 29 = .ok (.bipush 64, 2) := by decide +kernel
theorem dX4_mid_31 : decode cX4_mid 31 = .ok (.if_icmp .ge 26, 3) := by decide +kernel
theorem dX4_mid_34 : decode cX4_mid 34 = .ok (.lload_n 2, 1) := by decide +kernel
theorem dX4_mid_35 : decode cX4_mid 35 = .ok (.aload_n 0, 1) := by decide +kernel
theorem dX4_mid_36 : decode cX4_mid 36 = .ok (.iload 4, 2) := by decide +kernel
theorem dX4_mid_38 : decode cX4_mid 38 = .ok (.invokevirtual 252, 3) := by decide +kernel
theorem dX4_mid_41 : decode cX4_mid 41 = .ok (.i2l, 1) := by decide +kernel
theorem dX4_mid_42 : decode cX4_mid 42 = .ok (.iload 4, 2) := by decide +kernel
theorem dX4_mid_44 : decode cX4_mid 44 = .ok (.iload_n 1, 1) := by decide +kernel
theorem dX4_mid_45 : decode cX4_mid 45 = .ok (.invokestatic 255, 3) := by decide +kernel
theorem dX4_mid_48 : decode cX4_mid 48 = .ok (.lmul, 1) := by decide +kernel
theorem dX4_mid_49 : decode cX4_mid 49 = .ok (.ladd, 1) := by decide +kernel
theorem dX4_mid_50 : decode cX4_mid 50 = .ok (.lstore_n 2, 1) := by decide +kernel
theorem dX4_mid_51 : decode cX4_mid 51 = .ok (.iinc 4 1, 3) := by decide +kernel
theorem dX4_mid_54 : decode cX4_mid 54 = .ok (.goto (-27), 3) := by decide +kernel
theorem dX4_mid_57 : decode cX4_mid 57 = .ok (.aload_n 0, 1) := by decide +kernel
theorem dX4_mid_58 : decode cX4_mid 58 = .ok (.lload_n 2, 1) := by decide +kernel
theorem dX4_mid_59 : decode cX4_mid 59 = .ok (.invokevirtual 259, 3) := by decide +kernel
theorem dX4_mid_62 : decode cX4_mid 62 = .ok (.iconst 1, 1) := by decide +kernel
theorem dX4_mid_63 : decode cX4_mid 63 = .ok (.ireturn, 1) := by decide +kernel
theorem dX4_lots_0 : decode cX4_lots 0 = .ok (.iload_n 1, 1) := by decide +kernel
theorem dX4_lots_1 : decode cX4_lots 1 = .ok (.iconst 1, 1) := by decide +kernel
theorem dX4_lots_2 : decode cX4_lots 2 = .ok (.if_icmp .lt 23, 3) := by decide +kernel
theorem dX4_lots_5 : decode cX4_lots 5 = .ok (.iload_n 1, 1) := by decide +kernel
theorem dX4_lots_6 : decode cX4_lots 6 = .ok (.bipush 20, 2) := by decide +kernel
theorem dX4_lots_8 : decode cX4_lots 8 = .ok (.if_icmp .gt 17, 3) := by decide +kernel
theorem dX4_lots_11 : decode cX4_lots 11 = .ok (.iload_n 2, 1) := by decide +kernel
theorem dX4_lots_12 : decode cX4_lots 12 = .ok (.iconst 1, 1) := by decide +kernel
theorem dX4_lots_13 : decode cX4_lots 13 = .ok (.if_icmp .lt 12, 3) := by decide +kernel
theorem dX4_lots_16 : decode cX4_lots 16 = .ok (.iload_n 2, 1) := by decide +kernel
theorem dX4_lots_17 : decode cX4_lots 17 = .ok (.i2l, 1) := by decide +kernel
theorem dX4_lots_18 : decode cX4_lots 18 = .ok (.ldc2_w 263, 3) := by decide +kernel
theorem dX4_lots_21 : decode cX4_lots 21 = .ok (.lcmp, 1) := by decide +kernel
theorem dX4_lots_22 : decode cX4_lots 22 = .ok (.ifCond .lt 5, 3) := by decide +kernel
theorem dX4_lots_25 : decode cX4_lots 25 = .ok (.iconst (-1), 1) := by decide +kernel
theorem dX4_lots_26 : decode cX4_lots 26 = .ok (.ireturn, 1) := by decide +kernel
theorem dX4_lots_27 : decode cX4_lots 27 = .ok (.aload_n 0, 1) := by decide +kernel
theorem dX4_lots_28 : decode cX4_lots 28 = .ok (.getfield 33, 3) := by decide +kernel
theorem dX4_lots_31 : decode cX4_lots 31 = .ok (.getfield 125, 3) := by decide +kernel
theorem dX4_lots_34 : decode cX4_lots 34 = .ok (.ifCond .ne 6, 3) := by decide +kernel
theorem dX4_lots_37 : decode cX4_lots 37 = .ok (.bipush (-4), 2) := by decide +kernel
theorem dX4_lots_39 : decode cX4_lots 39 = .ok (.ireturn, 1) := by decide +kernel
theorem dX4_lots_40 : decode cX4_lots 40 = .ok (.aload_n 0, 1) := by decide +kernel
theorem dX4_lots_41 : decode cX4_lots 41 = .ok (.iload_n 1, 1) := by decide +kernel
theorem dX4_lots_42 : decode cX4_lots 42 = .ok (.invokevirtual 150, 3) := by decide +kernel
theorem dX4_lots_45 : decode cX4_lots 45 = .ok (.ifCond .eq 6, 3) := by decide +kernel
theorem dX4_lots_48 : decode cX4_lots 48 = .ok (.bipush (-2), 2) := by decide +kernel
theorem dX4_lots_50 : decode cX4_lots 50 = .ok (.ireturn, 1) := by decide +kernel
theorem dX4_lots_51 : decode cX4_lots 51 = .ok (.iload_n 2, 1) := by decide +kernel
theorem dX4_lots_52 : decode cX4_lots 52 = .ok (.i2l, 1) := by decide +kernel
theorem dX4_lots_53 : decode cX4_lots 53 = .ok (.lstore_n 3, 1) := by decide +kernel
theorem dX4_lots_54 : decode cX4_lots 54 = .ok (.iconst 0, 1) := by decide +kernel
theorem dX4_lots_55 : decode cX4_lots 55 = .ok (.istore 5, 2) := by decide +kernel
theorem dX4_lots_57 : decode cX4_lots 57 = .ok (.iload 5, 2) := by decide +kernel
theorem dX4_lots_59 : decode cX4_lots 59 = .ok (.iload_n 1, 1) := by decide +kernel
theorem dX4_lots_60 : decode cX4_lots 60 = .ok (.if_icmp .ge 25, 3) := by decide +kernel
theorem dX4_lots_63 : decode cX4_lots 63 = .ok (.ldc2_w 265, 3) := by decide +kernel
theorem dX4_lots_66 : decode cX4_lots 66 = .ok (.lload_n 3, 1) := by decide +kernel
theorem dX4_lots_67 : decode cX4_lots 67 = .ok (.lmul, 1) := by decide +kernel
theorem dX4_lots_68 : decode cX4_lots 68 = .ok (.ldc2_w 263, 3) := by decide +kernel
theorem dX4_lots_71 : decode cX4_lots 71 = .ok (.lrem, 1) := by decide +kernel
theorem dX4_lots_72 : decode cX4_lots 72 = .ok (.lstore_n 3, 1) := by decide +kernel
theorem dX4_lots_73 : decode cX4_lots 73 = .ok (.aload_n 0, 1) := by decide +kernel
theorem dX4_lots_74 : decode cX4_lots 74 = .ok (.lload_n 3, 1) := by decide +kernel
theorem dX4_lots_75 : decode cX4_lots 75 = .ok (.l2i, 1) := by decide +kernel
theorem dX4_lots_76 : decode cX4_lots 76 = .ok (.invokevirtual 267, 3) := by decide +kernel
theorem dX4_lots_79 : decode cX4_lots 79 = .ok (.iinc 5 1, 3) := by decide +kernel
theorem dX4_lots_82 : decode cX4_lots 82 = .ok (.goto (-25), 3) := by decide +kernel
theorem dX4_lots_85 : decode cX4_lots 85 = .ok (.aload_n 0, 1) := by decide +kernel
theorem dX4_lots_86 : decode cX4_lots 86 = .ok (.getfield 33, 3) := by decide +kernel
theorem dX4_lots_89 : decode cX4_lots 89 = .ok (.getfield 153, 3) := by decide +kernel
theorem dX4_lots_92 : decode cX4_lots 92 = .ok (.ireturn, 1) := by decide +kernel
theorem dX4_asked_0 : decode cX4_asked 0 = .ok (.aload_n 0, 1) := by decide +kernel
theorem dX4_asked_1 : decode cX4_asked 1 = .ok (.getfield 50, 3) := by decide +kernel
theorem dX4_asked_4 : decode cX4_asked 4 = .ok (.ireturn, 1) := by decide +kernel
theorem dX4_upper_0 : decode cX4_upper 0 = .ok (.aload_n 0, 1) := by decide +kernel
theorem dX4_upper_1 : decode cX4_upper 1 = .ok (.getfield 54, 3) := by decide +kernel
theorem dX4_upper_4 : decode cX4_upper 4 = .ok (.lreturn, 1) := by decide +kernel
theorem dX4_lower_0 : decode cX4_lower 0 = .ok (.aload_n 0, 1) := by decide +kernel
theorem dX4_lower_1 : decode cX4_lower 1 = .ok (.getfield 58, 3) := by decide +kernel
theorem dX4_lower_4 : decode cX4_lower 4 = .ok (.lreturn, 1) := by decide +kernel
theorem dX4_count_0 : decode cX4_count 0 = .ok (.iload_n 1, 1) := by decide +kernel
theorem dX4_count_1 : decode cX4_count 1 = .ok (.ifCond .lt 9, 3) := by decide +kernel
theorem dX4_count_4 : decode cX4_count 4 = .ok (.iload_n 1, 1) := by decide +kernel
theorem dX4_count_5 : decode cX4_count 5 = .ok (.bipush 13, 2) := by decide +kernel
theorem dX4_count_7 : decode cX4_count 7 = .ok (.if_icmp .lt 5, 3) := by decide +kernel
theorem dX4_count_10 : decode cX4_count 10 = .ok (.iconst (-1), 1) := by decide +kernel
theorem dX4_count_11 : decode cX4_count 11 = .ok (.ireturn, 1) := by decide +kernel
theorem dX4_count_12 : decode cX4_count 12 = .ok (.aload_n 0, 1) := by decide +kernel
theorem dX4_count_13 : decode cX4_count 13 = .ok (.iload_n 1, 1) := by decide +kernel
theorem dX4_count_14 : decode cX4_count 14 = .ok (.invokevirtual 270, 3) := by decide +kernel
theorem dX4_count_17 : decode cX4_count 17 = .ok (.ireturn, 1) := by decide +kernel
theorem dX4_finding_0 : decode cX4_finding 0 = .ok (.aload_n 0, 1) := by decide +kernel
theorem dX4_finding_1 : decode cX4_finding 1 = .ok (.getfield 61, 3) := by decide +kernel
theorem dX4_finding_4 : decode cX4_finding 4 = .ok (.ireturn, 1) := by decide +kernel
theorem dX4_findings_0 : decode cX4_findings 0 = .ok (.iload_n 1, 1) := by decide +kernel
theorem dX4_findings_1 : decode cX4_findings 1 = .ok (.iconst 1, 1) := by decide +kernel
theorem dX4_findings_2 : decode cX4_findings 2 = .ok (.if_icmp .lt 8, 3) := by decide +kernel
theorem dX4_findings_5 : decode cX4_findings 5 = .ok (.iload_n 1, 1) := by decide +kernel
theorem dX4_findings_6 : decode cX4_findings 6 = .ok (.iconst 5, 1) := by decide +kernel
theorem dX4_findings_7 : decode cX4_findings 7 = .ok (.if_icmp .le 5, 3) := by decide +kernel
theorem dX4_findings_10 : decode cX4_findings 10 = .ok (.iconst (-1), 1) := by decide +kernel
theorem dX4_findings_11 : decode cX4_findings 11 = .ok (.ireturn, 1) := by decide +kernel
theorem dX4_findings_12 : decode cX4_findings 12 = .ok (.aload_n 0, 1) := by decide +kernel
theorem dX4_findings_13 : decode cX4_findings 13 = .ok (.getfield 64, 3) := by decide +kernel
theorem dX4_findings_16 : decode cX4_findings 16 = .ok (.iload_n 1, 1) := by decide +kernel
theorem dX4_findings_17 : decode cX4_findings 17 = .ok (.iaload, 1) := by decide +kernel
theorem dX4_findings_18 : decode cX4_findings 18 = .ok (.ireturn, 1) := by decide +kernel
theorem dX4_digest_0 : decode cX4_digest 0 = .ok (.ldc2_w 273, 3) := by decide +kernel
theorem dX4_digest_3 : decode cX4_digest 3 = .ok (.lstore_n 1, 1) := by decide +kernel
theorem dX4_digest_4 : decode cX4_digest 4 = .ok (.iconst 0, 1) := by decide +kernel
theorem dX4_digest_5 : decode cX4_digest 5 = .ok (.istore_n 3, 1) := by decide +kernel
theorem dX4_digest_6 : decode cX4_digest 6 = .ok (.iload_n 3, 1) := by decide +kernel
theorem dX4_digest_7 : decode cX4_digest 7 = .ok (.bipush 13, 2) := by decide +kernel
theorem dX4_digest_9 : decode cX4_digest 9 = .ok (.if_icmp .ge 22, 3) := by decide +kernel
theorem dX4_digest_12 : decode cX4_digest 12 = .ok (.ldc2_w 275, 3) := by decide +kernel
theorem dX4_digest_15 : decode cX4_digest 15 = .ok (.lload_n 1, 1) := by decide +kernel
theorem dX4_digest_16 : decode cX4_digest 16 = .ok (.lmul, 1) := by decide +kernel
theorem dX4_digest_17 : decode cX4_digest 17 = .ok (.aload_n 0, 1) := by decide +kernel
theorem dX4_digest_18 : decode cX4_digest 18 = .ok (.iload_n 3, 1) := by decide +kernel
theorem dX4_digest_19 : decode cX4_digest 19 = .ok (.invokevirtual 270, 3) := by decide +kernel
theorem dX4_digest_22 : decode cX4_digest 22 = .ok (.i2l, 1) := by decide +kernel
theorem dX4_digest_23 : decode cX4_digest 23 = .ok (.ladd, 1) := by decide +kernel
theorem dX4_digest_24 : decode cX4_digest 24 = .ok (.lstore_n 1, 1) := by decide +kernel
theorem dX4_digest_25 : decode cX4_digest 25 = .ok (.iinc 3 1, 3) := by decide +kernel
theorem dX4_digest_28 : decode cX4_digest 28 = .ok (.goto (-22), 3) := by decide +kernel
theorem dX4_digest_31 : decode cX4_digest 31 = .ok (.iconst 0, 1) := by decide +kernel
theorem dX4_digest_32 : decode cX4_digest 32 = .ok (.istore_n 3, 1) := by decide +kernel
theorem dX4_digest_33 : decode cX4_digest 33 = .ok (.iload_n 3, 1) := by decide +kernel
theorem dX4_digest_34 : decode cX4_digest 34 = .ok (.aload_n 0, 1) := by decide +kernel
theorem dX4_digest_35 : decode cX4_digest 35 = .ok (.getfield 33, 3) := by decide +kernel
theorem dX4_digest_38 : decode cX4_digest 38 = .ok (.getfield 125, 3) := by decide +kernel
theorem dX4_digest_41 : decode cX4_digest 41 = .ok (.if_icmp .ge 47, 3) := by decide +kernel
theorem dX4_digest_44 : decode cX4_digest 44 = .ok (.iconst 0, 1) := by decide +kernel
theorem dX4_digest_45 : decode cX4_digest 45 = .ok (.istore 4, 2) := by decide +kernel
theorem dX4_digest_47 : decode cX4_digest 47 = .ok (.iload 4, 2) := by decide +kernel
theorem dX4_digest_49 : decode cX4_digest 49 = .ok (.bipush 7, 2) := by decide +kernel
theorem dX4_digest_51 : decode cX4_digest 51 = .ok (.if_icmp .ge 31, 3) := by decide +kernel
theorem dX4_digest_54 : decode cX4_digest 54 = .ok (.ldc2_w 275, 3) := by decide +kernel
theorem dX4_digest_57 : decode cX4_digest 57 = .ok (.lload_n 1, 1) := by decide +kernel
theorem dX4_digest_58 : decode cX4_digest 58 = .ok (.lmul, 1) := by decide +kernel
theorem dX4_digest_59 : decode cX4_digest 59 = .ok (.aload_n 0, 1) := by decide +kernel
theorem dX4_digest_60 : decode cX4_digest 60 = .ok (.getfield 33, 3) := by decide +kernel
theorem dX4_digest_63 : decode cX4_digest 63 = .ok (.getfield 129, 3) := by decide +kernel
theorem dX4_digest_66 : decode cX4_digest 66 = .ok (.iload_n 3, 1) := by decide +kernel
theorem dX4_digest_67 : decode cX4_digest 67 = .ok (.aaload, 1) := by decide +kernel
theorem dX4_digest_68 : decode cX4_digest 68 = .ok (.iload 4, 2) := by decide +kernel
theorem dX4_digest_70 : decode cX4_digest 70 = .ok (.invokevirtual 133, 3) := by decide +kernel
theorem dX4_digest_73 : decode cX4_digest 73 = .ok (.i2l, 1) := by decide +kernel
theorem dX4_digest_74 : decode cX4_digest 74 = .ok (.ladd, 1) := by decide +kernel
theorem dX4_digest_75 : decode cX4_digest 75 = .ok (.lstore_n 1, 1) := by decide +kernel
theorem dX4_digest_76 : decode cX4_digest 76 = .ok (.iinc 4 1, 3) := by decide +kernel
theorem dX4_digest_79 : decode cX4_digest 79 = .ok (.goto (-32), 3) := by decide +kernel
theorem dX4_digest_82 : decode cX4_digest 82 = .ok (.iinc 3 1, 3) := by decide +kernel
theorem dX4_digest_85 : decode cX4_digest 85 = .ok (.goto (-52), 3) := by decide +kernel
theorem dX4_digest_88 : decode cX4_digest 88 = .ok (.iconst 0, 1) := by decide +kernel
theorem dX4_digest_89 : decode cX4_digest 89 = .ok (.istore_n 3, 1) := by decide +kernel
theorem dX4_digest_90 : decode cX4_digest 90 = .ok (.iload_n 3, 1) := by decide +kernel
theorem dX4_digest_91 : decode cX4_digest 91 = .ok (.iconst 3, 1) := by decide +kernel
theorem dX4_digest_92 : decode cX4_digest 92 = .ok (.if_icmp .ge 26, 3) := by decide +kernel
theorem dX4_digest_95 : decode cX4_digest 95 = .ok (.ldc2_w 275, 3) := by decide +kernel
theorem dX4_digest_98 : decode cX4_digest 98 = .ok (.lload_n 1, 1) := by decide +kernel
theorem dX4_digest_99 : decode cX4_digest 99 = .ok (.lmul, 1) := by decide +kernel
theorem dX4_digest_100 : decode cX4_digest 100 = .ok (.aload_n 0, 1) := by decide +kernel
theorem dX4_digest_101 : decode cX4_digest 101 = .ok (.getfield 46, 3) := by decide +kernel
theorem dX4_digest_104 : decode cX4_digest 104 = .ok (.iload_n 3, 1) := by decide +kernel
theorem dX4_digest_105 : decode cX4_digest 105 = .ok (.aaload, 1) := by decide +kernel
theorem dX4_digest_106 : decode cX4_digest 106 = .ok (.getfield 86, 3) := by decide +kernel
theorem dX4_digest_109 : decode cX4_digest 109 = .ok (.i2l, 1) := by decide +kernel
theorem dX4_digest_110 : decode cX4_digest 110 = .ok (.ladd, 1) := by decide +kernel
theorem dX4_digest_111 : decode cX4_digest 111 = .ok (.lstore_n 1, 1) := by decide +kernel
theorem dX4_digest_112 : decode cX4_digest 112 = .ok (.iinc 3 1, 3) := by decide +kernel
theorem dX4_digest_115 : decode cX4_digest 115 = .ok (.goto (-25), 3) := by decide +kernel
theorem dX4_digest_118 : decode cX4_digest 118 = .ok (.aload_n 0, 1) := by decide +kernel
theorem dX4_digest_119 : decode cX4_digest 119 = .ok (.aload_n 0, 1) := by decide +kernel
theorem dX4_digest_120 : decode cX4_digest 120 = .ok (.lload_n 1, 1) := by decide +kernel
theorem dX4_digest_121 : decode cX4_digest 121 = .ok (.invokevirtual 277, 3) := by decide +kernel
theorem dX4_digest_124 : decode cX4_digest 124 = .ok (.invokevirtual 281, 3) := by decide +kernel
theorem dX4_digest_127 : decode cX4_digest 127 = .ok (.lreturn, 1) := by decide +kernel
theorem dX4_isRow_0 : decode cX4_isRow 0 = .ok (.iload_n 0, 1) := by decide +kernel
theorem dX4_isRow_1 : decode cX4_isRow 1 = .ok (.ifCond .lt 13, 3) := by decide +kernel
theorem dX4_isRow_4 : decode cX4_isRow 4 = .ok (.iload_n 0, 1) := by decide +kernel
theorem dX4_isRow_5 : decode cX4_isRow 5 = .ok (.bipush 6, 2) := by decide +kernel
theorem dX4_isRow_7 : decode cX4_isRow 7 = .ok (.if_icmp .ge 7, 3) := by decide +kernel
theorem dX4_isRow_10 : decode cX4_isRow 10 = .ok (.iconst 1, 1) := by decide +kernel
theorem dX4_isRow_11 : decode cX4_isRow 11 = .ok (.goto 4, 3) := by decide +kernel
theorem dX4_isRow_14 : decode cX4_isRow 14 = .ok (.iconst 0, 1) := by decide +kernel
theorem dX4_isRow_15 : decode cX4_isRow 15 = .ok (.ireturn, 1) := by decide +kernel
theorem dX4_isText_0 : decode cX4_isText 0 = .ok (.iload_n 0, 1) := by decide +kernel
theorem dX4_isText_1 : decode cX4_isText 1 = .ok (.ifCond .lt 12, 3) := by decide +kernel
theorem dX4_isText_4 : decode cX4_isText 4 = .ok (.iload_n 0, 1) := by decide +kernel
theorem dX4_isText_5 : decode cX4_isText 5 = .ok (.iconst 4, 1) := by decide +kernel
theorem dX4_isText_6 : decode cX4_isText 6 = .ok (.if_icmp .ge 7, 3) := by decide +kernel
theorem dX4_isText_9 : decode cX4_isText 9 = .ok (.iconst 1, 1) := by decide +kernel
theorem dX4_isText_10 : decode cX4_isText 10 = .ok (.goto 4, 3) := by decide +kernel
theorem dX4_isText_13 : decode cX4_isText 13 = .ok (.iconst 0, 1) := by decide +kernel
theorem dX4_isText_14 : decode cX4_isText 14 = .ok (.ireturn, 1) := by decide +kernel
theorem dX4_isFigure_0 : decode cX4_isFigure 0 = .ok (.iload_n 0, 1) := by decide +kernel
theorem dX4_isFigure_1 : decode cX4_isFigure 1 = .ok (.iconst 1, 1) := by decide +kernel
theorem dX4_isFigure_2 : decode cX4_isFigure 2 = .ok (.if_icmp .lt 13, 3) := by decide +kernel
theorem dX4_isFigure_5 : decode cX4_isFigure 5 = .ok (.iload_n 0, 1) := by decide +kernel
theorem dX4_isFigure_6 : decode cX4_isFigure 6 = .ok (.bipush 9, 2) := by decide +kernel
theorem dX4_isFigure_8 : decode cX4_isFigure 8 = .ok (.if_icmp .gt 7, 3) := by decide +kernel
theorem dX4_isFigure_11 : decode cX4_isFigure 11 = .ok (.iconst 1, 1) := by decide +kernel
theorem dX4_isFigure_12 : decode cX4_isFigure 12 = .ok (.goto 4, 3) := by decide +kernel
theorem dX4_isFigure_15 : decode cX4_isFigure 15 = .ok (.iconst 0, 1) := by decide +kernel
theorem dX4_isFigure_16 : decode cX4_isFigure 16 = .ok (.ireturn, 1) := by decide +kernel
theorem dX4_isKeptPlace_0 : decode cX4_isKeptPlace 0 = .ok (.iload_n 0, 1) := by decide +kernel
theorem dX4_isKeptPlace_1 : decode cX4_isKeptPlace 1 = .ok (.ifCond .lt 12, 3) := by decide +kernel
theorem dX4_isKeptPlace_4 : decode cX4_isKeptPlace 4 = .ok (.iload_n 0, 1) := by decide +kernel
theorem dX4_isKeptPlace_5 : decode cX4_isKeptPlace 5 = .ok (.iconst 3, 1) := by decide +kernel
theorem dX4_isKeptPlace_6 : decode cX4_isKeptPlace 6 = .ok (.if_icmp .ge 7, 3) := by decide +kernel
theorem dX4_isKeptPlace_9 : decode cX4_isKeptPlace 9 = .ok (.iconst 1, 1) := by decide +kernel
theorem dX4_isKeptPlace_10 : decode cX4_isKeptPlace 10 = .ok (.goto 4, 3) := by decide +kernel
theorem dX4_isKeptPlace_13 : decode cX4_isKeptPlace 13 = .ok (.iconst 0, 1) := by decide +kernel
theorem dX4_isKeptPlace_14 : decode cX4_isKeptPlace 14 = .ok (.ireturn, 1) := by decide +kernel
theorem dX4_isChance_0 : decode cX4_isChance 0 = .ok (.iload_n 0, 1) := by decide +kernel
theorem dX4_isChance_1 : decode cX4_isChance 1 = .ok (.ifCond .lt 13, 3) := by decide +kernel
theorem dX4_isChance_4 : decode cX4_isChance 4 = .ok (.iload_n 0, 1) := by decide +kernel
theorem dX4_isChance_5 : decode cX4_isChance 5 = .ok (.bipush 12, 2) := by decide +kernel
theorem dX4_isChance_7 : decode cX4_isChance 7 = .ok (.if_icmp .gt 7, 3) := by decide +kernel
theorem dX4_isChance_10 : decode cX4_isChance 10 = .ok (.iconst 1, 1) := by decide +kernel
theorem dX4_isChance_11 : decode cX4_isChance 11 = .ok (.goto 4, 3) := by decide +kernel
theorem dX4_isChance_14 : decode cX4_isChance 14 = .ok (.iconst 0, 1) := by decide +kernel
theorem dX4_isChance_15 : decode cX4_isChance 15 = .ok (.ireturn, 1) := by decide +kernel
theorem dX4_isCaller_0 : decode cX4_isCaller 0 = .ok (.iload_n 1, 1) := by decide +kernel
theorem dX4_isCaller_1 : decode cX4_isCaller 1 = .ok (.ifCond .lt 18, 3) := by decide +kernel
theorem dX4_isCaller_4 : decode cX4_isCaller 4 = .ok (.iload_n 1, 1) := by decide +kernel
theorem dX4_isCaller_5 : decode cX4_isCaller 5 = .ok (.aload_n 0, 1) := by decide +kernel
theorem dX4_isCaller_6 : decode cX4_isCaller 6 = .ok (.getfield 33, 3) := by decide +kernel
theorem dX4_isCaller_9 : decode cX4_isCaller 9 = .ok (.getfield 125, 3) := by decide +kernel
theorem dX4_isCaller_12 : decode cX4_isCaller 12 = .ok (.if_icmp .ge 7, 3) := by decide +kernel
theorem dX4_isCaller_15 : decode cX4_isCaller 15 = .ok (.iconst 1, 1) := by decide +kernel
theorem dX4_isCaller_16 : decode cX4_isCaller 16 = .ok (.goto 4, 3) := by decide +kernel
theorem dX4_isCaller_19 : decode cX4_isCaller 19 = .ok (.iconst 0, 1) := by decide +kernel
theorem dX4_isCaller_20 : decode cX4_isCaller 20 = .ok (.ireturn, 1) := by decide +kernel
theorem dX4_isFullWith_0 : decode cX4_isFullWith 0 = .ok (.aload_n 0, 1) := by decide +kernel
theorem dX4_isFullWith_1 : decode cX4_isFullWith 1 = .ok (.getfield 42, 3) := by decide +kernel
theorem dX4_isFullWith_4 : decode cX4_isFullWith 4 = .ok (.getfield 86, 3) := by decide +kernel
theorem dX4_isFullWith_7 : decode cX4_isFullWith 7 = .ok (.iload_n 1, 1) := by decide +kernel
theorem dX4_isFullWith_8 : decode cX4_isFullWith 8 = .ok (.iadd, 1) := by decide +kernel
theorem dX4_isFullWith_9 : decode cX4_isFullWith 9 = .ok (.bipush 40, 2) := by decide +kernel
theorem dX4_isFullWith_11 : decode cX4_isFullWith 11 = .ok (.if_icmp .le 7, 3) := by decide +kernel
theorem dX4_isFullWith_14 : decode cX4_isFullWith 14 = .ok (.iconst 1, 1) := by decide +kernel
theorem dX4_isFullWith_15 : decode cX4_isFullWith 15 = .ok (.goto 4, 3) := by decide +kernel
theorem dX4_isFullWith_18 : decode cX4_isFullWith 18 = .ok (.iconst 0, 1) := by decide +kernel
theorem dX4_isFullWith_19 : decode cX4_isFullWith 19 = .ok (.ireturn, 1) := by decide +kernel
theorem dX4_found_0 : decode cX4_found 0 = .ok (.aload_n 0, 1) := by decide +kernel
theorem dX4_found_1 : decode cX4_found 1 = .ok (.iload_n 1, 1) := by decide +kernel
theorem dX4_found_2 : decode cX4_found 2 = .ok (.putfield 61, 3) := by decide +kernel
theorem dX4_found_5 : decode cX4_found 5 = .ok (.aload_n 0, 1) := by decide +kernel
theorem dX4_found_6 : decode cX4_found 6 = .ok (.getfield 64, 3) := by decide +kernel
theorem dX4_found_9 : decode cX4_found 9 = .ok (.iload_n 1, 1) := by decide +kernel
theorem dX4_found_10 : decode cX4_found 10 = .ok (.dup2, 1) := by decide +kernel
theorem dX4_found_11 : decode cX4_found 11 = .ok (.iaload, 1) := by decide +kernel
theorem dX4_found_12 : decode cX4_found 12 = .ok (.iconst 1, 1) := by decide +kernel
theorem dX4_found_13 : decode cX4_found 13 = .ok (.iadd, 1) := by decide +kernel
theorem dX4_found_14 : decode cX4_found 14 = .ok (.iastore, 1) := by decide +kernel
theorem dX4_found_15 : decode cX4_found 15 = .ok (.bipush (-3), 2) := by decide +kernel
theorem dX4_found_17 : decode cX4_found 17 = .ok (.ireturn, 1) := by decide +kernel
theorem dX4_findingOfPlace_0 : decode cX4_findingOfPlace 0 = .ok (.iload_n 0, 1) := by decide +kernel
theorem dX4_findingOfPlace_1 : decode cX4_findingOfPlace 1 = .ok (.iconst (-1), 1) := by decide +kernel
theorem dX4_findingOfPlace_2 : decode cX4_findingOfPlace 2 = .ok (.if_icmp .ne 5, 3) := by decide +kernel
theorem dX4_findingOfPlace_5 : decode cX4_findingOfPlace 5 = .ok (.iconst 1, 1) := by decide +kernel
theorem dX4_findingOfPlace_6 : decode cX4_findingOfPlace 6 = .ok (.ireturn, 1) := by decide +kernel
theorem dX4_findingOfPlace_7 : decode cX4_findingOfPlace 7 = .ok (.iload_n 1, 1) := by decide +kernel
theorem dX4_findingOfPlace_8 : decode cX4_findingOfPlace 8 = .ok (.ifCond .lt 8, 3) := by decide +kernel
theorem dX4_findingOfPlace_11 : decode cX4_findingOfPlace 11 = .ok (.iload_n 1, 1) := by decide +kernel
theorem dX4_findingOfPlace_12 : decode cX4_findingOfPlace 12 = .ok (.iload_n 0, 1) := by decide +kernel
theorem dX4_findingOfPlace_13 : decode cX4_findingOfPlace 13 = .ok (.if_icmp .lt 7, 3) := by decide +kernel
theorem dX4_findingOfPlace_16 : decode cX4_findingOfPlace 16 = .ok (.iconst 2, 1) := by decide +kernel
theorem dX4_findingOfPlace_17 : decode cX4_findingOfPlace 17 = .ok (.goto 4, 3) := by decide +kernel
theorem dX4_findingOfPlace_20 : decode cX4_findingOfPlace 20 = .ok (.iconst 0, 1) := by decide +kernel
theorem dX4_findingOfPlace_21 : decode cX4_findingOfPlace 21 = .ok (.ireturn, 1) := by decide +kernel
theorem dX4_hasPlaces_0 : decode cX4_hasPlaces 0 = .ok (.iload_n 1, 1) := by decide +kernel
theorem dX4_hasPlaces_1 : decode cX4_hasPlaces 1 = .ok (.ifCond .lt 19, 3) := by decide +kernel
theorem dX4_hasPlaces_4 : decode cX4_hasPlaces 4 = .ok (.iload_n 1, 1) := by decide +kernel
theorem dX4_hasPlaces_5 : decode cX4_hasPlaces 5 = .ok (.iload_n 0, 1) := by decide +kernel
theorem dX4_hasPlaces_6 : decode cX4_hasPlaces 6 = .ok (.if_icmp .gt 14, 3) := by decide +kernel
theorem dX4_hasPlaces_9 : decode cX4_hasPlaces 9 = .ok (.iload_n 2, 1) := by decide +kernel
theorem dX4_hasPlaces_10 : decode cX4_hasPlaces 10 = .ok (.iload_n 0, 1) := by decide +kernel
theorem dX4_hasPlaces_11 : decode cX4_hasPlaces 11 = .ok (.iload_n 1, 1) := by decide +kernel
theorem dX4_hasPlaces_12 : decode cX4_hasPlaces 12 = .ok (.isub, 1) := by decide +kernel
theorem dX4_hasPlaces_13 : decode cX4_hasPlaces 13 = .ok (.if_icmp .gt 7, 3) := by decide +kernel
theorem dX4_hasPlaces_16 : decode cX4_hasPlaces 16 = .ok (.iconst 1, 1) := by decide +kernel
theorem dX4_hasPlaces_17 : decode cX4_hasPlaces 17 = .ok (.goto 4, 3) := by decide +kernel
theorem dX4_hasPlaces_20 : decode cX4_hasPlaces 20 = .ok (.iconst 0, 1) := by decide +kernel
theorem dX4_hasPlaces_21 : decode cX4_hasPlaces 21 = .ok (.ireturn, 1) := by decide +kernel
theorem dX4_findingOfSeen_0 : decode cX4_findingOfSeen 0 = .ok (.aload_n 0, 1) := by decide +kernel
theorem dX4_findingOfSeen_1 : decode cX4_findingOfSeen 1 = .ok (.getfield 14, 3) := by decide +kernel
theorem dX4_findingOfSeen_4 : decode cX4_findingOfSeen 4 = .ok (.iload_n 1, 1) := by decide +kernel
theorem dX4_findingOfSeen_5 : decode cX4_findingOfSeen 5 = .ok (.iaload, 1) := by decide +kernel
theorem dX4_findingOfSeen_6 : decode cX4_findingOfSeen 6 = .ok (.istore_n 2, 1) := by decide +kernel
theorem dX4_findingOfSeen_7 : decode cX4_findingOfSeen 7 = .ok (.iload_n 2, 1) := by decide +kernel
theorem dX4_findingOfSeen_8 : decode cX4_findingOfSeen 8 = .ok (.iconst (-1), 1) := by decide +kernel
theorem dX4_findingOfSeen_9 : decode cX4_findingOfSeen 9 = .ok (.if_icmp .ne 5, 3) := by decide +kernel
theorem dX4_findingOfSeen_12 : decode cX4_findingOfSeen 12 = .ok (.iconst 1, 1) := by decide +kernel
theorem dX4_findingOfSeen_13 : decode cX4_findingOfSeen 13 = .ok (.ireturn, 1) := by decide +kernel
theorem dX4_findingOfSeen_14 : decode cX4_findingOfSeen 14 = .ok (.iload_n 2, 1) := by decide +kernel
theorem dX4_findingOfSeen_15 : decode cX4_findingOfSeen 15 = .ok (.iconst 1, 1) := by decide +kernel
theorem dX4_findingOfSeen_16 : decode cX4_findingOfSeen 16 = .ok (.if_icmp .lt 9, 3) := by decide +kernel
theorem dX4_findingOfSeen_19 : decode cX4_findingOfSeen 19 = .ok (.iload_n 2, 1) := by decide +kernel
theorem dX4_findingOfSeen_20 : decode cX4_findingOfSeen 20 = .ok (.bipush 20, 2) := by decide +kernel
theorem dX4_findingOfSeen_22 : decode cX4_findingOfSeen 22 = .ok (.if_icmp .le 5, 3) := by decide +kernel
theorem dX4_findingOfSeen_25 : decode cX4_findingOfSeen 25 = .ok (.iconst 5, 1) := by decide +kernel
theorem dX4_findingOfSeen_26 : decode cX4_findingOfSeen 26 = .ok (.ireturn, 1) := by decide +kernel
theorem dX4_findingOfSeen_27 : decode cX4_findingOfSeen 27 = .ok (.iconst 0, 1) := by decide +kernel
theorem dX4_findingOfSeen_28 : decode cX4_findingOfSeen 28 = .ok (.istore_n 3, 1) := by decide +kernel
theorem dX4_findingOfSeen_29 : decode cX4_findingOfSeen 29 = .ok (.iload_n 3, 1) := by decide +kernel
theorem dX4_findingOfSeen_30 : decode cX4_findingOfSeen 30 = .ok (.iload_n 2, 1) := by decide +kernel
theorem dX4_findingOfSeen_31 : decode cX4_findingOfSeen 31 = .ok (.if_icmp .ge 35, 3) := by decide +kernel
theorem dX4_findingOfSeen_34 : decode cX4_findingOfSeen 34 = .ok (.aload_n 0, 1) := by decide +kernel
theorem dX4_findingOfSeen_35 : decode cX4_findingOfSeen 35 = .ok (.getfield 11, 3) := by decide +kernel
theorem dX4_findingOfSeen_38 : decode cX4_findingOfSeen 38 = .ok (.iload_n 1, 1) := by decide +kernel
theorem dX4_findingOfSeen_39 : decode cX4_findingOfSeen 39 = .ok (.aaload, 1) := by decide +kernel
theorem dX4_findingOfSeen_40 : decode cX4_findingOfSeen 40 = .ok (.iload_n 3, 1) := by decide +kernel
theorem dX4_findingOfSeen_41 : decode cX4_findingOfSeen 41 = .ok (.iaload, 1) := by decide +kernel
theorem dX4_findingOfSeen_42 : decode cX4_findingOfSeen 42 = .ok (.ifCond .lt 16, 3) := by decide +kernel
theorem dX4_findingOfSeen_45 : decode cX4_findingOfSeen 45 = .ok (.aload_n 0, 1) := by decide +kernel
theorem dX4_findingOfSeen_46 : decode cX4_findingOfSeen 46 = .ok (.getfield 11, 3) := by decide +kernel
theorem dX4_findingOfSeen_49 : decode cX4_findingOfSeen 49 = .ok (.iload_n 1, 1) := by decide +kernel
theorem dX4_findingOfSeen_50 : decode cX4_findingOfSeen 50 = .ok (.aaload, 1) := by decide +kernel
theorem dX4_findingOfSeen_51 : decode cX4_findingOfSeen 51 = .ok (.iload_n 3, 1) := by decide +kernel
theorem dX4_findingOfSeen_52 : decode cX4_findingOfSeen 52 = .ok (.iaload, 1) := by decide +kernel
theorem dX4_findingOfSeen_53 : decode cX4_findingOfSeen 53 = .ok (.bipush 7, 2) := by decide +kernel
theorem dX4_findingOfSeen_55 : decode cX4_findingOfSeen 55 = .ok (.if_icmp .le 5, 3) := by decide +kernel
theorem dX4_findingOfSeen_58 : decode cX4_findingOfSeen 58 = .ok (.iconst 3, 1) := by decide +kernel
theorem dX4_findingOfSeen_59 : decode cX4_findingOfSeen 59 = .ok (.ireturn, 1) := by decide +kernel
theorem dX4_findingOfSeen_60 : decode cX4_findingOfSeen 60 = .ok (.iinc 3 1, 3) := by decide +kernel
theorem dX4_findingOfSeen_63 : decode cX4_findingOfSeen 63 = .ok (.goto (-34), 3) := by decide +kernel
theorem dX4_findingOfSeen_66 : decode cX4_findingOfSeen 66 = .ok (.iconst 0, 1) := by decide +kernel
theorem dX4_findingOfSeen_67 : decode cX4_findingOfSeen 67 = .ok (.ireturn, 1) := by decide +kernel
theorem dX4_doDeed_0 : decode cX4_doDeed 0 = .ok (.aload_n 0, 1) := by decide +kernel
theorem dX4_doDeed_1 : decode cX4_doDeed 1 = .ok (.getfield 42, 3) := by decide +kernel
theorem dX4_doDeed_4 : decode cX4_doDeed 4 = .ok (.iload_n 1, 1) := by decide +kernel
theorem dX4_doDeed_5 : decode cX4_doDeed 5 = .ok (.iload_n 2, 1) := by decide +kernel
theorem dX4_doDeed_6 : decode cX4_doDeed 6 = .ok (.iload_n 3, 1) := by decide +kernel
theorem dX4_doDeed_7 : decode cX4_doDeed 7 = .ok (.invokevirtual 284, 3) := by decide +kernel
theorem dX4_doDeed_10 : decode cX4_doDeed 10 = .ok (.aload_n 0, 1) := by decide +kernel
theorem dX4_doDeed_11 : decode cX4_doDeed 11 = .ok (.getfield 33, 3) := by decide +kernel
theorem dX4_doDeed_14 : decode cX4_doDeed 14 = .ok (.iload_n 1, 1) := by decide +kernel
theorem dX4_doDeed_15 : decode cX4_doDeed 15 = .ok (.iload_n 2, 1) := by decide +kernel
theorem dX4_doDeed_16 : decode cX4_doDeed 16 = .ok (.iload_n 3, 1) := by decide +kernel
theorem dX4_doDeed_17 : decode cX4_doDeed 17 = .ok (.invokevirtual 287, 3) := by decide +kernel
theorem dX4_doDeed_20 : decode cX4_doDeed 20 = .ok (.return_, 1) := by decide +kernel
theorem dX4_doDeedOfLot_0 : decode cX4_doDeedOfLot 0 = .ok (.iload_n 1, 1) := by decide +kernel
theorem dX4_doDeedOfLot_1 : decode cX4_doDeedOfLot 1 = .ok (.bipush 8, 2) := by decide +kernel
theorem dX4_doDeedOfLot_3 : decode cX4_doDeedOfLot 3 = .ok (.irem, 1) := by decide +kernel
theorem dX4_doDeedOfLot_4 : decode cX4_doDeedOfLot 4 = .ok (.istore_n 2, 1) := by decide +kernel
theorem dX4_doDeedOfLot_5 : decode cX4_doDeedOfLot 5 = .ok (.iload_n 1, 1) := by decide +kernel
theorem dX4_doDeedOfLot_6 : decode cX4_doDeedOfLot 6 = .ok (.bipush 8, 2) := by decide +kernel
theorem dX4_doDeedOfLot_8 : decode cX4_doDeedOfLot 8 = .ok (.idiv, 1) := by decide +kernel
theorem dX4_doDeedOfLot_9 : decode cX4_doDeedOfLot 9 = .ok (.istore_n 3, 1) := by decide +kernel
theorem dX4_doDeedOfLot_10 : decode cX4_doDeedOfLot 10 = .ok (.iload_n 2, 1) := by decide +kernel
theorem dX4_doDeedOfLot_11 : decode cX4_doDeedOfLot 11 = .ok (.ifCond .ne 16, 3) := by decide +kernel
theorem dX4_doDeedOfLot_14 : decode cX4_doDeedOfLot 14 = .ok (.aload_n 0, 1) := by decide +kernel
theorem dX4_doDeedOfLot_15 : decode cX4_doDeedOfLot 15 = .ok (.iconst 2, 1) := by decide +kernel
theorem dX4_doDeedOfLot_16 : decode cX4_doDeedOfLot 16 = .ok (.iload_n 3, 1) := by decide +kernel
theorem dX4_doDeedOfLot_17 : decode cX4_doDeedOfLot 17 = .ok (.bipush 8, 2) := by decide +kernel
theorem dX4_doDeedOfLot_19 : decode cX4_doDeedOfLot 19 = .ok (.irem, 1) := by decide +kernel
theorem dX4_doDeedOfLot_20 : decode cX4_doDeedOfLot 20 = .ok (.iconst 0, 1) := by decide +kernel
theorem dX4_doDeedOfLot_21 : decode cX4_doDeedOfLot 21 = .ok (.invokevirtual 156, 3) := by decide +kernel
theorem dX4_doDeedOfLot_24 : decode cX4_doDeedOfLot 24 = .ok (.goto 65, 3) := by decide +kernel
theorem dX4_doDeedOfLot_27 : decode cX4_doDeedOfLot 27 = .ok (.iload_n 2, 1) := by decide +kernel
theorem dX4_doDeedOfLot_28 : decode cX4_doDeedOfLot 28 = .ok (.iconst 1, 1) := by decide +kernel
theorem dX4_doDeedOfLot_29 : decode cX4_doDeedOfLot 29 = .ok (.if_icmp .ne 31, 3) := by decide +kernel
theorem dX4_doDeedOfLot_32 : decode cX4_doDeedOfLot 32 = .ok (.aload_n 0, 1) := by decide +kernel
theorem dX4_doDeedOfLot_33 : decode cX4_doDeedOfLot 33 = .ok (.getfield 33, 3) := by decide +kernel
theorem dX4_doDeedOfLot_36 : decode cX4_doDeedOfLot 36 = .ok (.getfield 125, 3) := by decide +kernel
theorem dX4_doDeedOfLot_39 : decode cX4_doDeedOfLot 39 = .ok (.ifCond .le 21, 3) := by decide +kernel
theorem dX4_doDeedOfLot_42 : decode cX4_doDeedOfLot 42 = .ok (.aload_n 0, 1) := by decide +kernel
theorem dX4_doDeedOfLot_43 : decode cX4_doDeedOfLot 43 = .ok (.iconst 5, 1) := by decide +kernel
theorem dX4_doDeedOfLot_44 : decode cX4_doDeedOfLot 44 = .ok (.iload_n 3, 1) := by decide +kernel
theorem dX4_doDeedOfLot_45 : decode cX4_doDeedOfLot 45 = .ok (.aload_n 0, 1) := by decide +kernel
theorem dX4_doDeedOfLot_46 : decode cX4_doDeedOfLot 46 = .ok (.getfield 33, 3) := by decide +kernel
theorem dX4_doDeedOfLot_49 : decode cX4_doDeedOfLot 49 = .ok (.getfield 125, 3) := by decide +kernel
theorem dX4_doDeedOfLot_52 : decode cX4_doDeedOfLot 52 = .ok (.irem, 1) := by decide +kernel
theorem dX4_doDeedOfLot_53 : decode cX4_doDeedOfLot 53 = .ok (.iconst 0, 1) := by decide +kernel
theorem dX4_doDeedOfLot_54 : decode cX4_doDeedOfLot 54 = .ok (.invokevirtual 156, 3) := by decide +kernel
theorem dX4_doDeedOfLot_57 : decode cX4_doDeedOfLot 57 = .ok (.goto 32, 3) := by decide +kernel
theorem dX4_doDeedOfLot_60 : decode cX4_doDeedOfLot 60 = .ok (.aload_n 0, 1) := by decide +kernel
theorem dX4_doDeedOfLot_61 : decode cX4_doDeedOfLot 61 = .ok (.getfield 33, 3) := by decide +kernel
theorem dX4_doDeedOfLot_64 : decode cX4_doDeedOfLot 64 = .ok (.getfield 141, 3) := by decide +kernel
theorem dX4_doDeedOfLot_67 : decode cX4_doDeedOfLot 67 = .ok (.bipush 99, 2) := by decide +kernel
theorem dX4_doDeedOfLot_69 : decode cX4_doDeedOfLot 69 = .ok (.if_icmp .ge 13, 3) := by decide +kernel
theorem dX4_doDeedOfLot_72 : decode cX4_doDeedOfLot 72 = .ok (.aload_n 0, 1) := by decide +kernel
theorem dX4_doDeedOfLot_73 : decode cX4_doDeedOfLot 73 = .ok (.iconst 1, 1) := by decide +kernel
theorem dX4_doDeedOfLot_74 : decode cX4_doDeedOfLot 74 = .ok (.iconst 0, 1) := by decide +kernel
theorem dX4_doDeedOfLot_75 : decode cX4_doDeedOfLot 75 = .ok (.iconst 0, 1) := by decide +kernel
theorem dX4_doDeedOfLot_76 : decode cX4_doDeedOfLot 76 = .ok (.invokevirtual 156, 3) := by decide +kernel
theorem dX4_doDeedOfLot_79 : decode cX4_doDeedOfLot 79 = .ok (.goto 10, 3) := by decide +kernel
theorem dX4_doDeedOfLot_82 : decode cX4_doDeedOfLot 82 = .ok (.aload_n 0, 1) := by decide +kernel
theorem dX4_doDeedOfLot_83 : decode cX4_doDeedOfLot 83 = .ok (.iconst 0, 1) := by decide +kernel
theorem dX4_doDeedOfLot_84 : decode cX4_doDeedOfLot 84 = .ok (.iconst 0, 1) := by decide +kernel
theorem dX4_doDeedOfLot_85 : decode cX4_doDeedOfLot 85 = .ok (.iconst 0, 1) := by decide +kernel
theorem dX4_doDeedOfLot_86 : decode cX4_doDeedOfLot 86 = .ok (.invokevirtual 156, 3) := by decide +kernel
theorem dX4_doDeedOfLot_89 : decode cX4_doDeedOfLot 89 = .ok (.return_, 1) := by decide +kernel
theorem dX4_doAllAgain_0 : decode cX4_doAllAgain 0 = .ok (.aload_n 0, 1) := by decide +kernel
theorem dX4_doAllAgain_1 : decode cX4_doAllAgain 1 = .ok (.getfield 33, 3) := by decide +kernel
theorem dX4_doAllAgain_4 : decode cX4_doAllAgain 4 = .ok (.aload_n 0, 1) := by decide +kernel
theorem dX4_doAllAgain_5 : decode cX4_doAllAgain 5 = .ok (.getfield 29, 3) := by decide +kernel
theorem dX4_doAllAgain_8 : decode cX4_doAllAgain 8 = .ok (.invokevirtual 121, 3) := by decide +kernel
theorem dX4_doAllAgain_11 : decode cX4_doAllAgain 11 = .ok (.iconst 0, 1) := by decide +kernel
theorem dX4_doAllAgain_12 : decode cX4_doAllAgain 12 = .ok (.istore_n 1, 1) := by decide +kernel
theorem dX4_doAllAgain_13 : decode cX4_doAllAgain 13 = .ok (.iload_n 1, 1) := by decide +kernel
theorem dX4_doAllAgain_14 : decode cX4_doAllAgain 14 = .ok (.aload_n 0, 1) := by decide +kernel
theorem dX4_doAllAgain_15 : decode cX4_doAllAgain 15 = .ok (.getfield 42, 3) := by decide +kernel
theorem dX4_doAllAgain_18 : decode cX4_doAllAgain 18 = .ok (.getfield 86, 3) := by decide +kernel
theorem dX4_doAllAgain_21 : decode cX4_doAllAgain 21 = .ok (.if_icmp .ge 43, 3) := by decide +kernel
theorem dX4_doAllAgain_24 : decode cX4_doAllAgain 24 = .ok (.aload_n 0, 1) := by decide +kernel
theorem dX4_doAllAgain_25 : decode cX4_doAllAgain 25 = .ok (.getfield 33, 3) := by decide +kernel
theorem dX4_doAllAgain_28 : decode cX4_doAllAgain 28 = .ok (.aload_n 0, 1) := by decide +kernel
theorem dX4_doAllAgain_29 : decode cX4_doAllAgain 29 = .ok (.getfield 42, 3) := by decide +kernel
theorem dX4_doAllAgain_32 : decode cX4_doAllAgain 32 = .ok (.getfield 290, 3) := by decide +kernel
theorem dX4_doAllAgain_35 : decode cX4_doAllAgain 35 = .ok (.iload_n 1, 1) := by decide +kernel
theorem dX4_doAllAgain_36 : decode cX4_doAllAgain 36 = .ok (.iaload, 1) := by decide +kernel
theorem dX4_doAllAgain_37 : decode cX4_doAllAgain 37 = .ok (.aload_n 0, 1) := by decide +kernel
theorem dX4_doAllAgain_38 : decode cX4_doAllAgain 38 = .ok (.getfield 42, 3) := by decide +kernel
theorem dX4_doAllAgain_41 : decode cX4_doAllAgain 41 = .ok (.getfield 293, 3) := by decide +kernel
theorem dX4_doAllAgain_44 : decode cX4_doAllAgain 44 = .ok (.iload_n 1, 1) := by decide +kernel
theorem dX4_doAllAgain_45 : decode cX4_doAllAgain 45 = .ok (.iaload, 1) := by decide +kernel
theorem dX4_doAllAgain_46 : decode cX4_doAllAgain 46 = .ok (.aload_n 0, 1) := by decide +kernel
theorem dX4_doAllAgain_47 : decode cX4_doAllAgain 47 = .ok (.getfield 42, 3) := by decide +kernel
theorem dX4_doAllAgain_50 : decode cX4_doAllAgain 50 = .ok (.getfield 296, 3) := by decide +kernel
theorem dX4_doAllAgain_53 : decode cX4_doAllAgain 53 = .ok (.iload_n 1, 1) := by decide +kernel
theorem dX4_doAllAgain_54 : decode cX4_doAllAgain 54 = .ok (.iaload, 1) := by decide +kernel
theorem dX4_doAllAgain_55 : decode cX4_doAllAgain 55 = .ok (.invokevirtual 287, 3) := by decide +kernel
theorem dX4_doAllAgain_58 : decode cX4_doAllAgain 58 = .ok (.iinc 1 1, 3) := by decide +kernel
theorem dX4_doAllAgain_61 : decode cX4_doAllAgain 61 = .ok (.goto (-48), 3) := by decide +kernel
theorem dX4_doAllAgain_64 : decode cX4_doAllAgain 64 = .ok (.return_, 1) := by decide +kernel
theorem dX4_offerSetsOf_0 : decode cX4_offerSetsOf 0 = .ok (.iconst 1, 1) := by decide +kernel
theorem dX4_offerSetsOf_1 : decode cX4_offerSetsOf 1 = .ok (.aload_n 0, 1) := by decide +kernel
theorem dX4_offerSetsOf_2 : decode cX4_offerSetsOf 2 = .ok (.getfield 33, 3) := by decide +kernel
theorem dX4_offerSetsOf_5 : decode cX4_offerSetsOf 5 = .ok (.getfield 125, 3) := by decide +kernel
theorem dX4_offerSetsOf_8 : decode cX4_offerSetsOf 8 = .ok (.ishl, 1) := by decide +kernel
theorem dX4_offerSetsOf_9 : decode cX4_offerSetsOf 9 = .ok (.istore_n 3, 1) := by decide +kernel
theorem dX4_offerSetsOf_10 : decode cX4_offerSetsOf 10 = .ok (.iconst 0, 1) := by decide +kernel
theorem dX4_offerSetsOf_11 : decode cX4_offerSetsOf 11 = .ok (.istore 4, 2) := by decide +kernel
theorem dX4_offerSetsOf_13 : decode cX4_offerSetsOf 13 = .ok (.iload 4, 2) := by decide +kernel
theorem dX4_offerSetsOf_15 : decode cX4_offerSetsOf 15 = .ok (.iload_n 3, 1) := by decide +kernel
theorem dX4_offerSetsOf_16 : decode cX4_offerSetsOf 16 = .ok (.if_icmp .ge 55, 3) := by decide +kernel
theorem dX4_offerSetsOf_19 : decode cX4_offerSetsOf 19 = .ok (.iload 4, 2) := by decide +kernel
theorem dX4_offerSetsOf_21 : decode cX4_offerSetsOf 21 = .ok (.invokestatic 163, 3) := by decide +kernel
theorem dX4_offerSetsOf_24 : decode cX4_offerSetsOf 24 = .ok (.iload_n 1, 1) := by decide +kernel
theorem dX4_offerSetsOf_25 : decode cX4_offerSetsOf 25 = .ok (.if_icmp .ne 40, 3) := by decide +kernel
theorem dX4_offerSetsOf_28 : decode cX4_offerSetsOf 28 = .ok (.aload_n 0, 1) := by decide +kernel
theorem dX4_offerSetsOf_29 : decode cX4_offerSetsOf 29 = .ok (.getfield 36, 3) := by decide +kernel
theorem dX4_offerSetsOf_32 : decode cX4_offerSetsOf 32 = .ok (.aload_n 0, 1) := by decide +kernel
theorem dX4_offerSetsOf_33 : decode cX4_offerSetsOf 33 = .ok (.getfield 33, 3) := by decide +kernel
theorem dX4_offerSetsOf_36 : decode cX4_offerSetsOf 36 = .ok (.invokevirtual 121, 3) := by decide +kernel
theorem dX4_offerSetsOf_39 : decode cX4_offerSetsOf 39 = .ok (.aload_n 0, 1) := by decide +kernel
theorem dX4_offerSetsOf_40 : decode cX4_offerSetsOf 40 = .ok (.getfield 36, 3) := by decide +kernel
theorem dX4_offerSetsOf_43 : decode cX4_offerSetsOf 43 = .ok (.iload 4, 2) := by decide +kernel
theorem dX4_offerSetsOf_45 : decode cX4_offerSetsOf 45 = .ok (.putfield 299, 3) := by decide +kernel
theorem dX4_offerSetsOf_48 : decode cX4_offerSetsOf 48 = .ok (.aload_n 0, 1) := by decide +kernel
theorem dX4_offerSetsOf_49 : decode cX4_offerSetsOf 49 = .ok (.getfield 70, 3) := by decide +kernel
theorem dX4_offerSetsOf_52 : decode cX4_offerSetsOf 52 = .ok (.iload 4, 2) := by decide +kernel
theorem dX4_offerSetsOf_54 : decode cX4_offerSetsOf 54 = .ok (.aload_n 0, 1) := by decide +kernel
theorem dX4_offerSetsOf_55 : decode cX4_offerSetsOf 55 = .ok (.getfield 36, 3) := by decide +kernel
theorem dX4_offerSetsOf_58 : decode cX4_offerSetsOf 58 = .ok (.iload_n 2, 1) := by decide +kernel
theorem dX4_offerSetsOf_59 : decode cX4_offerSetsOf 59 = .ok (.invokevirtual 197, 3) := by decide +kernel
theorem dX4_offerSetsOf_62 : decode cX4_offerSetsOf 62 = .ok (.invokevirtual 217, 3) := by decide +kernel
theorem dX4_offerSetsOf_65 : decode cX4_offerSetsOf 65 = .ok (.iinc 4 1, 3) := by decide +kernel
theorem dX4_offerSetsOf_68 : decode cX4_offerSetsOf 68 = .ok (.goto (-55), 3) := by decide +kernel
theorem dX4_offerSetsOf_71 : decode cX4_offerSetsOf 71 = .ok (.return_, 1) := by decide +kernel
theorem dX4_goesAsSeen_0 : decode cX4_goesAsSeen 0 = .ok (.iconst 0, 1) := by decide +kernel
theorem dX4_goesAsSeen_1 : decode cX4_goesAsSeen 1 = .ok (.istore_n 2, 1) := by decide +kernel
theorem dX4_goesAsSeen_2 : decode cX4_goesAsSeen 2 = .ok (.iload_n 2, 1) := by decide +kernel
theorem dX4_goesAsSeen_3 : decode cX4_goesAsSeen 3 = .ok (.aload_n 0, 1) := by decide +kernel
theorem dX4_goesAsSeen_4 : decode cX4_goesAsSeen 4 = .ok (.getfield 14, 3) := by decide +kernel
theorem dX4_goesAsSeen_7 : decode cX4_goesAsSeen 7 = .ok (.iload_n 1, 1) := by decide +kernel
theorem dX4_goesAsSeen_8 : decode cX4_goesAsSeen 8 = .ok (.iaload, 1) := by decide +kernel
theorem dX4_goesAsSeen_9 : decode cX4_goesAsSeen 9 = .ok (.if_icmp .ge 36, 3) := by decide +kernel
theorem dX4_goesAsSeen_12 : decode cX4_goesAsSeen 12 = .ok (.aload_n 0, 1) := by decide +kernel
theorem dX4_goesAsSeen_13 : decode cX4_goesAsSeen 13 = .ok (.getfield 36, 3) := by decide +kernel
theorem dX4_goesAsSeen_16 : decode cX4_goesAsSeen 16 = .ok (.aload_n 0, 1) := by decide +kernel
theorem dX4_goesAsSeen_17 : decode cX4_goesAsSeen 17 = .ok (.getfield 36, 3) := by decide +kernel
theorem dX4_goesAsSeen_20 : decode cX4_goesAsSeen 20 = .ok (.invokevirtual 203, 3) := by decide +kernel
theorem dX4_goesAsSeen_23 : decode cX4_goesAsSeen 23 = .ok (.invokevirtual 206, 3) := by decide +kernel
theorem dX4_goesAsSeen_26 : decode cX4_goesAsSeen 26 = .ok (.aload_n 0, 1) := by decide +kernel
theorem dX4_goesAsSeen_27 : decode cX4_goesAsSeen 27 = .ok (.getfield 11, 3) := by decide +kernel
theorem dX4_goesAsSeen_30 : decode cX4_goesAsSeen 30 = .ok (.iload_n 1, 1) := by decide +kernel
theorem dX4_goesAsSeen_31 : decode cX4_goesAsSeen 31 = .ok (.aaload, 1) := by decide +kernel
theorem dX4_goesAsSeen_32 : decode cX4_goesAsSeen 32 = .ok (.iload_n 2, 1) := by decide +kernel
theorem dX4_goesAsSeen_33 : decode cX4_goesAsSeen 33 = .ok (.iaload, 1) := by decide +kernel
theorem dX4_goesAsSeen_34 : decode cX4_goesAsSeen 34 = .ok (.if_icmp .eq 5, 3) := by decide +kernel
theorem dX4_goesAsSeen_37 : decode cX4_goesAsSeen 37 = .ok (.iconst 0, 1) := by decide +kernel
theorem dX4_goesAsSeen_38 : decode cX4_goesAsSeen 38 = .ok (.ireturn, 1) := by decide +kernel
theorem dX4_goesAsSeen_39 : decode cX4_goesAsSeen 39 = .ok (.iinc 2 1, 3) := by decide +kernel
theorem dX4_goesAsSeen_42 : decode cX4_goesAsSeen 42 = .ok (.goto (-40), 3) := by decide +kernel
theorem dX4_goesAsSeen_45 : decode cX4_goesAsSeen 45 = .ok (.iconst 1, 1) := by decide +kernel
theorem dX4_goesAsSeen_46 : decode cX4_goesAsSeen 46 = .ok (.ireturn, 1) := by decide +kernel
theorem dX4_kindsAsSeen_0 : decode cX4_kindsAsSeen 0 = .ok (.iconst 0, 1) := by decide +kernel
theorem dX4_kindsAsSeen_1 : decode cX4_kindsAsSeen 1 = .ok (.istore_n 3, 1) := by decide +kernel
theorem dX4_kindsAsSeen_2 : decode cX4_kindsAsSeen 2 = .ok (.iconst 0, 1) := by decide +kernel
theorem dX4_kindsAsSeen_3 : decode cX4_kindsAsSeen 3 = .ok (.istore 4, 2) := by decide +kernel
theorem dX4_kindsAsSeen_5 : decode cX4_kindsAsSeen 5 = .ok (.iload 4, 2) := by decide +kernel
theorem dX4_kindsAsSeen_7 : decode cX4_kindsAsSeen 7 = .ok (.bipush 6, 2) := by decide +kernel
theorem dX4_kindsAsSeen_9 : decode cX4_kindsAsSeen 9 = .ok (.if_icmp .ge 49, 3) := by decide +kernel
theorem dX4_kindsAsSeen_12 : decode cX4_kindsAsSeen 12 = .ok (.aload_n 0, 1) := by decide +kernel
theorem dX4_kindsAsSeen_13 : decode cX4_kindsAsSeen 13 = .ok (.getfield 36, 3) := by decide +kernel
theorem dX4_kindsAsSeen_16 : decode cX4_kindsAsSeen 16 = .ok (.aload_n 0, 1) := by decide +kernel
theorem dX4_kindsAsSeen_17 : decode cX4_kindsAsSeen 17 = .ok (.getfield 33, 3) := by decide +kernel
theorem dX4_kindsAsSeen_20 : decode cX4_kindsAsSeen 20 = .ok (.invokevirtual 121, 3) := by decide +kernel
theorem dX4_kindsAsSeen_23 : decode cX4_kindsAsSeen 23 = .ok (.aload_n 0, 1) := by decide +kernel
theorem dX4_kindsAsSeen_24 : decode cX4_kindsAsSeen 24 = .ok (.getfield 36, 3) := by decide +kernel
theorem dX4_kindsAsSeen_27 : decode cX4_kindsAsSeen 27 = .ok (.getfield 129, 3) := by decide +kernel
theorem dX4_kindsAsSeen_30 : decode cX4_kindsAsSeen 30 = .ok (.iload_n 1, 1) := by decide +kernel
theorem dX4_kindsAsSeen_31 : decode cX4_kindsAsSeen 31 = .ok (.aaload, 1) := by decide +kernel
theorem dX4_kindsAsSeen_32 : decode cX4_kindsAsSeen 32 = .ok (.iload 4, 2) := by decide +kernel
theorem dX4_kindsAsSeen_34 : decode cX4_kindsAsSeen 34 = .ok (.putfield 302, 3) := by decide +kernel
theorem dX4_kindsAsSeen_37 : decode cX4_kindsAsSeen 37 = .ok (.aload_n 0, 1) := by decide +kernel
theorem dX4_kindsAsSeen_38 : decode cX4_kindsAsSeen 38 = .ok (.iload_n 2, 1) := by decide +kernel
theorem dX4_kindsAsSeen_39 : decode cX4_kindsAsSeen 39 = .ok (.invokevirtual 233, 3) := by decide +kernel
theorem dX4_kindsAsSeen_42 : decode cX4_kindsAsSeen 42 = .ok (.ifCond .eq 10, 3) := by decide +kernel
theorem dX4_kindsAsSeen_45 : decode cX4_kindsAsSeen 45 = .ok (.iload_n 3, 1) := by decide +kernel
theorem dX4_kindsAsSeen_46 : decode cX4_kindsAsSeen 46 = .ok (.iconst 1, 1) := by decide +kernel
theorem dX4_kindsAsSeen_47 : decode cX4_kindsAsSeen 47 = .ok (.iload 4, 2) := by decide +kernel
theorem dX4_kindsAsSeen_49 : decode cX4_kindsAsSeen 49 = .ok (.ishl, 1) := by decide +kernel
theorem dX4_kindsAsSeen_50 : decode cX4_kindsAsSeen 50 = .ok (.ior, 1) := by decide +kernel
theorem dX4_kindsAsSeen_51 : decode cX4_kindsAsSeen 51 = .ok (.istore_n 3, 1) := by decide +kernel
theorem dX4_kindsAsSeen_52 : decode cX4_kindsAsSeen 52 = .ok (.iinc 4 1, 3) := by decide +kernel
theorem dX4_kindsAsSeen_55 : decode cX4_kindsAsSeen 55 = .ok (.goto (-50), 3) := by decide +kernel
theorem dX4_kindsAsSeen_58 : decode cX4_kindsAsSeen 58 = .ok (.iload_n 3, 1) := by decide +kernel
theorem dX4_kindsAsSeen_59 : decode cX4_kindsAsSeen 59 = .ok (.ireturn, 1) := by decide +kernel
theorem dX4_countAlike_0 : decode cX4_countAlike 0 = .ok (.aload_n 0, 1) := by decide +kernel
theorem dX4_countAlike_1 : decode cX4_countAlike 1 = .ok (.getfield 77, 3) := by decide +kernel
theorem dX4_countAlike_4 : decode cX4_countAlike 4 = .ok (.iconst 0, 1) := by decide +kernel
theorem dX4_countAlike_5 : decode cX4_countAlike 5 = .ok (.invokestatic 80, 3) := by decide +kernel
theorem dX4_countAlike_8 : decode cX4_countAlike 8 = .ok (.iconst 0, 1) := by decide +kernel
theorem dX4_countAlike_9 : decode cX4_countAlike 9 = .ok (.istore_n 3, 1) := by decide +kernel
theorem dX4_countAlike_10 : decode cX4_countAlike 10 = .ok (.iload_n 3, 1) := by decide +kernel
theorem dX4_countAlike_11 : decode cX4_countAlike 11 = .ok (.bipush 6, 2) := by decide +kernel
theorem dX4_countAlike_13 : decode cX4_countAlike 13 = .ok (.if_icmp .ge 101, 3) := by decide +kernel
theorem dX4_countAlike_16 : decode cX4_countAlike 16 = .ok (.iload_n 2, 1) := by decide +kernel
theorem dX4_countAlike_17 : decode cX4_countAlike 17 = .ok (.iload_n 3, 1) := by decide +kernel
theorem dX4_countAlike_18 : decode cX4_countAlike 18 = .ok (.ishr, 1) := by decide +kernel
theorem dX4_countAlike_19 : decode cX4_countAlike 19 = .ok (.iconst 1, 1) := by decide +kernel
theorem dX4_countAlike_20 : decode cX4_countAlike 20 = .ok (.iand, 1) := by decide +kernel
theorem dX4_countAlike_21 : decode cX4_countAlike 21 = .ok (.ifCond .ne 6, 3) := by decide +kernel
theorem dX4_countAlike_24 : decode cX4_countAlike 24 = .ok (.goto 84, 3) := by decide +kernel
theorem dX4_countAlike_27 : decode cX4_countAlike 27 = .ok (.aload_n 0, 1) := by decide +kernel
theorem dX4_countAlike_28 : decode cX4_countAlike 28 = .ok (.getfield 36, 3) := by decide +kernel
theorem dX4_countAlike_31 : decode cX4_countAlike 31 = .ok (.aload_n 0, 1) := by decide +kernel
theorem dX4_countAlike_32 : decode cX4_countAlike 32 = .ok (.getfield 33, 3) := by decide +kernel
theorem dX4_countAlike_35 : decode cX4_countAlike 35 = .ok (.invokevirtual 121, 3) := by decide +kernel
theorem dX4_countAlike_38 : decode cX4_countAlike 38 = .ok (.aload_n 0, 1) := by decide +kernel
theorem dX4_countAlike_39 : decode cX4_countAlike 39 = .ok (.getfield 36, 3) := by decide +kernel
theorem dX4_countAlike_42 : decode cX4_countAlike 42 = .ok (.getfield 129, 3) := by decide +kernel
theorem dX4_countAlike_45 : decode cX4_countAlike 45 = .ok (.iload_n 1, 1) := by decide +kernel
theorem dX4_countAlike_46 : decode cX4_countAlike 46 = .ok (.aaload, 1) := by decide +kernel
theorem dX4_countAlike_47 : decode cX4_countAlike 47 = .ok (.iload_n 3, 1) := by decide +kernel
theorem dX4_countAlike_48 : decode cX4_countAlike 48 = .ok (.putfield 302, 3) := by decide +kernel
theorem dX4_countAlike_51 : decode cX4_countAlike 51 = .ok (.iconst 0, 1) := by decide +kernel
theorem dX4_countAlike_52 : decode cX4_countAlike 52 = .ok (.istore 4, 2) := by decide +kernel
theorem dX4_countAlike_54 : decode cX4_countAlike 54 = .ok (.iload 4, 2) := by decide +kernel
theorem dX4_countAlike_56 : decode cX4_countAlike 56 = .ok (.bipush 20, 2) := by decide +kernel
theorem dX4_countAlike_58 : decode cX4_countAlike 58 = .ok (.if_icmp .ge 50, 3) := by decide +kernel
theorem dX4_countAlike_61 : decode cX4_countAlike 61 = .ok (.aload_n 0, 1) := by decide +kernel
theorem dX4_countAlike_62 : decode cX4_countAlike 62 = .ok (.getfield 36, 3) := by decide +kernel
theorem dX4_countAlike_65 : decode cX4_countAlike 65 = .ok (.aload_n 0, 1) := by decide +kernel
theorem dX4_countAlike_66 : decode cX4_countAlike 66 = .ok (.getfield 36, 3) := by decide +kernel
theorem dX4_countAlike_69 : decode cX4_countAlike 69 = .ok (.invokevirtual 203, 3) := by decide +kernel
theorem dX4_countAlike_72 : decode cX4_countAlike 72 = .ok (.invokevirtual 206, 3) := by decide +kernel
theorem dX4_countAlike_75 : decode cX4_countAlike 75 = .ok (.pop, 1) := by decide +kernel
theorem dX4_countAlike_76 : decode cX4_countAlike 76 = .ok (.aload_n 0, 1) := by decide +kernel
theorem dX4_countAlike_77 : decode cX4_countAlike 77 = .ok (.getfield 77, 3) := by decide +kernel
theorem dX4_countAlike_80 : decode cX4_countAlike 80 = .ok (.iload 4, 2) := by decide +kernel
theorem dX4_countAlike_82 : decode cX4_countAlike 82 = .ok (.iconst 3, 1) := by decide +kernel
theorem dX4_countAlike_83 : decode cX4_countAlike 83 = .ok (.imul, 1) := by decide +kernel
theorem dX4_countAlike_84 : decode cX4_countAlike 84 = .ok (.aload_n 0, 1) := by decide +kernel
theorem dX4_countAlike_85 : decode cX4_countAlike 85 = .ok (.getfield 36, 3) := by decide +kernel
theorem dX4_countAlike_88 : decode cX4_countAlike 88 = .ok (.getfield 129, 3) := by decide +kernel
theorem dX4_countAlike_91 : decode cX4_countAlike 91 = .ok (.iload_n 1, 1) := by decide +kernel
theorem dX4_countAlike_92 : decode cX4_countAlike 92 = .ok (.aaload, 1) := by decide +kernel
theorem dX4_countAlike_93 : decode cX4_countAlike 93 = .ok (.getfield 177, 3) := by decide +kernel
theorem dX4_countAlike_96 : decode cX4_countAlike 96 = .ok (.iadd, 1) := by decide +kernel
theorem dX4_countAlike_97 : decode cX4_countAlike 97 = .ok (.dup2, 1) := by decide +kernel
theorem dX4_countAlike_98 : decode cX4_countAlike 98 = .ok (.iaload, 1) := by decide +kernel
theorem dX4_countAlike_99 : decode cX4_countAlike 99 = .ok (.iconst 1, 1) := by decide +kernel
theorem dX4_countAlike_100 : decode cX4_countAlike 100 = .ok (.iadd, 1) := by decide +kernel
theorem dX4_countAlike_101 : decode cX4_countAlike 101 = .ok (.iastore, 1) := by decide +kernel
theorem dX4_countAlike_102 : decode cX4_countAlike 102 = .ok (.iinc 4 1, 3) := by decide +kernel
theorem dX4_countAlike_105 : decode cX4_countAlike 105 = .ok (.goto (-51), 3) := by decide +kernel
theorem dX4_countAlike_108 : decode cX4_countAlike 108 = .ok (.iinc 3 1, 3) := by decide +kernel
theorem dX4_countAlike_111 : decode cX4_countAlike 111 = .ok (.goto (-101), 3) := by decide +kernel
theorem dX4_countAlike_114 : decode cX4_countAlike 114 = .ok (.return_, 1) := by decide +kernel
theorem dX4_greatestPart_0 : decode cX4_greatestPart 0 = .ok (.iload_n 1, 1) := by decide +kernel
theorem dX4_greatestPart_1 : decode cX4_greatestPart 1 = .ok (.iconst 1, 1) := by decide +kernel
theorem dX4_greatestPart_2 : decode cX4_greatestPart 2 = .ok (.isub, 1) := by decide +kernel
theorem dX4_greatestPart_3 : decode cX4_greatestPart 3 = .ok (.iconst 3, 1) := by decide +kernel
theorem dX4_greatestPart_4 : decode cX4_greatestPart 4 = .ok (.imul, 1) := by decide +kernel
theorem dX4_greatestPart_5 : decode cX4_greatestPart 5 = .ok (.istore_n 2, 1) := by decide +kernel
theorem dX4_greatestPart_6 : decode cX4_greatestPart 6 = .ok (.aload_n 0, 1) := by decide +kernel
theorem dX4_greatestPart_7 : decode cX4_greatestPart 7 = .ok (.getfield 77, 3) := by decide +kernel
theorem dX4_greatestPart_10 : decode cX4_greatestPart 10 = .ok (.iload_n 2, 1) := by decide +kernel
theorem dX4_greatestPart_11 : decode cX4_greatestPart 11 = .ok (.iconst 0, 1) := by decide +kernel
theorem dX4_greatestPart_12 : decode cX4_greatestPart 12 = .ok (.iadd, 1) := by decide +kernel
theorem dX4_greatestPart_13 : decode cX4_greatestPart 13 = .ok (.iaload, 1) := by decide +kernel
theorem dX4_greatestPart_14 : decode cX4_greatestPart 14 = .ok (.aload_n 0, 1) := by decide +kernel
theorem dX4_greatestPart_15 : decode cX4_greatestPart 15 = .ok (.getfield 77, 3) := by decide +kernel
theorem dX4_greatestPart_18 : decode cX4_greatestPart 18 = .ok (.iload_n 2, 1) := by decide +kernel
theorem dX4_greatestPart_19 : decode cX4_greatestPart 19 = .ok (.iconst 1, 1) := by decide +kernel
theorem dX4_greatestPart_20 : decode cX4_greatestPart 20 = .ok (.iadd, 1) := by decide +kernel
theorem dX4_greatestPart_21 : decode cX4_greatestPart 21 = .ok (.iaload, 1) := by decide +kernel
theorem dX4_greatestPart_22 : decode cX4_greatestPart 22 = .ok (.aload_n 0, 1) := by decide +kernel
theorem dX4_greatestPart_23 : decode cX4_greatestPart 23 = .ok (.getfield 77, 3) := by decide +kernel
theorem dX4_greatestPart_26 : decode cX4_greatestPart 26 = .ok (.iload_n 2, 1) := by decide +kernel
theorem dX4_greatestPart_27 : decode cX4_greatestPart 27 = .ok (.iconst 2, 1) := by decide +kernel
theorem dX4_greatestPart_28 : decode cX4_greatestPart 28 = .ok (.iadd, 1) := by decide +kernel
theorem dX4_greatestPart_29 : decode cX4_greatestPart 29 = .ok (.iaload, 1) := by decide +kernel
theorem dX4_greatestPart_30 : decode cX4_greatestPart 30 = .ok (.invokestatic 305, 3) := by decide +kernel
theorem dX4_greatestPart_33 : decode cX4_greatestPart 33 = .ok (.invokestatic 305, 3) := by decide +kernel
theorem dX4_greatestPart_36 : decode cX4_greatestPart 36 = .ok (.ireturn, 1) := by decide +kernel
theorem dX4_playFrom_0 : decode cX4_playFrom 0 = .ok (.iload_n 2, 1) := by decide +kernel
theorem dX4_playFrom_1 : decode cX4_playFrom 1 = .ok (.ifCond .gt 11, 3) := by decide +kernel
theorem dX4_playFrom_4 : decode cX4_playFrom 4 = .ok (.aload_n 0, 1) := by decide +kernel
theorem dX4_playFrom_5 : decode cX4_playFrom 5 = .ok (.iload_n 1, 1) := by decide +kernel
theorem dX4_playFrom_6 : decode cX4_playFrom 6 = .ok (.invokevirtual 310, 3) := by decide +kernel
theorem dX4_playFrom_9 : decode cX4_playFrom 9 = .ok (.goto 20, 3) := by decide +kernel
theorem dX4_playFrom_12 : decode cX4_playFrom 12 = .ok (.aload_n 0, 1) := by decide +kernel
theorem dX4_playFrom_13 : decode cX4_playFrom 13 = .ok (.iload_n 1, 1) := by decide +kernel
theorem dX4_playFrom_14 : decode cX4_playFrom 14 = .ok (.iload_n 2, 1) := by decide +kernel
theorem dX4_playFrom_15 : decode cX4_playFrom 15 = .ok (.iconst 1, 1) := by decide +kernel
theorem dX4_playFrom_16 : decode cX4_playFrom 16 = .ok (.isub, 1) := by decide +kernel
theorem dX4_playFrom_17 : decode cX4_playFrom 17 = .ok (.iload_n 3, 1) := by decide +kernel
theorem dX4_playFrom_18 : decode cX4_playFrom 18 = .ok (.ifCond .ne 7, 3) := by decide +kernel
theorem dX4_playFrom_21 : decode cX4_playFrom 21 = .ok (.iconst 1, 1) := by decide +kernel
theorem dX4_playFrom_22 : decode cX4_playFrom 22 = .ok (.goto 4, 3) := by decide +kernel
theorem dX4_playFrom_25 : decode cX4_playFrom 25 = .ok (.iconst 0, 1) := by decide +kernel
theorem dX4_playFrom_26 : decode cX4_playFrom 26 = .ok (.invokevirtual 245, 3) := by decide +kernel
theorem dX4_playFrom_29 : decode cX4_playFrom 29 = .ok (.istore 4, 2) := by decide +kernel
theorem dX4_playFrom_31 : decode cX4_playFrom 31 = .ok (.iconst 0, 1) := by decide +kernel
theorem dX4_playFrom_32 : decode cX4_playFrom 32 = .ok (.istore 5, 2) := by decide +kernel
theorem dX4_playFrom_34 : decode cX4_playFrom 34 = .ok (.iload 5, 2) := by decide +kernel
theorem dX4_playFrom_36 : decode cX4_playFrom 36 = .ok (.bipush 8, 2) := by decide +kernel
theorem dX4_playFrom_38 : decode cX4_playFrom 38 = .ok (.if_icmp .ge 83, 3) := by decide +kernel
theorem dX4_playFrom_41 : decode cX4_playFrom 41 = .ok (.iload_n 2, 1) := by decide +kernel
theorem dX4_playFrom_42 : decode cX4_playFrom 42 = .ok (.ifCond .le 79, 3) := by decide +kernel
theorem dX4_playFrom_45 : decode cX4_playFrom 45 = .ok (.iload_n 1, 1) := by decide +kernel
theorem dX4_playFrom_46 : decode cX4_playFrom 46 = .ok (.iload 5, 2) := by decide +kernel
theorem dX4_playFrom_48 : decode cX4_playFrom 48 = .ok (.ishr, 1) := by decide +kernel
theorem dX4_playFrom_49 : decode cX4_playFrom 49 = .ok (.iconst 1, 1) := by decide +kernel
theorem dX4_playFrom_50 : decode cX4_playFrom 50 = .ok (.iand, 1) := by decide +kernel
theorem dX4_playFrom_51 : decode cX4_playFrom 51 = .ok (.iconst 1, 1) := by decide +kernel
theorem dX4_playFrom_52 : decode cX4_playFrom 52 = .ok (.if_icmp .ne 7, 3) := by decide +kernel
theorem dX4_playFrom_55 : decode cX4_playFrom 55 = .ok (.iconst 1, 1) := by decide +kernel
theorem dX4_playFrom_56 : decode cX4_playFrom 56 = .ok (.goto 4, 3) := by decide +kernel
theorem dX4_playFrom_59 : decode cX4_playFrom 59 = .ok (.iconst 0, 1) := by decide +kernel
theorem dX4_playFrom_60 : decode cX4_playFrom 60 = .ok (.istore 6, 2) := by decide +kernel
theorem dX4_playFrom_62 : decode cX4_playFrom 62 = .ok (.iload 6, 2) := by decide +kernel
theorem dX4_playFrom_64 : decode cX4_playFrom 64 = .ok (.iload_n 3, 1) := by decide +kernel
theorem dX4_playFrom_65 : decode cX4_playFrom 65 = .ok (.if_icmp .ne 50, 3) := by decide +kernel
theorem dX4_playFrom_68 : decode cX4_playFrom 68 = .ok (.aload_n 0, 1) := by decide +kernel
theorem dX4_playFrom_69 : decode cX4_playFrom 69 = .ok (.iload_n 1, 1) := by decide +kernel
theorem dX4_playFrom_70 : decode cX4_playFrom 70 = .ok (.iconst 1, 1) := by decide +kernel
theorem dX4_playFrom_71 : decode cX4_playFrom 71 = .ok (.iload 5, 2) := by decide +kernel
theorem dX4_playFrom_73 : decode cX4_playFrom 73 = .ok (.ishl, 1) := by decide +kernel
theorem dX4_playFrom_74 : decode cX4_playFrom 74 = .ok (.ixor, 1) := by decide +kernel
theorem dX4_playFrom_75 : decode cX4_playFrom 75 = .ok (.iload_n 2, 1) := by decide +kernel
theorem dX4_playFrom_76 : decode cX4_playFrom 76 = .ok (.iconst 1, 1) := by decide +kernel
theorem dX4_playFrom_77 : decode cX4_playFrom 77 = .ok (.isub, 1) := by decide +kernel
theorem dX4_playFrom_78 : decode cX4_playFrom 78 = .ok (.iload_n 3, 1) := by decide +kernel
theorem dX4_playFrom_79 : decode cX4_playFrom 79 = .ok (.ifCond .ne 7, 3) := by decide +kernel
theorem dX4_playFrom_82 : decode cX4_playFrom 82 = .ok (.iconst 1, 1) := by decide +kernel
theorem dX4_playFrom_83 : decode cX4_playFrom 83 = .ok (.goto 4, 3) := by decide +kernel
theorem dX4_playFrom_86 : decode cX4_playFrom 86 = .ok (.iconst 0, 1) := by decide +kernel
theorem dX4_playFrom_87 : decode cX4_playFrom 87 = .ok (.invokevirtual 245, 3) := by decide +kernel
theorem dX4_playFrom_90 : decode cX4_playFrom 90 = .ok (.istore 7, 2) := by decide +kernel
theorem dX4_playFrom_92 : decode cX4_playFrom 92 = .ok (.iload_n 3, 1) := by decide +kernel
theorem dX4_playFrom_93 : decode cX4_playFrom 93 = .ok (.ifCond .eq 13, 3) := by decide +kernel
theorem dX4_playFrom_96 : decode cX4_playFrom 96 = .ok (.iload 4, 2) := by decide +kernel
theorem dX4_playFrom_98 : decode cX4_playFrom 98 = .ok (.iload 7, 2) := by decide +kernel
theorem dX4_playFrom_100 : decode cX4_playFrom 100 = .ok (.invokestatic 313, 3) := by decide +kernel
theorem dX4_playFrom_103 : decode cX4_playFrom 103 = .ok (.goto 10, 3) := by decide +kernel
theorem dX4_playFrom_106 : decode cX4_playFrom 106 = .ok (.iload 4, 2) := by decide +kernel
theorem dX4_playFrom_108 : decode cX4_playFrom 108 = .ok (.iload 7, 2) := by decide +kernel
theorem dX4_playFrom_110 : decode cX4_playFrom 110 = .ok (.invokestatic 305, 3) := by decide +kernel
theorem dX4_playFrom_113 : decode cX4_playFrom 113 = .ok (.istore 4, 2) := by decide +kernel
theorem dX4_playFrom_115 : decode cX4_playFrom 115 = .ok (.iinc 5 1, 3) := by decide +kernel
theorem dX4_playFrom_118 : decode cX4_playFrom 118 = .ok (.goto (-84), 3) := by decide +kernel
theorem dX4_playFrom_121 : decode cX4_playFrom 121 = .ok (.iload 4, 2) := by decide +kernel
theorem dX4_playFrom_123 : decode cX4_playFrom 123 = .ok (.ireturn, 1) := by decide +kernel
theorem dX4_duelEnd_0 : decode cX4_duelEnd 0 = .ok (.aload_n 0, 1) := by decide +kernel
theorem dX4_duelEnd_1 : decode cX4_duelEnd 1 = .ok (.getfield 74, 3) := by decide +kernel
theorem dX4_duelEnd_4 : decode cX4_duelEnd 4 = .ok (.iload_n 1, 1) := by decide +kernel
theorem dX4_duelEnd_5 : decode cX4_duelEnd 5 = .ok (.iaload, 1) := by decide +kernel
theorem dX4_duelEnd_6 : decode cX4_duelEnd 6 = .ok (.iconst (-1), 1) := by decide +kernel
theorem dX4_duelEnd_7 : decode cX4_duelEnd 7 = .ok (.if_icmp .ne 37, 3) := by decide +kernel
theorem dX4_duelEnd_10 : decode cX4_duelEnd 10 = .ok (.aload_n 0, 1) := by decide +kernel
theorem dX4_duelEnd_11 : decode cX4_duelEnd 11 = .ok (.getfield 36, 3) := by decide +kernel
theorem dX4_duelEnd_14 : decode cX4_duelEnd 14 = .ok (.aload_n 0, 1) := by decide +kernel
theorem dX4_duelEnd_15 : decode cX4_duelEnd 15 = .ok (.getfield 33, 3) := by decide +kernel
theorem dX4_duelEnd_18 : decode cX4_duelEnd 18 = .ok (.invokevirtual 121, 3) := by decide +kernel
theorem dX4_duelEnd_21 : decode cX4_duelEnd 21 = .ok (.aload_n 0, 1) := by decide +kernel
theorem dX4_duelEnd_22 : decode cX4_duelEnd 22 = .ok (.getfield 36, 3) := by decide +kernel
theorem dX4_duelEnd_25 : decode cX4_duelEnd 25 = .ok (.iload_n 1, 1) := by decide +kernel
theorem dX4_duelEnd_26 : decode cX4_duelEnd 26 = .ok (.putfield 160, 3) := by decide +kernel
theorem dX4_duelEnd_29 : decode cX4_duelEnd 29 = .ok (.aload_n 0, 1) := by decide +kernel
theorem dX4_duelEnd_30 : decode cX4_duelEnd 30 = .ok (.getfield 74, 3) := by decide +kernel
theorem dX4_duelEnd_33 : decode cX4_duelEnd 33 = .ok (.iload_n 1, 1) := by decide +kernel
theorem dX4_duelEnd_34 : decode cX4_duelEnd 34 = .ok (.aload_n 0, 1) := by decide +kernel
theorem dX4_duelEnd_35 : decode cX4_duelEnd 35 = .ok (.getfield 36, 3) := by decide +kernel
theorem dX4_duelEnd_38 : decode cX4_duelEnd 38 = .ok (.bipush 8, 2) := by decide +kernel
theorem dX4_duelEnd_40 : decode cX4_duelEnd 40 = .ok (.invokevirtual 197, 3) := by decide +kernel
theorem dX4_duelEnd_43 : decode cX4_duelEnd 43 = .ok (.iastore, 1) := by decide +kernel
theorem dX4_duelEnd_44 : decode cX4_duelEnd 44 = .ok (.aload_n 0, 1) := by decide +kernel
theorem dX4_duelEnd_45 : decode cX4_duelEnd 45 = .ok (.getfield 74, 3) := by decide +kernel
theorem dX4_duelEnd_48 : decode cX4_duelEnd 48 = .ok (.iload_n 1, 1) := by decide +kernel
theorem dX4_duelEnd_49 : decode cX4_duelEnd 49 = .ok (.iaload, 1) := by decide +kernel
theorem dX4_duelEnd_50 : decode cX4_duelEnd 50 = .ok (.ireturn, 1) := by decide +kernel
theorem dX4_answeredWithDowns_0 : decode cX4_answeredWithDowns 0 = .ok (.aload_n 0, 1) := by decide +kernel
theorem dX4_answeredWithDowns_1 : decode cX4_answeredWithDowns 1 = .ok (.getfield 36, 3) := by decide +kernel
theorem dX4_answeredWithDowns_4 : decode cX4_answeredWithDowns 4 = .ok (.aload_n 0, 1) := by decide +kernel
theorem dX4_answeredWithDowns_5 : decode cX4_answeredWithDowns 5 = .ok (.getfield 33, 3) := by decide +kernel
theorem dX4_answeredWithDowns_8 : decode cX4_answeredWithDowns 8 = .ok (.invokevirtual 121, 3) := by decide +kernel
theorem dX4_answeredWithDowns_11 : decode cX4_answeredWithDowns 11 = .ok (.iconst 0, 1) := by decide +kernel
theorem dX4_answeredWithDowns_12 : decode cX4_answeredWithDowns 12 = .ok (.istore_n 2, 1) := by decide +kernel
theorem dX4_answeredWithDowns_13 : decode cX4_answeredWithDowns 13 = .ok (.iconst 0, 1) := by decide +kernel
theorem dX4_answeredWithDowns_14 : decode cX4_answeredWithDowns 14 = .ok (.istore_n 3, 1) := by decide +kernel
theorem dX4_answeredWithDowns_15 : decode cX4_answeredWithDowns 15 = .ok (.iload_n 3, 1) := by decide +kernel
theorem dX4_answeredWithDowns_16 : decode cX4_answeredWithDowns 16 = .ok (.bipush 6, 2) := by decide +kernel
theorem dX4_answeredWithDowns_18 : decode cX4_answeredWithDowns 18 = .ok (.if_icmp .ge 55, 3) := by decide +kernel
theorem dX4_answeredWithDowns_21 : decode cX4_answeredWithDowns 21 = .ok (.iload_n 1, 1) := by decide +kernel
theorem dX4_answeredWithDowns_22 : decode cX4_answeredWithDowns 22 = .ok (.iload_n 3, 1) := by decide +kernel
theorem dX4_answeredWithDowns_23 : decode cX4_answeredWithDowns 23 = .ok (.ishr, 1) := by decide +kernel
theorem dX4_answeredWithDowns_24 : decode cX4_answeredWithDowns 24 = .ok (.iconst 1, 1) := by decide +kernel
theorem dX4_answeredWithDowns_25 : decode cX4_answeredWithDowns 25 = .ok (.iand, 1) := by decide +kernel
theorem dX4_answeredWithDowns_26 : decode cX4_answeredWithDowns 26 = .ok (.iconst 1, 1) := by decide +kernel
theorem dX4_answeredWithDowns_27 : decode cX4_answeredWithDowns 27 = .ok (.if_icmp .ne 7, 3) := by decide +kernel
theorem dX4_answeredWithDowns_30 : decode cX4_answeredWithDowns 30 = .ok (.iconst 1, 1) := by decide +kernel
theorem dX4_answeredWithDowns_31 : decode cX4_answeredWithDowns 31 = .ok (.goto 4, 3) := by decide +kernel
theorem dX4_answeredWithDowns_34 : decode cX4_answeredWithDowns 34 = .ok (.iconst 0, 1) := by decide +kernel
theorem dX4_answeredWithDowns_35 : decode cX4_answeredWithDowns 35 = .ok (.istore 4, 2) := by decide +kernel
theorem dX4_answeredWithDowns_37 : decode cX4_answeredWithDowns 37 = .ok (.iload_n 2, 1) := by decide +kernel
theorem dX4_answeredWithDowns_38 : decode cX4_answeredWithDowns 38 = .ok (.aload_n 0, 1) := by decide +kernel
theorem dX4_answeredWithDowns_39 : decode cX4_answeredWithDowns 39 = .ok (.getfield 36, 3) := by decide +kernel
theorem dX4_answeredWithDowns_42 : decode cX4_answeredWithDowns 42 = .ok (.iload 4, 2) := by decide +kernel
theorem dX4_answeredWithDowns_44 : decode cX4_answeredWithDowns 44 = .ok (.ifCond .ne 17, 3) := by decide +kernel
theorem dX4_answeredWithDowns_47 : decode cX4_answeredWithDowns 47 = .ok (.aload_n 0, 1) := by decide +kernel
theorem dX4_answeredWithDowns_48 : decode cX4_answeredWithDowns 48 = .ok (.getfield 36, 3) := by decide +kernel
theorem dX4_answeredWithDowns_51 : decode cX4_answeredWithDowns 51 = .ok (.invokevirtual 203, 3) := by decide +kernel
theorem dX4_answeredWithDowns_54 : decode cX4_answeredWithDowns 54 = .ok (.ifCond .eq 7, 3) := by decide +kernel
theorem dX4_answeredWithDowns_57 : decode cX4_answeredWithDowns 57 = .ok (.iconst 1, 1) := by decide +kernel
theorem dX4_answeredWithDowns_58 : decode cX4_answeredWithDowns 58 = .ok (.goto 4, 3) := by decide +kernel
theorem dX4_answeredWithDowns_61 : decode cX4_answeredWithDowns 61 = .ok (.iconst 0, 1) := by decide +kernel
theorem dX4_answeredWithDowns_62 : decode cX4_answeredWithDowns 62 = .ok (.invokevirtual 206, 3) := by decide +kernel
theorem dX4_answeredWithDowns_65 : decode cX4_answeredWithDowns 65 = .ok (.iadd, 1) := by decide +kernel
theorem dX4_answeredWithDowns_66 : decode cX4_answeredWithDowns 66 = .ok (.istore_n 2, 1) := by decide +kernel
theorem dX4_answeredWithDowns_67 : decode cX4_answeredWithDowns 67 = .ok (.iinc 3 1, 3) := by decide +kernel
theorem dX4_answeredWithDowns_70 : decode cX4_answeredWithDowns 70 = .ok (.goto (-55), 3) := by decide +kernel
theorem dX4_answeredWithDowns_73 : decode cX4_answeredWithDowns 73 = .ok (.iload_n 2, 1) := by decide +kernel
theorem dX4_answeredWithDowns_74 : decode cX4_answeredWithDowns 74 = .ok (.ireturn, 1) := by decide +kernel
theorem dX4_weightOfDowns_0 : decode cX4_weightOfDowns 0 = .ok (.lconst 1, 1) := by decide +kernel
theorem dX4_weightOfDowns_1 : decode cX4_weightOfDowns 1 = .ok (.lstore_n 2, 1) := by decide +kernel
theorem dX4_weightOfDowns_2 : decode cX4_weightOfDowns 2 = .ok (.iconst 0, 1) := by decide +kernel
theorem dX4_weightOfDowns_3 : decode cX4_weightOfDowns 3 = .ok (.istore 4, 2) := by decide +kernel
theorem dX4_weightOfDowns_5 : decode cX4_weightOfDowns 5 = .ok (.iload 4, 2) := by decide +kernel
theorem dX4_weightOfDowns_7 : decode cX4_weightOfDowns 7 = .ok (.bipush 6, 2) := by decide +kernel
theorem dX4_weightOfDowns_9 : decode cX4_weightOfDowns 9 = .ok (.if_icmp .ge 44, 3) := by decide +kernel
theorem dX4_weightOfDowns_12 : decode cX4_weightOfDowns 12 = .ok (.iload_n 0, 1) := by decide +kernel
theorem dX4_weightOfDowns_13 : decode cX4_weightOfDowns 13 = .ok (.iload 4, 2) := by decide +kernel
theorem dX4_weightOfDowns_15 : decode cX4_weightOfDowns 15 = .ok (.ishr, 1) := by decide +kernel
theorem dX4_weightOfDowns_16 : decode cX4_weightOfDowns 16 = .ok (.iconst 1, 1) := by decide +kernel
theorem dX4_weightOfDowns_17 : decode cX4_weightOfDowns 17 = .ok (.iand, 1) := by decide +kernel
theorem dX4_weightOfDowns_18 : decode cX4_weightOfDowns 18 = .ok (.iconst 1, 1) := by decide +kernel
theorem dX4_weightOfDowns_19 : decode cX4_weightOfDowns 19 = .ok (.if_icmp .ne 7, 3) := by decide +kernel
theorem dX4_weightOfDowns_22 : decode cX4_weightOfDowns 22 = .ok (.iconst 1, 1) := by decide +kernel
theorem dX4_weightOfDowns_23 : decode cX4_weightOfDowns 23 = .ok (.goto 4, 3) := by decide +kernel
theorem dX4_weightOfDowns_26 : decode cX4_weightOfDowns 26 = .ok (.iconst 0, 1) := by decide +kernel
theorem dX4_weightOfDowns_27 : decode cX4_weightOfDowns 27 = .ok (.istore 5, 2) := by decide +kernel
theorem dX4_weightOfDowns_29 : decode cX4_weightOfDowns 29 = .ok (.lload_n 2, 1) := by decide +kernel
theorem dX4_weightOfDowns_30 : decode cX4_weightOfDowns 30 = .ok (.iload 5, 2) := by decide +kernel
theorem dX4_weightOfDowns_32 : decode cX4_weightOfDowns 32 = .ok (.ifCond .eq 8, 3) := by decide +kernel
theorem dX4_weightOfDowns_35 : decode cX4_weightOfDowns 35 = .ok (.iload_n 1, 1) := by decide +kernel
theorem dX4_weightOfDowns_36 : decode cX4_weightOfDowns 36 = .ok (.i2l, 1) := by decide +kernel
theorem dX4_weightOfDowns_37 : decode cX4_weightOfDowns 37 = .ok (.goto 8, 3) := by decide +kernel
theorem dX4_weightOfDowns_40 : decode cX4_weightOfDowns 40 = .ok (.bipush 12, 2) := by decide +kernel
theorem dX4_weightOfDowns_42 : decode cX4_weightOfDowns 42 = .ok (.iload_n 1, 1) := by decide +kernel
theorem dX4_weightOfDowns_43 : decode cX4_weightOfDowns 43 = .ok (.isub, 1) := by decide +kernel
theorem dX4_weightOfDowns_44 : decode cX4_weightOfDowns 44 = .ok (.i2l, 1) := by decide +kernel
theorem dX4_weightOfDowns_45 : decode cX4_weightOfDowns 45 = .ok (.lmul, 1) := by decide +kernel
theorem dX4_weightOfDowns_46 : decode cX4_weightOfDowns 46 = .ok (.lstore_n 2, 1) := by decide +kernel
theorem dX4_weightOfDowns_47 : decode cX4_weightOfDowns 47 = .ok (.iinc 4 1, 3) := by decide +kernel
theorem dX4_weightOfDowns_50 : decode cX4_weightOfDowns 50 = .ok (.goto (-45), 3) := by decide +kernel
theorem dX4_weightOfDowns_53 : decode cX4_weightOfDowns 53 = .ok (.lload_n 2, 1) := by decide +kernel
theorem dX4_weightOfDowns_54 : decode cX4_weightOfDowns 54 = .ok (.lreturn, 1) := by decide +kernel
theorem dX4_tellFraction_0 : decode cX4_tellFraction 0 = .ok (.lconst 1, 1) := by decide +kernel
theorem dX4_tellFraction_1 : decode cX4_tellFraction 1 = .ok (.lstore_n 3, 1) := by decide +kernel
theorem dX4_tellFraction_2 : decode cX4_tellFraction 2 = .ok (.iconst 0, 1) := by decide +kernel
theorem dX4_tellFraction_3 : decode cX4_tellFraction 3 = .ok (.istore 5, 2) := by decide +kernel
theorem dX4_tellFraction_5 : decode cX4_tellFraction 5 = .ok (.iload 5, 2) := by decide +kernel
theorem dX4_tellFraction_7 : decode cX4_tellFraction 7 = .ok (.bipush 6, 2) := by decide +kernel
theorem dX4_tellFraction_9 : decode cX4_tellFraction 9 = .ok (.if_icmp .ge 15, 3) := by decide +kernel
theorem dX4_tellFraction_12 : decode cX4_tellFraction 12 = .ok (.lload_n 3, 1) := by decide +kernel
theorem dX4_tellFraction_13 : decode cX4_tellFraction 13 = .ok (.ldc2_w 316, 3) := by decide +kernel
theorem dX4_tellFraction_16 : decode cX4_tellFraction 16 = .ok (.lmul, 1) := by decide +kernel
theorem dX4_tellFraction_17 : decode cX4_tellFraction 17 = .ok (.lstore_n 3, 1) := by decide +kernel
theorem dX4_tellFraction_18 : decode cX4_tellFraction 18 = .ok (.iinc 5 1, 3) := by decide +kernel
theorem dX4_tellFraction_21 : decode cX4_tellFraction 21 = .ok (.goto (-16), 3) := by decide +kernel
theorem dX4_tellFraction_24 : decode cX4_tellFraction 24 = .ok (.lload_n 3, 1) := by decide +kernel
theorem dX4_tellFraction_25 : decode cX4_tellFraction 25 = .ok (.lload_n 1, 1) := by decide +kernel
theorem dX4_tellFraction_26 : decode cX4_tellFraction 26 = .ok (.invokestatic 318, 3) := by decide +kernel
theorem dX4_tellFraction_29 : decode cX4_tellFraction 29 = .ok (.lstore 5, 2) := by decide +kernel
theorem dX4_tellFraction_31 : decode cX4_tellFraction 31 = .ok (.aload_n 0, 1) := by decide +kernel
theorem dX4_tellFraction_32 : decode cX4_tellFraction 32 = .ok (.lload_n 1, 1) := by decide +kernel
theorem dX4_tellFraction_33 : decode cX4_tellFraction 33 = .ok (.lload 5, 2) := by decide +kernel
theorem dX4_tellFraction_35 : decode cX4_tellFraction 35 = .ok (.ldiv, 1) := by decide +kernel
theorem dX4_tellFraction_36 : decode cX4_tellFraction 36 = .ok (.putfield 54, 3) := by decide +kernel
theorem dX4_tellFraction_39 : decode cX4_tellFraction 39 = .ok (.aload_n 0, 1) := by decide +kernel
theorem dX4_tellFraction_40 : decode cX4_tellFraction 40 = .ok (.lload_n 3, 1) := by decide +kernel
theorem dX4_tellFraction_41 : decode cX4_tellFraction 41 = .ok (.lload 5, 2) := by decide +kernel
theorem dX4_tellFraction_43 : decode cX4_tellFraction 43 = .ok (.ldiv, 1) := by decide +kernel
theorem dX4_tellFraction_44 : decode cX4_tellFraction 44 = .ok (.putfield 58, 3) := by decide +kernel
theorem dX4_tellFraction_47 : decode cX4_tellFraction 47 = .ok (.return_, 1) := by decide +kernel
theorem dX4_commonDivisor_0 : decode cX4_commonDivisor 0 = .ok (.lload_n 0, 1) := by decide +kernel
theorem dX4_commonDivisor_1 : decode cX4_commonDivisor 1 = .ok (.lstore 4, 2) := by decide +kernel
theorem dX4_commonDivisor_3 : decode cX4_commonDivisor 3 = .ok (.lload_n 2, 1) := by decide +kernel
theorem dX4_commonDivisor_4 : decode cX4_commonDivisor 4 = .ok (.lstore 6, 2) := by decide +kernel
theorem dX4_commonDivisor_6 : decode cX4_commonDivisor 6 = .ok (.iconst 0, 1) := by decide +kernel
theorem dX4_commonDivisor_7 : decode cX4_commonDivisor 7 = .ok (.istore 8, 2) := by decide +kernel
theorem dX4_commonDivisor_9 : decode cX4_commonDivisor 9 = .ok (.iload 8, 2) := by decide +kernel
theorem dX4_commonDivisor_11 : decode cX4_commonDivisor 11 = .ok (.sipush 128, 3) := by decide +kernel
theorem dX4_commonDivisor_14 : decode cX4_commonDivisor 14 = .ok (.if_icmp .ge 31, 3) := by decide +kernel
theorem dX4_commonDivisor_17 : decode cX4_commonDivisor 17 = .ok (.lload 6, 2) := by decide +kernel
theorem dX4_commonDivisor_19 : decode cX4_commonDivisor 19 = .ok (.lconst 0, 1) := by decide +kernel
theorem dX4_commonDivisor_20 : decode cX4_commonDivisor 20 = .ok (.lcmp, 1) := by decide +kernel
theorem dX4_commonDivisor_21 : decode cX4_commonDivisor 21 = .ok (.ifCond .le 24, 3) := by decide +kernel
theorem dX4_commonDivisor_24 : decode cX4_commonDivisor 24 = .ok (.lload 4, 2) := by decide +kernel
theorem dX4_commonDivisor_26 : decode cX4_commonDivisor 26 = .ok (.lload 6, 2) := by decide +kernel
theorem dX4_commonDivisor_28 : decode cX4_commonDivisor 28 = .ok (.lrem, 1) := by decide +kernel
theorem dX4_commonDivisor_29 : decode cX4_commonDivisor 29 = .ok (.lstore 9, 2) := by decide +kernel
theorem dX4_commonDivisor_31 : decode cX4_commonDivisor 31 = .ok (.lload 6, 2) := by decide +kernel
theorem dX4_commonDivisor_33 : decode cX4_commonDivisor 33 = .ok (.lstore 4, 2) := by decide +kernel
theorem dX4_commonDivisor_35 : decode cX4_commonDivisor 35 = .ok (.lload 9, 2) := by decide +kernel
theorem dX4_commonDivisor_37 : decode cX4_commonDivisor 37 = .ok (.lstore 6, 2) := by decide +kernel
theorem dX4_commonDivisor_39 : decode cX4_commonDivisor 39 = .ok (.iinc 8 1, 3) := by decide +kernel
theorem dX4_commonDivisor_42 : decode cX4_commonDivisor 42 = .ok (.goto (-33), 3) := by decide +kernel
theorem dX4_commonDivisor_45 : decode cX4_commonDivisor 45 = .ok (.lconst 1, 1) := by decide +kernel
theorem dX4_commonDivisor_46 : decode cX4_commonDivisor 46 = .ok (.lload 4, 2) := by decide +kernel
theorem dX4_commonDivisor_48 : decode cX4_commonDivisor 48 = .ok (.invokestatic 322, 3) := by decide +kernel
theorem dX4_commonDivisor_51 : decode cX4_commonDivisor 51 = .ok (.lreturn, 1) := by decide +kernel
theorem dX4_countOf_0 : decode cX4_countOf 0 = .ok (.iload_n 1, 1) := by decide +kernel
theorem dX4_countOf_1 : decode cX4_countOf 1 = .ok (.tableswitch 170 0 12 #[67, 75, 83, 91, 99, 107, 115, 123, 131, 139, 147, 152, 161], 67) := by decide +kernel
theorem dX4_countOf_68 : decode cX4_countOf 68 = .ok (.aload_n 0, 1) := by decide +kernel
theorem dX4_countOf_69 : decode cX4_countOf 69 = .ok (.getfield 33, 3) := by decide +kernel
theorem dX4_countOf_72 : decode cX4_countOf 72 = .ok (.getfield 125, 3) := by decide +kernel
theorem dX4_countOf_75 : decode cX4_countOf 75 = .ok (.ireturn, 1) := by decide +kernel
theorem dX4_countOf_76 : decode cX4_countOf 76 = .ok (.aload_n 0, 1) := by decide +kernel
theorem dX4_countOf_77 : decode cX4_countOf 77 = .ok (.getfield 33, 3) := by decide +kernel
theorem dX4_countOf_80 : decode cX4_countOf 80 = .ok (.getfield 141, 3) := by decide +kernel
theorem dX4_countOf_83 : decode cX4_countOf 83 = .ok (.ireturn, 1) := by decide +kernel
theorem dX4_countOf_84 : decode cX4_countOf 84 = .ok (.aload_n 0, 1) := by decide +kernel
theorem dX4_countOf_85 : decode cX4_countOf 85 = .ok (.getfield 42, 3) := by decide +kernel
theorem dX4_countOf_88 : decode cX4_countOf 88 = .ok (.getfield 86, 3) := by decide +kernel
theorem dX4_countOf_91 : decode cX4_countOf 91 = .ok (.ireturn, 1) := by decide +kernel
theorem dX4_countOf_92 : decode cX4_countOf 92 = .ok (.aload_n 0, 1) := by decide +kernel
theorem dX4_countOf_93 : decode cX4_countOf 93 = .ok (.getfield 33, 3) := by decide +kernel
theorem dX4_countOf_96 : decode cX4_countOf 96 = .ok (.getfield 153, 3) := by decide +kernel
theorem dX4_countOf_99 : decode cX4_countOf 99 = .ok (.ireturn, 1) := by decide +kernel
theorem dX4_countOf_100 : decode cX4_countOf 100 = .ok (.aload_n 0, 1) := by decide +kernel
theorem dX4_countOf_101 : decode cX4_countOf 101 = .ok (.getfield 33, 3) := by decide +kernel
theorem dX4_countOf_104 : decode cX4_countOf 104 = .ok (.getfield 324, 3) := by decide +kernel
theorem dX4_countOf_107 : decode cX4_countOf 107 = .ok (.ireturn, 1) := by decide +kernel
theorem dX4_countOf_108 : decode cX4_countOf 108 = .ok (.aload_n 0, 1) := by decide +kernel
theorem dX4_countOf_109 : decode cX4_countOf 109 = .ok (.getfield 33, 3) := by decide +kernel
theorem dX4_countOf_112 : decode cX4_countOf 112 = .ok (.getfield 160, 3) := by decide +kernel
theorem dX4_countOf_115 : decode cX4_countOf 115 = .ok (.ireturn, 1) := by decide +kernel
theorem dX4_countOf_116 : decode cX4_countOf 116 = .ok (.aload_n 0, 1) := by decide +kernel
theorem dX4_countOf_117 : decode cX4_countOf 117 = .ok (.getfield 33, 3) := by decide +kernel
theorem dX4_countOf_120 : decode cX4_countOf 120 = .ok (.getfield 171, 3) := by decide +kernel
theorem dX4_countOf_123 : decode cX4_countOf 123 = .ok (.ireturn, 1) := by decide +kernel
theorem dX4_countOf_124 : decode cX4_countOf 124 = .ok (.aload_n 0, 1) := by decide +kernel
theorem dX4_countOf_125 : decode cX4_countOf 125 = .ok (.getfield 33, 3) := by decide +kernel
theorem dX4_countOf_128 : decode cX4_countOf 128 = .ok (.invokevirtual 327, 3) := by decide +kernel
theorem dX4_countOf_131 : decode cX4_countOf 131 = .ok (.ireturn, 1) := by decide +kernel
theorem dX4_countOf_132 : decode cX4_countOf 132 = .ok (.aload_n 0, 1) := by decide +kernel
theorem dX4_countOf_133 : decode cX4_countOf 133 = .ok (.getfield 14, 3) := by decide +kernel
theorem dX4_countOf_136 : decode cX4_countOf 136 = .ok (.invokestatic 330, 3) := by decide +kernel
theorem dX4_countOf_139 : decode cX4_countOf 139 = .ok (.ireturn, 1) := by decide +kernel
theorem dX4_countOf_140 : decode cX4_countOf 140 = .ok (.aload_n 0, 1) := by decide +kernel
theorem dX4_countOf_141 : decode cX4_countOf 141 = .ok (.getfield 23, 3) := by decide +kernel
theorem dX4_countOf_144 : decode cX4_countOf 144 = .ok (.invokestatic 330, 3) := by decide +kernel
theorem dX4_countOf_147 : decode cX4_countOf 147 = .ok (.ireturn, 1) := by decide +kernel
theorem dX4_countOf_148 : decode cX4_countOf 148 = .ok (.aload_n 0, 1) := by decide +kernel
theorem dX4_countOf_149 : decode cX4_countOf 149 = .ok (.invokevirtual 334, 3) := by decide +kernel
theorem dX4_countOf_152 : decode cX4_countOf 152 = .ok (.ireturn, 1) := by decide +kernel
theorem dX4_countOf_153 : decode cX4_countOf 153 = .ok (.aload_n 0, 1) := by decide +kernel
theorem dX4_countOf_154 : decode cX4_countOf 154 = .ok (.getfield 33, 3) := by decide +kernel
theorem dX4_countOf_157 : decode cX4_countOf 157 = .ok (.iconst 1, 1) := by decide +kernel
theorem dX4_countOf_158 : decode cX4_countOf 158 = .ok (.invokevirtual 337, 3) := by decide +kernel
theorem dX4_countOf_161 : decode cX4_countOf 161 = .ok (.ireturn, 1) := by decide +kernel
theorem dX4_countOf_162 : decode cX4_countOf 162 = .ok (.aload_n 0, 1) := by decide +kernel
theorem dX4_countOf_163 : decode cX4_countOf 163 = .ok (.getfield 33, 3) := by decide +kernel
theorem dX4_countOf_166 : decode cX4_countOf 166 = .ok (.iconst 2, 1) := by decide +kernel
theorem dX4_countOf_167 : decode cX4_countOf 167 = .ok (.invokevirtual 337, 3) := by decide +kernel
theorem dX4_countOf_170 : decode cX4_countOf 170 = .ok (.ireturn, 1) := by decide +kernel
theorem dX4_countOf_171 : decode cX4_countOf 171 = .ok (.iconst 0, 1) := by decide +kernel
theorem dX4_countOf_172 : decode cX4_countOf 172 = .ok (.ireturn, 1) := by decide +kernel
theorem dX4_thereOf_0 : decode cX4_thereOf 0 = .ok (.iconst 0, 1) := by decide +kernel
theorem dX4_thereOf_1 : decode cX4_thereOf 1 = .ok (.istore_n 1, 1) := by decide +kernel
theorem dX4_thereOf_2 : decode cX4_thereOf 2 = .ok (.aload_n 0, 1) := by decide +kernel
theorem dX4_thereOf_3 : decode cX4_thereOf 3 = .ok (.astore_n 2, 1) := by decide +kernel
theorem dX4_thereOf_4 : decode cX4_thereOf 4 = .ok (.aload_n 2, 1) := by decide +kernel
theorem dX4_thereOf_5 : decode cX4_thereOf 5 = .ok (.arraylength, 1) := by decide +kernel
theorem dX4_thereOf_6 : decode cX4_thereOf 6 = .ok (.istore_n 3, 1) := by decide +kernel
theorem dX4_thereOf_7 : decode cX4_thereOf 7 = .ok (.iconst 0, 1) := by decide +kernel
theorem dX4_thereOf_8 : decode cX4_thereOf 8 = .ok (.istore 4, 2) := by decide +kernel
theorem dX4_thereOf_10 : decode cX4_thereOf 10 = .ok (.iload 4, 2) := by decide +kernel
theorem dX4_thereOf_12 : decode cX4_thereOf 12 = .ok (.iload_n 3, 1) := by decide +kernel
theorem dX4_thereOf_13 : decode cX4_thereOf 13 = .ok (.if_icmp .ge 24, 3) := by decide +kernel
theorem dX4_thereOf_16 : decode cX4_thereOf 16 = .ok (.aload_n 2, 1) := by decide +kernel
theorem dX4_thereOf_17 : decode cX4_thereOf 17 = .ok (.iload 4, 2) := by decide +kernel
theorem dX4_thereOf_19 : decode cX4_thereOf 19 = .ok (.iaload, 1) := by decide +kernel
theorem dX4_thereOf_20 : decode cX4_thereOf 20 = .ok (.istore 5, 2) := by decide +kernel
theorem dX4_thereOf_22 : decode cX4_thereOf 22 = .ok (.iload 5, 2) := by decide +kernel
theorem dX4_thereOf_24 : decode cX4_thereOf 24 = .ok (.iconst (-1), 1) := by decide +kernel
theorem dX4_thereOf_25 : decode cX4_thereOf 25 = .ok (.if_icmp .eq 6, 3) := by decide +kernel
theorem dX4_thereOf_28 : decode cX4_thereOf 28 = .ok (.iinc 1 1, 3) := by decide +kernel
theorem dX4_thereOf_31 : decode cX4_thereOf 31 = .ok (.iinc 4 1, 3) := by decide +kernel
theorem dX4_thereOf_34 : decode cX4_thereOf 34 = .ok (.goto (-24), 3) := by decide +kernel
theorem dX4_thereOf_37 : decode cX4_thereOf 37 = .ok (.iload_n 1, 1) := by decide +kernel
theorem dX4_thereOf_38 : decode cX4_thereOf 38 = .ok (.ireturn, 1) := by decide +kernel
theorem dX4_keptHouses_0 : decode cX4_keptHouses 0 = .ok (.iconst 0, 1) := by decide +kernel
theorem dX4_keptHouses_1 : decode cX4_keptHouses 1 = .ok (.istore_n 1, 1) := by decide +kernel
theorem dX4_keptHouses_2 : decode cX4_keptHouses 2 = .ok (.iconst 0, 1) := by decide +kernel
theorem dX4_keptHouses_3 : decode cX4_keptHouses 3 = .ok (.istore_n 2, 1) := by decide +kernel
theorem dX4_keptHouses_4 : decode cX4_keptHouses 4 = .ok (.iload_n 2, 1) := by decide +kernel
theorem dX4_keptHouses_5 : decode cX4_keptHouses 5 = .ok (.iconst 3, 1) := by decide +kernel
theorem dX4_keptHouses_6 : decode cX4_keptHouses 6 = .ok (.if_icmp .ge 25, 3) := by decide +kernel
theorem dX4_keptHouses_9 : decode cX4_keptHouses 9 = .ok (.aload_n 0, 1) := by decide +kernel
theorem dX4_keptHouses_10 : decode cX4_keptHouses 10 = .ok (.getfield 46, 3) := by decide +kernel
theorem dX4_keptHouses_13 : decode cX4_keptHouses 13 = .ok (.iload_n 2, 1) := by decide +kernel
theorem dX4_keptHouses_14 : decode cX4_keptHouses 14 = .ok (.aaload, 1) := by decide +kernel
theorem dX4_keptHouses_15 : decode cX4_keptHouses 15 = .ok (.getfield 86, 3) := by decide +kernel
theorem dX4_keptHouses_18 : decode cX4_keptHouses 18 = .ok (.iconst (-1), 1) := by decide +kernel
theorem dX4_keptHouses_19 : decode cX4_keptHouses 19 = .ok (.if_icmp .eq 6, 3) := by decide +kernel
theorem dX4_keptHouses_22 : decode cX4_keptHouses 22 = .ok (.iinc 1 1, 3) := by decide +kernel
theorem dX4_keptHouses_25 : decode cX4_keptHouses 25 = .ok (.iinc 2 1, 3) := by decide +kernel
theorem dX4_keptHouses_28 : decode cX4_keptHouses 28 = .ok (.goto (-24), 3) := by decide +kernel
theorem dX4_keptHouses_31 : decode cX4_keptHouses 31 = .ok (.iload_n 1, 1) := by decide +kernel
theorem dX4_keptHouses_32 : decode cX4_keptHouses 32 = .ok (.ireturn, 1) := by decide +kernel
theorem dX4_digestRows_0 : decode cX4_digestRows 0 = .ok (.lload_n 1, 1) := by decide +kernel
theorem dX4_digestRows_1 : decode cX4_digestRows 1 = .ok (.lstore_n 3, 1) := by decide +kernel
theorem dX4_digestRows_2 : decode cX4_digestRows 2 = .ok (.iconst 0, 1) := by decide +kernel
theorem dX4_digestRows_3 : decode cX4_digestRows 3 = .ok (.istore 5, 2) := by decide +kernel
theorem dX4_digestRows_5 : decode cX4_digestRows 5 = .ok (.iload 5, 2) := by decide +kernel
theorem dX4_digestRows_7 : decode cX4_digestRows 7 = .ok (.bipush 6, 2) := by decide +kernel
theorem dX4_digestRows_9 : decode cX4_digestRows 9 = .ok (.if_icmp .ge 63, 3) := by decide +kernel
theorem dX4_digestRows_12 : decode cX4_digestRows 12 = .ok (.ldc2_w 275, 3) := by decide +kernel
theorem dX4_digestRows_15 : decode cX4_digestRows 15 = .ok (.lload_n 3, 1) := by decide +kernel
theorem dX4_digestRows_16 : decode cX4_digestRows 16 = .ok (.lmul, 1) := by decide +kernel
theorem dX4_digestRows_17 : decode cX4_digestRows 17 = .ok (.aload_n 0, 1) := by decide +kernel
theorem dX4_digestRows_18 : decode cX4_digestRows 18 = .ok (.getfield 14, 3) := by decide +kernel
theorem dX4_digestRows_21 : decode cX4_digestRows 21 = .ok (.iload 5, 2) := by decide +kernel
theorem dX4_digestRows_23 : decode cX4_digestRows 23 = .ok (.iaload, 1) := by decide +kernel
theorem dX4_digestRows_24 : decode cX4_digestRows 24 = .ok (.i2l, 1) := by decide +kernel
theorem dX4_digestRows_25 : decode cX4_digestRows 25 = .ok (.ladd, 1) := by decide +kernel
theorem dX4_digestRows_26 : decode cX4_digestRows 26 = .ok (.lstore_n 3, 1) := by decide +kernel
theorem dX4_digestRows_27 : decode cX4_digestRows 27 = .ok (.iconst 0, 1) := by decide +kernel
theorem dX4_digestRows_28 : decode cX4_digestRows 28 = .ok (.istore 6, 2) := by decide +kernel
theorem dX4_digestRows_30 : decode cX4_digestRows 30 = .ok (.iload 6, 2) := by decide +kernel
theorem dX4_digestRows_32 : decode cX4_digestRows 32 = .ok (.aload_n 0, 1) := by decide +kernel
theorem dX4_digestRows_33 : decode cX4_digestRows 33 = .ok (.getfield 14, 3) := by decide +kernel
theorem dX4_digestRows_36 : decode cX4_digestRows 36 = .ok (.iload 5, 2) := by decide +kernel
theorem dX4_digestRows_38 : decode cX4_digestRows 38 = .ok (.iaload, 1) := by decide +kernel
theorem dX4_digestRows_39 : decode cX4_digestRows 39 = .ok (.if_icmp .ge 27, 3) := by decide +kernel
theorem dX4_digestRows_42 : decode cX4_digestRows 42 = .ok (.ldc2_w 275, 3) := by decide +kernel
theorem dX4_digestRows_45 : decode cX4_digestRows 45 = .ok (.lload_n 3, 1) := by decide +kernel
theorem dX4_digestRows_46 : decode cX4_digestRows 46 = .ok (.lmul, 1) := by decide +kernel
theorem dX4_digestRows_47 : decode cX4_digestRows 47 = .ok (.aload_n 0, 1) := by decide +kernel
theorem dX4_digestRows_48 : decode cX4_digestRows 48 = .ok (.getfield 11, 3) := by decide +kernel
theorem dX4_digestRows_51 : decode cX4_digestRows 51 = .ok (.iload 5, 2) := by decide +kernel
theorem dX4_digestRows_53 : decode cX4_digestRows 53 = .ok (.aaload, 1) := by decide +kernel
theorem dX4_digestRows_54 : decode cX4_digestRows 54 = .ok (.iload 6, 2) := by decide +kernel
theorem dX4_digestRows_56 : decode cX4_digestRows 56 = .ok (.iaload, 1) := by decide +kernel
theorem dX4_digestRows_57 : decode cX4_digestRows 57 = .ok (.i2l, 1) := by decide +kernel
theorem dX4_digestRows_58 : decode cX4_digestRows 58 = .ok (.ladd, 1) := by decide +kernel
theorem dX4_digestRows_59 : decode cX4_digestRows 59 = .ok (.lstore_n 3, 1) := by decide +kernel
theorem dX4_digestRows_60 : decode cX4_digestRows 60 = .ok (.iinc 6 1, 3) := by decide +kernel
theorem dX4_digestRows_63 : decode cX4_digestRows 63 = .ok (.goto (-33), 3) := by decide +kernel
theorem dX4_digestRows_66 : decode cX4_digestRows 66 = .ok (.iinc 5 1, 3) := by decide +kernel
theorem dX4_digestRows_69 : decode cX4_digestRows 69 = .ok (.goto (-64), 3) := by decide +kernel
theorem dX4_digestRows_72 : decode cX4_digestRows 72 = .ok (.lload_n 3, 1) := by decide +kernel
theorem dX4_digestRows_73 : decode cX4_digestRows 73 = .ok (.lreturn, 1) := by decide +kernel
theorem dX4_digestTexts_0 : decode cX4_digestTexts 0 = .ok (.lload_n 1, 1) := by decide +kernel
theorem dX4_digestTexts_1 : decode cX4_digestTexts 1 = .ok (.lstore_n 3, 1) := by decide +kernel
theorem dX4_digestTexts_2 : decode cX4_digestTexts 2 = .ok (.iconst 0, 1) := by decide +kernel
theorem dX4_digestTexts_3 : decode cX4_digestTexts 3 = .ok (.istore 5, 2) := by decide +kernel
theorem dX4_digestTexts_5 : decode cX4_digestTexts 5 = .ok (.iload 5, 2) := by decide +kernel
theorem dX4_digestTexts_7 : decode cX4_digestTexts 7 = .ok (.iconst 4, 1) := by decide +kernel
theorem dX4_digestTexts_8 : decode cX4_digestTexts 8 = .ok (.if_icmp .ge 63, 3) := by decide +kernel
theorem dX4_digestTexts_11 : decode cX4_digestTexts 11 = .ok (.ldc2_w 275, 3) := by decide +kernel
theorem dX4_digestTexts_14 : decode cX4_digestTexts 14 = .ok (.lload_n 3, 1) := by decide +kernel
theorem dX4_digestTexts_15 : decode cX4_digestTexts 15 = .ok (.lmul, 1) := by decide +kernel
theorem dX4_digestTexts_16 : decode cX4_digestTexts 16 = .ok (.aload_n 0, 1) := by decide +kernel
theorem dX4_digestTexts_17 : decode cX4_digestTexts 17 = .ok (.getfield 23, 3) := by decide +kernel
theorem dX4_digestTexts_20 : decode cX4_digestTexts 20 = .ok (.iload 5, 2) := by decide +kernel
theorem dX4_digestTexts_22 : decode cX4_digestTexts 22 = .ok (.iaload, 1) := by decide +kernel
theorem dX4_digestTexts_23 : decode cX4_digestTexts 23 = .ok (.i2l, 1) := by decide +kernel
theorem dX4_digestTexts_24 : decode cX4_digestTexts 24 = .ok (.ladd, 1) := by decide +kernel
theorem dX4_digestTexts_25 : decode cX4_digestTexts 25 = .ok (.lstore_n 3, 1) := by decide +kernel
theorem dX4_digestTexts_26 : decode cX4_digestTexts 26 = .ok (.iconst 0, 1) := by decide +kernel
theorem dX4_digestTexts_27 : decode cX4_digestTexts 27 = .ok (.istore 6, 2) := by decide +kernel
theorem dX4_digestTexts_29 : decode cX4_digestTexts 29 = .ok (.iload 6, 2) := by decide +kernel
theorem dX4_digestTexts_31 : decode cX4_digestTexts 31 = .ok (.aload_n 0, 1) := by decide +kernel
theorem dX4_digestTexts_32 : decode cX4_digestTexts 32 = .ok (.getfield 23, 3) := by decide +kernel
theorem dX4_digestTexts_35 : decode cX4_digestTexts 35 = .ok (.iload 5, 2) := by decide +kernel
theorem dX4_digestTexts_37 : decode cX4_digestTexts 37 = .ok (.iaload, 1) := by decide +kernel
theorem dX4_digestTexts_38 : decode cX4_digestTexts 38 = .ok (.if_icmp .ge 27, 3) := by decide +kernel
theorem dX4_digestTexts_41 : decode cX4_digestTexts 41 = .ok (.ldc2_w 275, 3) := by decide +kernel
theorem dX4_digestTexts_44 : decode cX4_digestTexts 44 = .ok (.lload_n 3, 1) := by decide +kernel
theorem dX4_digestTexts_45 : decode cX4_digestTexts 45 = .ok (.lmul, 1) := by decide +kernel
theorem dX4_digestTexts_46 : decode cX4_digestTexts 46 = .ok (.aload_n 0, 1) := by decide +kernel
theorem dX4_digestTexts_47 : decode cX4_digestTexts 47 = .ok (.getfield 20, 3) := by decide +kernel
theorem dX4_digestTexts_50 : decode cX4_digestTexts 50 = .ok (.iload 5, 2) := by decide +kernel
theorem dX4_digestTexts_52 : decode cX4_digestTexts 52 = .ok (.aaload, 1) := by decide +kernel
theorem dX4_digestTexts_53 : decode cX4_digestTexts 53 = .ok (.iload 6, 2) := by decide +kernel
theorem dX4_digestTexts_55 : decode cX4_digestTexts 55 = .ok (.baload, 1) := by decide +kernel
theorem dX4_digestTexts_56 : decode cX4_digestTexts 56 = .ok (.i2l, 1) := by decide +kernel
theorem dX4_digestTexts_57 : decode cX4_digestTexts 57 = .ok (.ladd, 1) := by decide +kernel
theorem dX4_digestTexts_58 : decode cX4_digestTexts 58 = .ok (.lstore_n 3, 1) := by decide +kernel
theorem dX4_digestTexts_59 : decode cX4_digestTexts 59 = .ok (.iinc 6 1, 3) := by decide +kernel
theorem dX4_digestTexts_62 : decode cX4_digestTexts 62 = .ok (.goto (-33), 3) := by decide +kernel
theorem dX4_digestTexts_65 : decode cX4_digestTexts 65 = .ok (.iinc 5 1, 3) := by decide +kernel
theorem dX4_digestTexts_68 : decode cX4_digestTexts 68 = .ok (.goto (-63), 3) := by decide +kernel
theorem dX4_digestTexts_71 : decode cX4_digestTexts 71 = .ok (.lload_n 3, 1) := by decide +kernel
theorem dX4_digestTexts_72 : decode cX4_digestTexts 72 = .ok (.lreturn, 1) := by decide +kernel
theorem dX4_readHouse_0 : decode cX4_readHouse 0 = .ok (.aload_n 2, 1) := by decide +kernel
theorem dX4_readHouse_1 : decode cX4_readHouse 1 = .ok (.invokevirtual 340, 3) := by decide +kernel
theorem dX4_readHouse_4 : decode cX4_readHouse 4 = .ok (.aload_n 0, 1) := by decide +kernel
theorem dX4_readHouse_5 : decode cX4_readHouse 5 = .ok (.iconst 0, 1) := by decide +kernel
theorem dX4_readHouse_6 : decode cX4_readHouse 6 = .ok (.iload_n 1, 1) := by decide +kernel
theorem dX4_readHouse_7 : decode cX4_readHouse 7 = .ok (.invokestatic 343, 3) := by decide +kernel
theorem dX4_readHouse_10 : decode cX4_readHouse 10 = .ok (.istore_n 3, 1) := by decide +kernel
theorem dX4_readHouse_11 : decode cX4_readHouse 11 = .ok (.aload_n 0, 1) := by decide +kernel
theorem dX4_readHouse_12 : decode cX4_readHouse 12 = .ok (.iload_n 3, 1) := by decide +kernel
theorem dX4_readHouse_13 : decode cX4_readHouse 13 = .ok (.iload_n 1, 1) := by decide +kernel
theorem dX4_readHouse_14 : decode cX4_readHouse 14 = .ok (.invokestatic 347, 3) := by decide +kernel
theorem dX4_readHouse_17 : decode cX4_readHouse 17 = .ok (.istore 4, 2) := by decide +kernel
theorem dX4_readHouse_19 : decode cX4_readHouse 19 = .ok (.iload 4, 2) := by decide +kernel
theorem dX4_readHouse_21 : decode cX4_readHouse 21 = .ok (.ifCond .ne 5, 3) := by decide +kernel
theorem dX4_readHouse_24 : decode cX4_readHouse 24 = .ok (.iload_n 3, 1) := by decide +kernel
theorem dX4_readHouse_25 : decode cX4_readHouse 25 = .ok (.ireturn, 1) := by decide +kernel
theorem dX4_readHouse_26 : decode cX4_readHouse 26 = .ok (.aload_n 2, 1) := by decide +kernel
theorem dX4_readHouse_27 : decode cX4_readHouse 27 = .ok (.iload 4, 2) := by decide +kernel
theorem dX4_readHouse_29 : decode cX4_readHouse 29 = .ok (.putfield 171, 3) := by decide +kernel
theorem dX4_readHouse_32 : decode cX4_readHouse 32 = .ok (.aload_n 0, 1) := by decide +kernel
theorem dX4_readHouse_33 : decode cX4_readHouse 33 = .ok (.iload_n 3, 1) := by decide +kernel
theorem dX4_readHouse_34 : decode cX4_readHouse 34 = .ok (.iconst 1, 1) := by decide +kernel
theorem dX4_readHouse_35 : decode cX4_readHouse 35 = .ok (.iadd, 1) := by decide +kernel
theorem dX4_readHouse_36 : decode cX4_readHouse 36 = .ok (.iload_n 1, 1) := by decide +kernel
theorem dX4_readHouse_37 : decode cX4_readHouse 37 = .ok (.invokestatic 343, 3) := by decide +kernel
theorem dX4_readHouse_40 : decode cX4_readHouse 40 = .ok (.istore_n 3, 1) := by decide +kernel
theorem dX4_readHouse_41 : decode cX4_readHouse 41 = .ok (.iconst 0, 1) := by decide +kernel
theorem dX4_readHouse_42 : decode cX4_readHouse 42 = .ok (.istore 5, 2) := by decide +kernel
theorem dX4_readHouse_44 : decode cX4_readHouse 44 = .ok (.iload 5, 2) := by decide +kernel
theorem dX4_readHouse_46 : decode cX4_readHouse 46 = .ok (.bipush 7, 2) := by decide +kernel
theorem dX4_readHouse_48 : decode cX4_readHouse 48 = .ok (.if_icmp .gt 42, 3) := by decide +kernel
theorem dX4_readHouse_51 : decode cX4_readHouse 51 = .ok (.iload_n 3, 1) := by decide +kernel
theorem dX4_readHouse_52 : decode cX4_readHouse 52 = .ok (.iload_n 1, 1) := by decide +kernel
theorem dX4_readHouse_53 : decode cX4_readHouse 53 = .ok (.if_icmp .ge 37, 3) := by decide +kernel
theorem dX4_readHouse_56 : decode cX4_readHouse 56 = .ok (.aload_n 0, 1) := by decide +kernel
theorem dX4_readHouse_57 : decode cX4_readHouse 57 = .ok (.iload_n 3, 1) := by decide +kernel
theorem dX4_readHouse_58 : decode cX4_readHouse 58 = .ok (.iload_n 1, 1) := by decide +kernel
theorem dX4_readHouse_59 : decode cX4_readHouse 59 = .ok (.aload_n 2, 1) := by decide +kernel
theorem dX4_readHouse_60 : decode cX4_readHouse 60 = .ok (.invokestatic 350, 3) := by decide +kernel
theorem dX4_readHouse_63 : decode cX4_readHouse 63 = .ok (.istore 6, 2) := by decide +kernel
theorem dX4_readHouse_65 : decode cX4_readHouse 65 = .ok (.iload 6, 2) := by decide +kernel
theorem dX4_readHouse_67 : decode cX4_readHouse 67 = .ok (.bipush (-9), 2) := by decide +kernel
theorem dX4_readHouse_69 : decode cX4_readHouse 69 = .ok (.if_icmp .eq 6, 3) := by decide +kernel
theorem dX4_readHouse_72 : decode cX4_readHouse 72 = .ok (.iload 6, 2) := by decide +kernel
theorem dX4_readHouse_74 : decode cX4_readHouse 74 = .ok (.ireturn, 1) := by decide +kernel
theorem dX4_readHouse_75 : decode cX4_readHouse 75 = .ok (.aload_n 0, 1) := by decide +kernel
theorem dX4_readHouse_76 : decode cX4_readHouse 76 = .ok (.iload_n 3, 1) := by decide +kernel
theorem dX4_readHouse_77 : decode cX4_readHouse 77 = .ok (.iconst 3, 1) := by decide +kernel
theorem dX4_readHouse_78 : decode cX4_readHouse 78 = .ok (.iadd, 1) := by decide +kernel
theorem dX4_readHouse_79 : decode cX4_readHouse 79 = .ok (.iload_n 1, 1) := by decide +kernel
theorem dX4_readHouse_80 : decode cX4_readHouse 80 = .ok (.invokestatic 343, 3) := by decide +kernel
theorem dX4_readHouse_83 : decode cX4_readHouse 83 = .ok (.istore_n 3, 1) := by decide +kernel
theorem dX4_readHouse_84 : decode cX4_readHouse 84 = .ok (.iinc 5 1, 3) := by decide +kernel
theorem dX4_readHouse_87 : decode cX4_readHouse 87 = .ok (.goto (-43), 3) := by decide +kernel
theorem dX4_readHouse_90 : decode cX4_readHouse 90 = .ok (.aload_n 2, 1) := by decide +kernel
theorem dX4_readHouse_91 : decode cX4_readHouse 91 = .ok (.getfield 125, 3) := by decide +kernel
theorem dX4_readHouse_94 : decode cX4_readHouse 94 = .ok (.iconst 2, 1) := by decide +kernel
theorem dX4_readHouse_95 : decode cX4_readHouse 95 = .ok (.if_icmp .ge 7, 3) := by decide +kernel
theorem dX4_readHouse_98 : decode cX4_readHouse 98 = .ok (.iload_n 1, 1) := by decide +kernel
theorem dX4_readHouse_99 : decode cX4_readHouse 99 = .ok (.goto 5, 3) := by decide +kernel
theorem dX4_readHouse_102 : decode cX4_readHouse 102 = .ok (.bipush (-9), 2) := by decide +kernel
theorem dX4_readHouse_104 : decode cX4_readHouse 104 = .ok (.ireturn, 1) := by decide +kernel
theorem dX4_readCaller_0 : decode cX4_readCaller 0 = .ok (.aload_n 0, 1) := by decide +kernel
theorem dX4_readCaller_1 : decode cX4_readCaller 1 = .ok (.iload_n 1, 1) := by decide +kernel
theorem dX4_readCaller_2 : decode cX4_readCaller 2 = .ok (.iload_n 2, 1) := by decide +kernel
theorem dX4_readCaller_3 : decode cX4_readCaller 3 = .ok (.invokestatic 354, 3) := by decide +kernel
theorem dX4_readCaller_6 : decode cX4_readCaller 6 = .ok (.istore 4, 2) := by decide +kernel
theorem dX4_readCaller_8 : decode cX4_readCaller 8 = .ok (.iload 4, 2) := by decide +kernel
theorem dX4_readCaller_10 : decode cX4_readCaller 10 = .ok (.bipush (-9), 2) := by decide +kernel
theorem dX4_readCaller_12 : decode cX4_readCaller 12 = .ok (.if_icmp .eq 12, 3) := by decide +kernel
theorem dX4_readCaller_15 : decode cX4_readCaller 15 = .ok (.aload_n 3, 1) := by decide +kernel
theorem dX4_readCaller_16 : decode cX4_readCaller 16 = .ok (.getfield 125, 3) := by decide +kernel
theorem dX4_readCaller_19 : decode cX4_readCaller 19 = .ok (.bipush 7, 2) := by decide +kernel
theorem dX4_readCaller_21 : decode cX4_readCaller 21 = .ok (.if_icmp .lt 5, 3) := by decide +kernel
theorem dX4_readCaller_24 : decode cX4_readCaller 24 = .ok (.iload_n 1, 1) := by decide +kernel
theorem dX4_readCaller_25 : decode cX4_readCaller 25 = .ok (.ireturn, 1) := by decide +kernel
theorem dX4_readCaller_26 : decode cX4_readCaller 26 = .ok (.aload_n 0, 1) := by decide +kernel
theorem dX4_readCaller_27 : decode cX4_readCaller 27 = .ok (.iload_n 1, 1) := by decide +kernel
theorem dX4_readCaller_28 : decode cX4_readCaller 28 = .ok (.iconst 1, 1) := by decide +kernel
theorem dX4_readCaller_29 : decode cX4_readCaller 29 = .ok (.iadd, 1) := by decide +kernel
theorem dX4_readCaller_30 : decode cX4_readCaller 30 = .ok (.iload_n 2, 1) := by decide +kernel
theorem dX4_readCaller_31 : decode cX4_readCaller 31 = .ok (.invokestatic 347, 3) := by decide +kernel
theorem dX4_readCaller_34 : decode cX4_readCaller 34 = .ok (.istore 5, 2) := by decide +kernel
theorem dX4_readCaller_36 : decode cX4_readCaller 36 = .ok (.iload 5, 2) := by decide +kernel
theorem dX4_readCaller_38 : decode cX4_readCaller 38 = .ok (.ifCond .ne 7, 3) := by decide +kernel
theorem dX4_readCaller_41 : decode cX4_readCaller 41 = .ok (.iload_n 1, 1) := by decide +kernel
theorem dX4_readCaller_42 : decode cX4_readCaller 42 = .ok (.iconst 1, 1) := by decide +kernel
theorem dX4_readCaller_43 : decode cX4_readCaller 43 = .ok (.iadd, 1) := by decide +kernel
theorem dX4_readCaller_44 : decode cX4_readCaller 44 = .ok (.ireturn, 1) := by decide +kernel
theorem dX4_readCaller_45 : decode cX4_readCaller 45 = .ok (.aload_n 0, 1) := by decide +kernel
theorem dX4_readCaller_46 : decode cX4_readCaller 46 = .ok (.iload_n 1, 1) := by decide +kernel
theorem dX4_readCaller_47 : decode cX4_readCaller 47 = .ok (.iconst 2, 1) := by decide +kernel
theorem dX4_readCaller_48 : decode cX4_readCaller 48 = .ok (.iadd, 1) := by decide +kernel
theorem dX4_readCaller_49 : decode cX4_readCaller 49 = .ok (.iload_n 2, 1) := by decide +kernel
theorem dX4_readCaller_50 : decode cX4_readCaller 50 = .ok (.invokestatic 347, 3) := by decide +kernel
theorem dX4_readCaller_53 : decode cX4_readCaller 53 = .ok (.istore 6, 2) := by decide +kernel
theorem dX4_readCaller_55 : decode cX4_readCaller 55 = .ok (.iload 6, 2) := by decide +kernel
theorem dX4_readCaller_57 : decode cX4_readCaller 57 = .ok (.ifCond .ne 7, 3) := by decide +kernel
theorem dX4_readCaller_60 : decode cX4_readCaller 60 = .ok (.iload_n 1, 1) := by decide +kernel
theorem dX4_readCaller_61 : decode cX4_readCaller 61 = .ok (.iconst 2, 1) := by decide +kernel
theorem dX4_readCaller_62 : decode cX4_readCaller 62 = .ok (.iadd, 1) := by decide +kernel
theorem dX4_readCaller_63 : decode cX4_readCaller 63 = .ok (.ireturn, 1) := by decide +kernel
theorem dX4_readCaller_64 : decode cX4_readCaller 64 = .ok (.aload_n 3, 1) := by decide +kernel
theorem dX4_readCaller_65 : decode cX4_readCaller 65 = .ok (.getfield 129, 3) := by decide +kernel
theorem dX4_readCaller_68 : decode cX4_readCaller 68 = .ok (.aload_n 3, 1) := by decide +kernel
theorem dX4_readCaller_69 : decode cX4_readCaller 69 = .ok (.getfield 125, 3) := by decide +kernel
theorem dX4_readCaller_72 : decode cX4_readCaller 72 = .ok (.aaload, 1) := by decide +kernel
theorem dX4_readCaller_73 : decode cX4_readCaller 73 = .ok (.iload 4, 2) := by decide +kernel
theorem dX4_readCaller_75 : decode cX4_readCaller 75 = .ok (.iload 5, 2) := by decide +kernel
theorem dX4_readCaller_77 : decode cX4_readCaller 77 = .ok (.iload 6, 2) := by decide +kernel
theorem dX4_readCaller_79 : decode cX4_readCaller 79 = .ok (.invokevirtual 357, 3) := by decide +kernel
theorem dX4_readCaller_82 : decode cX4_readCaller 82 = .ok (.aload_n 3, 1) := by decide +kernel
theorem dX4_readCaller_83 : decode cX4_readCaller 83 = .ok (.dup, 1) := by decide +kernel
theorem dX4_readCaller_84 : decode cX4_readCaller 84 = .ok (.getfield 125, 3) := by decide +kernel
theorem dX4_readCaller_87 : decode cX4_readCaller 87 = .ok (.iconst 1, 1) := by decide +kernel
theorem dX4_readCaller_88 : decode cX4_readCaller 88 = .ok (.iadd, 1) := by decide +kernel
theorem dX4_readCaller_89 : decode cX4_readCaller 89 = .ok (.putfield 125, 3) := by decide +kernel
theorem dX4_readCaller_92 : decode cX4_readCaller 92 = .ok (.bipush (-9), 2) := by decide +kernel
theorem dX4_readCaller_94 : decode cX4_readCaller 94 = .ok (.ireturn, 1) := by decide +kernel
theorem dX4_pastBlanks_0 : decode cX4_pastBlanks 0 = .ok (.iload_n 1, 1) := by decide +kernel
theorem dX4_pastBlanks_1 : decode cX4_pastBlanks 1 = .ok (.istore_n 3, 1) := by decide +kernel
theorem dX4_pastBlanks_2 : decode cX4_pastBlanks 2 = .ok (.iload_n 3, 1) := by decide +kernel
theorem dX4_pastBlanks_3 : decode cX4_pastBlanks 3 = .ok (.iload_n 2, 1) := by decide +kernel
theorem dX4_pastBlanks_4 : decode cX4_pastBlanks 4 = .ok (.if_icmp .ge 17, 3) := by decide +kernel
theorem dX4_pastBlanks_7 : decode cX4_pastBlanks 7 = .ok (.aload_n 0, 1) := by decide +kernel
theorem dX4_pastBlanks_8 : decode cX4_pastBlanks 8 = .ok (.iload_n 3, 1) := by decide +kernel
theorem dX4_pastBlanks_9 : decode cX4_pastBlanks 9 = .ok (.baload, 1) := by decide +kernel
theorem dX4_pastBlanks_10 : decode cX4_pastBlanks 10 = .ok (.bipush 32, 2) := by decide +kernel
theorem dX4_pastBlanks_12 : decode cX4_pastBlanks 12 = .ok (.if_icmp .ne 9, 3) := by decide +kernel
theorem dX4_pastBlanks_15 : decode cX4_pastBlanks 15 = .ok (.iinc 3 1, 3) := by decide +kernel
theorem dX4_pastBlanks_18 : decode cX4_pastBlanks 18 = .ok (.goto (-16), 3) := by decide +kernel
theorem dX4_pastBlanks_21 : decode cX4_pastBlanks 21 = .ok (.iload_n 3, 1) := by decide +kernel
theorem dX4_pastBlanks_22 : decode cX4_pastBlanks 22 = .ok (.ireturn, 1) := by decide +kernel
theorem dX4_figureAt_0 : decode cX4_figureAt 0 = .ok (.iload_n 1, 1) := by decide +kernel
theorem dX4_figureAt_1 : decode cX4_figureAt 1 = .ok (.iload_n 2, 1) := by decide +kernel
theorem dX4_figureAt_2 : decode cX4_figureAt 2 = .ok (.if_icmp .lt 5, 3) := by decide +kernel
theorem dX4_figureAt_5 : decode cX4_figureAt 5 = .ok (.iconst 0, 1) := by decide +kernel
theorem dX4_figureAt_6 : decode cX4_figureAt 6 = .ok (.ireturn, 1) := by decide +kernel
theorem dX4_figureAt_7 : decode cX4_figureAt 7 = .ok (.aload_n 0, 1) := by decide +kernel
theorem dX4_figureAt_8 : decode cX4_figureAt 8 = .ok (.iload_n 1, 1) := by decide +kernel
theorem dX4_figureAt_9 : decode cX4_figureAt 9 = .ok (.baload, 1) := by decide +kernel
theorem dX4_figureAt_10 : decode cX4_figureAt 10 = .ok (.bipush 48, 2) := by decide +kernel
theorem dX4_figureAt_12 : decode cX4_figureAt 12 = .ok (.isub, 1) := by decide +kernel
theorem dX4_figureAt_13 : decode cX4_figureAt 13 = .ok (.istore_n 3, 1) := by decide +kernel
theorem dX4_figureAt_14 : decode cX4_figureAt 14 = .ok (.iload_n 3, 1) := by decide +kernel
theorem dX4_figureAt_15 : decode cX4_figureAt 15 = .ok (.invokestatic 168, 3) := by decide +kernel
theorem dX4_figureAt_18 : decode cX4_figureAt 18 = .ok (.ifCond .eq 7, 3) := by decide +kernel
theorem dX4_figureAt_21 : decode cX4_figureAt 21 = .ok (.iload_n 3, 1) := by decide +kernel
theorem dX4_figureAt_22 : decode cX4_figureAt 22 = .ok (.goto 4, 3) := by decide +kernel
theorem dX4_figureAt_25 : decode cX4_figureAt 25 = .ok (.iconst 0, 1) := by decide +kernel
theorem dX4_figureAt_26 : decode cX4_figureAt 26 = .ok (.ireturn, 1) := by decide +kernel
theorem dX4_kindAt_0 : decode cX4_kindAt 0 = .ok (.iconst 0, 1) := by decide +kernel
theorem dX4_kindAt_1 : decode cX4_kindAt 1 = .ok (.istore_n 3, 1) := by decide +kernel
theorem dX4_kindAt_2 : decode cX4_kindAt 2 = .ok (.iload_n 3, 1) := by decide +kernel
theorem dX4_kindAt_3 : decode cX4_kindAt 3 = .ok (.bipush 6, 2) := by decide +kernel
theorem dX4_kindAt_5 : decode cX4_kindAt 5 = .ok (.if_icmp .ge 27, 3) := by decide +kernel
theorem dX4_kindAt_8 : decode cX4_kindAt 8 = .ok (.iload_n 1, 1) := by decide +kernel
theorem dX4_kindAt_9 : decode cX4_kindAt 9 = .ok (.iload_n 2, 1) := by decide +kernel
theorem dX4_kindAt_10 : decode cX4_kindAt 10 = .ok (.if_icmp .ge 22, 3) := by decide +kernel
theorem dX4_kindAt_13 : decode cX4_kindAt 13 = .ok (.aload_n 0, 1) := by decide +kernel
theorem dX4_kindAt_14 : decode cX4_kindAt 14 = .ok (.iload_n 1, 1) := by decide +kernel
theorem dX4_kindAt_15 : decode cX4_kindAt 15 = .ok (.baload, 1) := by decide +kernel
theorem dX4_kindAt_16 : decode cX4_kindAt 16 = .ok (.getstatic 359, 3) := by decide +kernel
theorem dX4_kindAt_19 : decode cX4_kindAt 19 = .ok (.iload_n 3, 1) := by decide +kernel
theorem dX4_kindAt_20 : decode cX4_kindAt 20 = .ok (.iaload, 1) := by decide +kernel
theorem dX4_kindAt_21 : decode cX4_kindAt 21 = .ok (.if_icmp .ne 5, 3) := by decide +kernel
theorem dX4_kindAt_24 : decode cX4_kindAt 24 = .ok (.iload_n 3, 1) := by decide +kernel
theorem dX4_kindAt_25 : decode cX4_kindAt 25 = .ok (.ireturn, 1) := by decide +kernel
theorem dX4_kindAt_26 : decode cX4_kindAt 26 = .ok (.iinc 3 1, 3) := by decide +kernel
theorem dX4_kindAt_29 : decode cX4_kindAt 29 = .ok (.goto (-27), 3) := by decide +kernel
theorem dX4_kindAt_32 : decode cX4_kindAt 32 = .ok (.bipush (-9), 2) := by decide +kernel
theorem dX4_kindAt_34 : decode cX4_kindAt 34 = .ok (.ireturn, 1) := by decide +kernel
theorem dX5_init_0 : decode cX5_init 0 = .ok (.aload_n 0, 1) := by decide +kernel
theorem dX5_init_1 : decode cX5_init 1 = .ok (.invokespecial 1, 3) := by decide +kernel
theorem dX5_init_4 : decode cX5_init 4 = .ok (.aload_n 0, 1) := by decide +kernel
theorem dX5_init_5 : decode cX5_init 5 = .ok (.bipush 6, 2) := by decide +kernel
theorem dX5_init_7 : decode cX5_init 7 = .ok (.newarray .int, 2) := by decide +kernel
theorem dX5_init_9 : decode cX5_init 9 = .ok (.putfield 7, 3) := by decide +kernel
theorem dX5_init_12 : decode cX5_init 12 = .ok (.aload_n 0, 1) := by decide +kernel
theorem dX5_init_13 : decode cX5_init 13 = .ok (.sipush 240, 3) := by decide +kernel
theorem dX5_init_16 : decode cX5_init 16 = .ok (.newarray .int, 2) := by decide +kernel
theorem dX5_init_18 : decode cX5_init 18 = .ok (.putfield 13, 3) := by decide +kernel
theorem dX5_init_21 : decode cX5_init 21 = .ok (.aload_n 0, 1) := by decide +kernel
theorem dX5_init_22 : decode cX5_init 22 = .ok (.iconst 4, 1) := by decide +kernel
theorem dX5_init_23 : decode cX5_init 23 = .ok (.newarray .int, 2) := by decide +kernel
theorem dX5_init_25 : decode cX5_init 25 = .ok (.putfield 16, 3) := by decide +kernel
theorem dX5_init_28 : decode cX5_init 28 = .ok (.aload_n 0, 1) := by decide +kernel
theorem dX5_init_29 : decode cX5_init 29 = .ok (.sipush 240, 3) := by decide +kernel
theorem dX5_init_32 : decode cX5_init 32 = .ok (.newarray .int, 2) := by decide +kernel
theorem dX5_init_34 : decode cX5_init 34 = .ok (.putfield 19, 3) := by decide +kernel
theorem dX5_init_37 : decode cX5_init 37 = .ok (.aload_n 0, 1) := by decide +kernel
theorem dX5_init_38 : decode cX5_init 38 = .ok (.bipush 7, 2) := by decide +kernel
theorem dX5_init_40 : decode cX5_init 40 = .ok (.newarray .int, 2) := by decide +kernel
theorem dX5_init_42 : decode cX5_init 42 = .ok (.putfield 22, 3) := by decide +kernel
theorem dX5_init_45 : decode cX5_init 45 = .ok (.aload_n 0, 1) := by decide +kernel
theorem dX5_init_46 : decode cX5_init 46 = .ok (.bipush 7, 2) := by decide +kernel
theorem dX5_init_48 : decode cX5_init 48 = .ok (.newarray .int, 2) := by decide +kernel
theorem dX5_init_50 : decode cX5_init 50 = .ok (.putfield 25, 3) := by decide +kernel
theorem dX5_init_53 : decode cX5_init 53 = .ok (.aload_n 0, 1) := by decide +kernel
theorem dX5_init_54 : decode cX5_init 54 = .ok (.bipush 40, 2) := by decide +kernel
theorem dX5_init_56 : decode cX5_init 56 = .ok (.newarray .int, 2) := by decide +kernel
theorem dX5_init_58 : decode cX5_init 58 = .ok (.putfield 28, 3) := by decide +kernel
theorem dX5_init_61 : decode cX5_init 61 = .ok (.aload_n 0, 1) := by decide +kernel
theorem dX5_init_62 : decode cX5_init 62 = .ok (.bipush 40, 2) := by decide +kernel
theorem dX5_init_64 : decode cX5_init 64 = .ok (.newarray .int, 2) := by decide +kernel
theorem dX5_init_66 : decode cX5_init 66 = .ok (.putfield 31, 3) := by decide +kernel
theorem dX5_init_69 : decode cX5_init 69 = .ok (.aload_n 0, 1) := by decide +kernel
theorem dX5_init_70 : decode cX5_init 70 = .ok (.bipush 7, 2) := by decide +kernel
theorem dX5_init_72 : decode cX5_init 72 = .ok (.newarray .int, 2) := by decide +kernel
theorem dX5_init_74 : decode cX5_init 74 = .ok (.putfield 34, 3) := by decide +kernel
theorem dX5_init_77 : decode cX5_init 77 = .ok (.aload_n 0, 1) := by decide +kernel
theorem dX5_init_78 : decode cX5_init 78 = .ok (.sipush 1600, 3) := by decide +kernel
theorem dX5_init_81 : decode cX5_init 81 = .ok (.newarray .int, 2) := by decide +kernel
theorem dX5_init_83 : decode cX5_init 83 = .ok (.putfield 37, 3) := by decide +kernel
theorem dX5_init_86 : decode cX5_init 86 = .ok (.aload_n 0, 1) := by decide +kernel
theorem dX5_init_87 : decode cX5_init 87 = .ok (.sipush 4923, 3) := by decide +kernel
theorem dX5_init_90 : decode cX5_init 90 = .ok (.newarray .int, 2) := by decide +kernel
theorem dX5_init_92 : decode cX5_init 92 = .ok (.putfield 40, 3) := by decide +kernel
theorem dX5_init_95 : decode cX5_init 95 = .ok (.aload_n 0, 1) := by decide +kernel
theorem dX5_init_96 : decode cX5_init 96 = .ok (.iconst 3, 1) := by decide +kernel
theorem dX5_init_97 : decode cX5_init 97 = .ok (.newarray .boolean, 2) := by decide +kernel
theorem dX5_init_99 : decode cX5_init 99 = .ok (.putfield 43, 3) := by decide +kernel
theorem dX5_init_102 : decode cX5_init 102 = .ok (.aload_n 0, 1) := by decide +kernel
theorem dX5_init_103 : decode cX5_init 103 = .ok (.lconst 1, 1) := by decide +kernel
theorem dX5_init_104 : decode cX5_init 104 = .ok (.putfield 47, 3) := by decide +kernel
theorem dX5_init_107 : decode cX5_init 107 = .ok (.aload_n 0, 1) := by decide +kernel
theorem dX5_init_108 : decode cX5_init 108 = .ok (.bipush 6, 2) := by decide +kernel
theorem dX5_init_110 : decode cX5_init 110 = .ok (.newarray .int, 2) := by decide +kernel
theorem dX5_init_112 : decode cX5_init 112 = .ok (.putfield 51, 3) := by decide +kernel
theorem dX5_init_115 : decode cX5_init 115 = .ok (.aload_n 0, 1) := by decide +kernel
theorem dX5_init_116 : decode cX5_init 116 = .ok (.bipush 7, 2) := by decide +kernel
theorem dX5_init_118 : decode cX5_init 118 = .ok (.newarray .int, 2) := by decide +kernel
theorem dX5_init_120 : decode cX5_init 120 = .ok (.putfield 54, 3) := by decide +kernel
theorem dX5_init_123 : decode cX5_init 123 = .ok (.aload_n 0, 1) := by decide +kernel
theorem dX5_init_124 : decode cX5_init 124 = .ok (.bipush 14, 2) := by decide +kernel
theorem dX5_init_126 : decode cX5_init 126 = .ok (.newarray .int, 2) := by decide +kernel
theorem dX5_init_128 : decode cX5_init 128 = .ok (.putfield 57, 3) := by decide +kernel
theorem dX5_init_131 : decode cX5_init 131 = .ok (.aload_n 0, 1) := by decide +kernel
theorem dX5_init_132 : decode cX5_init 132 = .ok (.bipush 126, 2) := by decide +kernel
theorem dX5_init_134 : decode cX5_init 134 = .ok (.newarray .int, 2) := by decide +kernel
theorem dX5_init_136 : decode cX5_init 136 = .ok (.putfield 60, 3) := by decide +kernel
theorem dX5_init_139 : decode cX5_init 139 = .ok (.aload_n 0, 1) := by decide +kernel
theorem dX5_init_140 : decode cX5_init 140 = .ok (.sipush 6561, 3) := by decide +kernel
theorem dX5_init_143 : decode cX5_init 143 = .ok (.newarray .int, 2) := by decide +kernel
theorem dX5_init_145 : decode cX5_init 145 = .ok (.putfield 63, 3) := by decide +kernel
theorem dX5_init_148 : decode cX5_init 148 = .ok (.iconst 0, 1) := by decide +kernel
theorem dX5_init_149 : decode cX5_init 149 = .ok (.istore_n 1, 1) := by decide +kernel
theorem dX5_init_150 : decode cX5_init 150 = .ok (.iload_n 1, 1) := by decide +kernel
theorem dX5_init_151 : decode cX5_init 151 = .ok (.bipush 6, 2) := by decide +kernel
theorem dX5_init_153 : decode cX5_init 153 = .ok (.if_icmp .ge 16, 3) := by decide +kernel
theorem dX5_init_156 : decode cX5_init 156 = .ok (.aload_n 0, 1) := by decide +kernel
theorem dX5_init_157 : decode cX5_init 157 = .ok (.getfield 7, 3) := by decide +kernel
theorem dX5_init_160 : decode cX5_init 160 = .ok (.iload_n 1, 1) := by decide +kernel
theorem dX5_init_161 : decode cX5_init 161 = .ok (.iconst (-1), 1) := by decide +kernel
theorem dX5_init_162 : decode cX5_init 162 = .ok (.iastore, 1) := by decide +kernel
theorem dX5_init_163 : decode cX5_init 163 = .ok (.iinc 1 1, 3) := by decide +kernel
theorem dX5_init_166 : decode cX5_init 166 = .ok (.goto (-16), 3) := by decide +kernel
theorem dX5_init_169 : decode cX5_init 169 = .ok (.iconst 0, 1) := by decide +kernel
theorem dX5_init_170 : decode cX5_init 170 = .ok (.istore_n 1, 1) := by decide +kernel
theorem dX5_init_171 : decode cX5_init 171 = .ok (.iload_n 1, 1) := by decide +kernel
theorem dX5_init_172 : decode cX5_init 172 = .ok (.iconst 4, 1) := by decide +kernel
theorem dX5_init_173 : decode cX5_init 173 = .ok (.if_icmp .ge 16, 3) := by decide +kernel
theorem dX5_init_176 : decode cX5_init 176 = .ok (.aload_n 0, 1) := by decide +kernel
theorem dX5_init_177 : decode cX5_init 177 = .ok (.getfield 16, 3) := by decide +kernel
theorem dX5_init_180 : decode cX5_init 180 = .ok (.iload_n 1, 1) := by decide +kernel
theorem dX5_init_181 : decode cX5_init 181 = .ok (.iconst (-1), 1) := by decide +kernel
theorem dX5_init_182 : decode cX5_init 182 = .ok (.iastore, 1) := by decide +kernel
theorem dX5_init_183 : decode cX5_init 183 = .ok (.iinc 1 1, 3) := by decide +kernel
theorem dX5_init_186 : decode cX5_init 186 = .ok (.goto (-15), 3) := by decide +kernel
theorem dX5_init_189 : decode cX5_init 189 = .ok (.return_, 1) := by decide +kernel
theorem dX5_in_0 : decode cX5_in 0 = .ok (.lload_n 0, 1) := by decide +kernel
theorem dX5_in_1 : decode cX5_in 1 = .ok (.lload_n 2, 1) := by decide +kernel
theorem dX5_in_2 : decode cX5_in 2 = .ok (.lcmp, 1) := by decide +kernel
theorem dX5_in_3 : decode cX5_in 3 = .ok (.ifCond .lt 14, 3) := by decide +kernel
theorem dX5_in_6 : decode cX5_in 6 = .ok (.lload_n 0, 1) := by decide +kernel
theorem dX5_in_7 : decode cX5_in 7 = .ok (.lload 4, 2) := by decide +kernel
theorem dX5_in_9 : decode cX5_in 9 = .ok (.lcmp, 1) := by decide +kernel
theorem dX5_in_10 : decode cX5_in 10 = .ok (.ifCond .gt 7, 3) := by decide +kernel
theorem dX5_in_13 : decode cX5_in 13 = .ok (.iconst 1, 1) := by decide +kernel
theorem dX5_in_14 : decode cX5_in 14 = .ok (.goto 4, 3) := by decide +kernel
theorem dX5_in_17 : decode cX5_in 17 = .ok (.iconst 0, 1) := by decide +kernel
theorem dX5_in_18 : decode cX5_in 18 = .ok (.ireturn, 1) := by decide +kernel
theorem dX5_has_0 : decode cX5_has 0 = .ok (.iload_n 0, 1) := by decide +kernel
theorem dX5_has_1 : decode cX5_has 1 = .ok (.iload_n 1, 1) := by decide +kernel
theorem dX5_has_2 : decode cX5_has 2 = .ok (.ishr, 1) := by decide +kernel
theorem dX5_has_3 : decode cX5_has 3 = .ok (.iconst 1, 1) := by decide +kernel
theorem dX5_has_4 : decode cX5_has 4 = .ok (.iand, 1) := by decide +kernel
theorem dX5_has_5 : decode cX5_has 5 = .ok (.iconst 1, 1) := by decide +kernel
theorem dX5_has_6 : decode cX5_has 6 = .ok (.if_icmp .ne 7, 3) := by decide +kernel
theorem dX5_has_9 : decode cX5_has 9 = .ok (.iconst 1, 1) := by decide +kernel
theorem dX5_has_10 : decode cX5_has 10 = .ok (.goto 4, 3) := by decide +kernel
theorem dX5_has_13 : decode cX5_has 13 = .ok (.iconst 0, 1) := by decide +kernel
theorem dX5_has_14 : decode cX5_has 14 = .ok (.ireturn, 1) := by decide +kernel
theorem dX5_bits_0 : decode cX5_bits 0 = .ok (.iconst 0, 1) := by decide +kernel
theorem dX5_bits_1 : decode cX5_bits 1 = .ok (.istore_n 1, 1) := by decide +kernel
theorem dX5_bits_2 : decode cX5_bits 2 = .ok (.iload_n 0, 1) := by decide +kernel
theorem dX5_bits_3 : decode cX5_bits 3 = .ok (.istore_n 2, 1) := by decide +kernel
theorem dX5_bits_4 : decode cX5_bits 4 = .ok (.iload_n 2, 1) := by decide +kernel
theorem dX5_bits_5 : decode cX5_bits 5 = .ok (.ifCond .eq 15, 3) := by decide +kernel
theorem dX5_bits_8 : decode cX5_bits 8 = .ok (.iinc 1 1, 3) := by decide +kernel
theorem dX5_bits_11 : decode cX5_bits 11 = .ok (.iload_n 2, 1) := by decide +kernel
theorem dX5_bits_12 : decode cX5_bits 12 = .ok (.iload_n 2, 1) := by decide +kernel
theorem dX5_bits_13 : decode cX5_bits 13 = .ok (.iconst 1, 1) := by decide +kernel
theorem dX5_bits_14 : decode cX5_bits 14 = .ok (.isub, 1) := by decide +kernel
theorem dX5_bits_15 : decode cX5_bits 15 = .ok (.iand, 1) := by decide +kernel
theorem dX5_bits_16 : decode cX5_bits 16 = .ok (.istore_n 2, 1) := by decide +kernel
theorem dX5_bits_17 : decode cX5_bits 17 = .ok (.goto (-13), 3) := by decide +kernel
theorem dX5_bits_20 : decode cX5_bits 20 = .ok (.iload_n 1, 1) := by decide +kernel
theorem dX5_bits_21 : decode cX5_bits 21 = .ok (.ireturn, 1) := by decide +kernel
theorem dX5_found_0 : decode cX5_found 0 = .ok (.aload_n 0, 1) := by decide +kernel
theorem dX5_found_1 : decode cX5_found 1 = .ok (.iload_n 1, 1) := by decide +kernel
theorem dX5_found_2 : decode cX5_found 2 = .ok (.putfield 66, 3) := by decide +kernel
theorem dX5_found_5 : decode cX5_found 5 = .ok (.aload_n 0, 1) := by decide +kernel
theorem dX5_found_6 : decode cX5_found 6 = .ok (.getfield 51, 3) := by decide +kernel
theorem dX5_found_9 : decode cX5_found 9 = .ok (.iload_n 1, 1) := by decide +kernel
theorem dX5_found_10 : decode cX5_found 10 = .ok (.dup2, 1) := by decide +kernel
theorem dX5_found_11 : decode cX5_found 11 = .ok (.iaload, 1) := by decide +kernel
theorem dX5_found_12 : decode cX5_found 12 = .ok (.iconst 1, 1) := by decide +kernel
theorem dX5_found_13 : decode cX5_found 13 = .ok (.iadd, 1) := by decide +kernel
theorem dX5_found_14 : decode cX5_found 14 = .ok (.iastore, 1) := by decide +kernel
theorem dX5_found_15 : decode cX5_found 15 = .ok (.bipush (-3), 2) := by decide +kernel
theorem dX5_found_17 : decode cX5_found 17 = .ok (.ireturn, 1) := by decide +kernel
theorem dX5_tell_0 : decode cX5_tell 0 = .ok (.aload_n 0, 1) := by decide +kernel
theorem dX5_tell_1 : decode cX5_tell 1 = .ok (.iload_n 1, 1) := by decide +kernel
theorem dX5_tell_2 : decode cX5_tell 2 = .ok (.putfield 70, 3) := by decide +kernel
theorem dX5_tell_5 : decode cX5_tell 5 = .ok (.iconst 1, 1) := by decide +kernel
theorem dX5_tell_6 : decode cX5_tell 6 = .ok (.ireturn, 1) := by decide +kernel
theorem dX5_answer_0 : decode cX5_answer 0 = .ok (.aload_n 0, 1) := by decide +kernel
theorem dX5_answer_1 : decode cX5_answer 1 = .ok (.iload_n 2, 1) := by decide +kernel
theorem dX5_answer_2 : decode cX5_answer 2 = .ok (.putfield 70, 3) := by decide +kernel
theorem dX5_answer_5 : decode cX5_answer 5 = .ok (.iload_n 1, 1) := by decide +kernel
theorem dX5_answer_6 : decode cX5_answer 6 = .ok (.ireturn, 1) := by decide +kernel
theorem dX5_isRow_0 : decode cX5_isRow 0 = .ok (.iload_n 0, 1) := by decide +kernel
theorem dX5_isRow_1 : decode cX5_isRow 1 = .ok (.i2l, 1) := by decide +kernel
theorem dX5_isRow_2 : decode cX5_isRow 2 = .ok (.lconst 0, 1) := by decide +kernel
theorem dX5_isRow_3 : decode cX5_isRow 3 = .ok (.ldc2_w 73, 3) := by decide +kernel
theorem dX5_isRow_6 : decode cX5_isRow 6 = .ok (.invokestatic 75, 3) := by decide +kernel
theorem dX5_isRow_9 : decode cX5_isRow 9 = .ok (.ireturn, 1) := by decide +kernel
theorem dX5_isText_0 : decode cX5_isText 0 = .ok (.iload_n 0, 1) := by decide +kernel
theorem dX5_isText_1 : decode cX5_isText 1 = .ok (.i2l, 1) := by decide +kernel
theorem dX5_isText_2 : decode cX5_isText 2 = .ok (.lconst 0, 1) := by decide +kernel
theorem dX5_isText_3 : decode cX5_isText 3 = .ok (.ldc2_w 79, 3) := by decide +kernel
theorem dX5_isText_6 : decode cX5_isText 6 = .ok (.invokestatic 75, 3) := by decide +kernel
theorem dX5_isText_9 : decode cX5_isText 9 = .ok (.ireturn, 1) := by decide +kernel
theorem dX5_row_0 : decode cX5_row 0 = .ok (.iload_n 1, 1) := by decide +kernel
theorem dX5_row_1 : decode cX5_row 1 = .ok (.invokestatic 81, 3) := by decide +kernel
theorem dX5_row_4 : decode cX5_row 4 = .ok (.ifCond .eq 9, 3) := by decide +kernel
theorem dX5_row_7 : decode cX5_row 7 = .ok (.iload_n 2, 1) := by decide +kernel
theorem dX5_row_8 : decode cX5_row 8 = .ok (.bipush 40, 2) := by decide +kernel
theorem dX5_row_10 : decode cX5_row 10 = .ok (.if_icmp .le 5, 3) := by decide +kernel
theorem dX5_row_13 : decode cX5_row 13 = .ok (.iconst (-1), 1) := by decide +kernel
theorem dX5_row_14 : decode cX5_row 14 = .ok (.ireturn, 1) := by decide +kernel
theorem dX5_row_15 : decode cX5_row 15 = .ok (.iload_n 2, 1) := by decide +kernel
theorem dX5_row_16 : decode cX5_row 16 = .ok (.ifCond .ge 9, 3) := by decide +kernel
theorem dX5_row_19 : decode cX5_row 19 = .ok (.aload_n 0, 1) := by decide +kernel
theorem dX5_row_20 : decode cX5_row 20 = .ok (.iconst 5, 1) := by decide +kernel
theorem dX5_row_21 : decode cX5_row 21 = .ok (.invokevirtual 85, 3) := by decide +kernel
theorem dX5_row_24 : decode cX5_row 24 = .ok (.ireturn, 1) := by decide +kernel
theorem dX5_row_25 : decode cX5_row 25 = .ok (.aload_n 0, 1) := by decide +kernel
theorem dX5_row_26 : decode cX5_row 26 = .ok (.getfield 7, 3) := by decide +kernel
theorem dX5_row_29 : decode cX5_row 29 = .ok (.iload_n 1, 1) := by decide +kernel
theorem dX5_row_30 : decode cX5_row 30 = .ok (.iload_n 2, 1) := by decide +kernel
theorem dX5_row_31 : decode cX5_row 31 = .ok (.iastore, 1) := by decide +kernel
theorem dX5_row_32 : decode cX5_row 32 = .ok (.iconst 0, 1) := by decide +kernel
theorem dX5_row_33 : decode cX5_row 33 = .ok (.istore_n 3, 1) := by decide +kernel
theorem dX5_row_34 : decode cX5_row 34 = .ok (.iload_n 3, 1) := by decide +kernel
theorem dX5_row_35 : decode cX5_row 35 = .ok (.bipush 40, 2) := by decide +kernel
theorem dX5_row_37 : decode cX5_row 37 = .ok (.if_icmp .ge 21, 3) := by decide +kernel
theorem dX5_row_40 : decode cX5_row 40 = .ok (.aload_n 0, 1) := by decide +kernel
theorem dX5_row_41 : decode cX5_row 41 = .ok (.getfield 13, 3) := by decide +kernel
theorem dX5_row_44 : decode cX5_row 44 = .ok (.bipush 40, 2) := by decide +kernel
theorem dX5_row_46 : decode cX5_row 46 = .ok (.iload_n 1, 1) := by decide +kernel
theorem dX5_row_47 : decode cX5_row 47 = .ok (.imul, 1) := by decide +kernel
theorem dX5_row_48 : decode cX5_row 48 = .ok (.iload_n 3, 1) := by decide +kernel
theorem dX5_row_49 : decode cX5_row 49 = .ok (.iadd, 1) := by decide +kernel
theorem dX5_row_50 : decode cX5_row 50 = .ok (.iconst 0, 1) := by decide +kernel
theorem dX5_row_51 : decode cX5_row 51 = .ok (.iastore, 1) := by decide +kernel
theorem dX5_row_52 : decode cX5_row 52 = .ok (.iinc 3 1, 3) := by decide +kernel
theorem dX5_row_55 : decode cX5_row 55 = .ok (.goto (-21), 3) := by decide +kernel
theorem dX5_row_58 : decode cX5_row 58 = .ok (.iload_n 2, 1) := by decide +kernel
theorem dX5_row_59 : decode cX5_row 59 = .ok (.ireturn, 1) := by decide +kernel
theorem dX5_lay_0 : decode cX5_lay 0 = .ok (.iload_n 1, 1) := by decide +kernel
theorem dX5_lay_1 : decode cX5_lay 1 = .ok (.invokestatic 81, 3) := by decide +kernel
theorem dX5_lay_4 : decode cX5_lay 4 = .ok (.ifCond .ne 5, 3) := by decide +kernel
theorem dX5_lay_7 : decode cX5_lay 7 = .ok (.iconst (-1), 1) := by decide +kernel
theorem dX5_lay_8 : decode cX5_lay 8 = .ok (.ireturn, 1) := by decide +kernel
theorem dX5_lay_9 : decode cX5_lay 9 = .ok (.aload_n 0, 1) := by decide +kernel
theorem dX5_lay_10 : decode cX5_lay 10 = .ok (.getfield 7, 3) := by decide +kernel
theorem dX5_lay_13 : decode cX5_lay 13 = .ok (.iload_n 1, 1) := by decide +kernel
theorem dX5_lay_14 : decode cX5_lay 14 = .ok (.iaload, 1) := by decide +kernel
theorem dX5_lay_15 : decode cX5_lay 15 = .ok (.ifCond .ge 9, 3) := by decide +kernel
theorem dX5_lay_18 : decode cX5_lay 18 = .ok (.aload_n 0, 1) := by decide +kernel
theorem dX5_lay_19 : decode cX5_lay 19 = .ok (.iconst 1, 1) := by decide +kernel
theorem dX5_lay_20 : decode cX5_lay 20 = .ok (.invokevirtual 85, 3) := by decide +kernel
theorem dX5_lay_23 : decode cX5_lay 23 = .ok (.ireturn, 1) := by decide +kernel
theorem dX5_lay_24 : decode cX5_lay 24 = .ok (.iload_n 2, 1) := by decide +kernel
theorem dX5_lay_25 : decode cX5_lay 25 = .ok (.i2l, 1) := by decide +kernel
theorem dX5_lay_26 : decode cX5_lay 26 = .ok (.lconst 0, 1) := by decide +kernel
theorem dX5_lay_27 : decode cX5_lay 27 = .ok (.aload_n 0, 1) := by decide +kernel
theorem dX5_lay_28 : decode cX5_lay 28 = .ok (.getfield 7, 3) := by decide +kernel
theorem dX5_lay_31 : decode cX5_lay 31 = .ok (.iload_n 1, 1) := by decide +kernel
theorem dX5_lay_32 : decode cX5_lay 32 = .ok (.iaload, 1) := by decide +kernel
theorem dX5_lay_33 : decode cX5_lay 33 = .ok (.iconst 1, 1) := by decide +kernel
theorem dX5_lay_34 : decode cX5_lay 34 = .ok (.isub, 1) := by decide +kernel
theorem dX5_lay_35 : decode cX5_lay 35 = .ok (.i2l, 1) := by decide +kernel
theorem dX5_lay_36 : decode cX5_lay 36 = .ok (.invokestatic 75, 3) := by decide +kernel
theorem dX5_lay_39 : decode cX5_lay 39 = .ok (.ifCond .ne 9, 3) := by decide +kernel
theorem dX5_lay_42 : decode cX5_lay 42 = .ok (.aload_n 0, 1) := by decide +kernel
theorem dX5_lay_43 : decode cX5_lay 43 = .ok (.iconst 2, 1) := by decide +kernel
theorem dX5_lay_44 : decode cX5_lay 44 = .ok (.invokevirtual 85, 3) := by decide +kernel
theorem dX5_lay_47 : decode cX5_lay 47 = .ok (.ireturn, 1) := by decide +kernel
theorem dX5_lay_48 : decode cX5_lay 48 = .ok (.aload_n 0, 1) := by decide +kernel
theorem dX5_lay_49 : decode cX5_lay 49 = .ok (.getfield 13, 3) := by decide +kernel
theorem dX5_lay_52 : decode cX5_lay 52 = .ok (.bipush 40, 2) := by decide +kernel
theorem dX5_lay_54 : decode cX5_lay 54 = .ok (.iload_n 1, 1) := by decide +kernel
theorem dX5_lay_55 : decode cX5_lay 55 = .ok (.imul, 1) := by decide +kernel
theorem dX5_lay_56 : decode cX5_lay 56 = .ok (.iload_n 2, 1) := by decide +kernel
theorem dX5_lay_57 : decode cX5_lay 57 = .ok (.iadd, 1) := by decide +kernel
theorem dX5_lay_58 : decode cX5_lay 58 = .ok (.iaload, 1) := by decide +kernel
theorem dX5_lay_59 : decode cX5_lay 59 = .ok (.istore 4, 2) := by decide +kernel
theorem dX5_lay_61 : decode cX5_lay 61 = .ok (.aload_n 0, 1) := by decide +kernel
theorem dX5_lay_62 : decode cX5_lay 62 = .ok (.getfield 13, 3) := by decide +kernel
theorem dX5_lay_65 : decode cX5_lay 65 = .ok (.bipush 40, 2) := by decide +kernel
theorem dX5_lay_67 : decode cX5_lay 67 = .ok (.iload_n 1, 1) := by decide +kernel
theorem dX5_lay_68 : decode cX5_lay 68 = .ok (.imul, 1) := by decide +kernel
theorem dX5_lay_69 : decode cX5_lay 69 = .ok (.iload_n 2, 1) := by decide +kernel
theorem dX5_lay_70 : decode cX5_lay 70 = .ok (.iadd, 1) := by decide +kernel
theorem dX5_lay_71 : decode cX5_lay 71 = .ok (.iload_n 3, 1) := by decide +kernel
theorem dX5_lay_72 : decode cX5_lay 72 = .ok (.iastore, 1) := by decide +kernel
theorem dX5_lay_73 : decode cX5_lay 73 = .ok (.aload_n 0, 1) := by decide +kernel
theorem dX5_lay_74 : decode cX5_lay 74 = .ok (.iload 4, 2) := by decide +kernel
theorem dX5_lay_76 : decode cX5_lay 76 = .ok (.invokevirtual 89, 3) := by decide +kernel
theorem dX5_lay_79 : decode cX5_lay 79 = .ok (.ireturn, 1) := by decide +kernel
theorem dX5_at_0 : decode cX5_at 0 = .ok (.iload_n 1, 1) := by decide +kernel
theorem dX5_at_1 : decode cX5_at 1 = .ok (.invokestatic 81, 3) := by decide +kernel
theorem dX5_at_4 : decode cX5_at 4 = .ok (.ifCond .ne 5, 3) := by decide +kernel
theorem dX5_at_7 : decode cX5_at 7 = .ok (.iconst (-1), 1) := by decide +kernel
theorem dX5_at_8 : decode cX5_at 8 = .ok (.ireturn, 1) := by decide +kernel
theorem dX5_at_9 : decode cX5_at 9 = .ok (.aload_n 0, 1) := by decide +kernel
theorem dX5_at_10 : decode cX5_at 10 = .ok (.getfield 7, 3) := by decide +kernel
theorem dX5_at_13 : decode cX5_at 13 = .ok (.iload_n 1, 1) := by decide +kernel
theorem dX5_at_14 : decode cX5_at 14 = .ok (.iaload, 1) := by decide +kernel
theorem dX5_at_15 : decode cX5_at 15 = .ok (.ifCond .ge 9, 3) := by decide +kernel
theorem dX5_at_18 : decode cX5_at 18 = .ok (.aload_n 0, 1) := by decide +kernel
theorem dX5_at_19 : decode cX5_at 19 = .ok (.iconst 1, 1) := by decide +kernel
theorem dX5_at_20 : decode cX5_at 20 = .ok (.invokevirtual 85, 3) := by decide +kernel
theorem dX5_at_23 : decode cX5_at 23 = .ok (.ireturn, 1) := by decide +kernel
theorem dX5_at_24 : decode cX5_at 24 = .ok (.iload_n 2, 1) := by decide +kernel
theorem dX5_at_25 : decode cX5_at 25 = .ok (.i2l, 1) := by decide +kernel
theorem dX5_at_26 : decode cX5_at 26 = .ok (.lconst 0, 1) := by decide +kernel
theorem dX5_at_27 : decode cX5_at 27 = .ok (.aload_n 0, 1) := by decide +kernel
theorem dX5_at_28 : decode cX5_at 28 = .ok (.getfield 7, 3) := by decide +kernel
theorem dX5_at_31 : decode cX5_at 31 = .ok (.iload_n 1, 1) := by decide +kernel
theorem dX5_at_32 : decode cX5_at 32 = .ok (.iaload, 1) := by decide +kernel
theorem dX5_at_33 : decode cX5_at 33 = .ok (.iconst 1, 1) := by decide +kernel
theorem dX5_at_34 : decode cX5_at 34 = .ok (.isub, 1) := by decide +kernel
theorem dX5_at_35 : decode cX5_at 35 = .ok (.i2l, 1) := by decide +kernel
theorem dX5_at_36 : decode cX5_at 36 = .ok (.invokestatic 75, 3) := by decide +kernel
theorem dX5_at_39 : decode cX5_at 39 = .ok (.ifCond .eq 21, 3) := by decide +kernel
theorem dX5_at_42 : decode cX5_at 42 = .ok (.aload_n 0, 1) := by decide +kernel
theorem dX5_at_43 : decode cX5_at 43 = .ok (.aload_n 0, 1) := by decide +kernel
theorem dX5_at_44 : decode cX5_at 44 = .ok (.getfield 13, 3) := by decide +kernel
theorem dX5_at_47 : decode cX5_at 47 = .ok (.bipush 40, 2) := by decide +kernel
theorem dX5_at_49 : decode cX5_at 49 = .ok (.iload_n 1, 1) := by decide +kernel
theorem dX5_at_50 : decode cX5_at 50 = .ok (.imul, 1) := by decide +kernel
theorem dX5_at_51 : decode cX5_at 51 = .ok (.iload_n 2, 1) := by decide +kernel
theorem dX5_at_52 : decode cX5_at 52 = .ok (.iadd, 1) := by decide +kernel
theorem dX5_at_53 : decode cX5_at 53 = .ok (.iaload, 1) := by decide +kernel
theorem dX5_at_54 : decode cX5_at 54 = .ok (.invokevirtual 89, 3) := by decide +kernel
theorem dX5_at_57 : decode cX5_at 57 = .ok (.goto 8, 3) := by decide +kernel
theorem dX5_at_60 : decode cX5_at 60 = .ok (.aload_n 0, 1) := by decide +kernel
theorem dX5_at_61 : decode cX5_at 61 = .ok (.iconst 2, 1) := by decide +kernel
theorem dX5_at_62 : decode cX5_at 62 = .ok (.invokevirtual 85, 3) := by decide +kernel
theorem dX5_at_65 : decode cX5_at 65 = .ok (.ireturn, 1) := by decide +kernel
theorem dX5_tear_0 : decode cX5_tear 0 = .ok (.iload_n 1, 1) := by decide +kernel
theorem dX5_tear_1 : decode cX5_tear 1 = .ok (.invokestatic 81, 3) := by decide +kernel
theorem dX5_tear_4 : decode cX5_tear 4 = .ok (.ifCond .ne 5, 3) := by decide +kernel
theorem dX5_tear_7 : decode cX5_tear 7 = .ok (.iconst (-1), 1) := by decide +kernel
theorem dX5_tear_8 : decode cX5_tear 8 = .ok (.ireturn, 1) := by decide +kernel
theorem dX5_tear_9 : decode cX5_tear 9 = .ok (.aload_n 0, 1) := by decide +kernel
theorem dX5_tear_10 : decode cX5_tear 10 = .ok (.getfield 7, 3) := by decide +kernel
theorem dX5_tear_13 : decode cX5_tear 13 = .ok (.iload_n 1, 1) := by decide +kernel
theorem dX5_tear_14 : decode cX5_tear 14 = .ok (.iaload, 1) := by decide +kernel
theorem dX5_tear_15 : decode cX5_tear 15 = .ok (.ifCond .ge 9, 3) := by decide +kernel
theorem dX5_tear_18 : decode cX5_tear 18 = .ok (.aload_n 0, 1) := by decide +kernel
theorem dX5_tear_19 : decode cX5_tear 19 = .ok (.iconst 1, 1) := by decide +kernel
theorem dX5_tear_20 : decode cX5_tear 20 = .ok (.invokevirtual 85, 3) := by decide +kernel
theorem dX5_tear_23 : decode cX5_tear 23 = .ok (.ireturn, 1) := by decide +kernel
theorem dX5_tear_24 : decode cX5_tear 24 = .ok (.aload_n 0, 1) := by decide +kernel
theorem dX5_tear_25 : decode cX5_tear 25 = .ok (.getfield 7, 3) := by decide +kernel
theorem dX5_tear_28 : decode cX5_tear 28 = .ok (.iload_n 1, 1) := by decide +kernel
theorem dX5_tear_29 : decode cX5_tear 29 = .ok (.iconst (-1), 1) := by decide +kernel
theorem dX5_tear_30 : decode cX5_tear 30 = .ok (.iastore, 1) := by decide +kernel
theorem dX5_tear_31 : decode cX5_tear 31 = .ok (.iconst 1, 1) := by decide +kernel
theorem dX5_tear_32 : decode cX5_tear 32 = .ok (.ireturn, 1) := by decide +kernel
theorem dX5_copy_0 : decode cX5_copy 0 = .ok (.iload_n 1, 1) := by decide +kernel
theorem dX5_copy_1 : decode cX5_copy 1 = .ok (.invokestatic 81, 3) := by decide +kernel
theorem dX5_copy_4 : decode cX5_copy 4 = .ok (.ifCond .eq 10, 3) := by decide +kernel
theorem dX5_copy_7 : decode cX5_copy 7 = .ok (.iload_n 3, 1) := by decide +kernel
theorem dX5_copy_8 : decode cX5_copy 8 = .ok (.invokestatic 81, 3) := by decide +kernel
theorem dX5_copy_11 : decode cX5_copy 11 = .ok (.ifCond .ne 5, 3) := by decide +kernel
theorem dX5_copy_14 : decode cX5_copy 14 = .ok (.iconst (-1), 1) := by decide +kernel
theorem dX5_copy_15 : decode cX5_copy 15 = .ok (.ireturn, 1) := by decide +kernel
theorem dX5_copy_16 : decode cX5_copy 16 = .ok (.iload 5, 2) := by decide +kernel
theorem dX5_copy_18 : decode cX5_copy 18 = .ok (.ifCond .ge 9, 3) := by decide +kernel
theorem dX5_copy_21 : decode cX5_copy 21 = .ok (.aload_n 0, 1) := by decide +kernel
theorem dX5_copy_22 : decode cX5_copy 22 = .ok (.iconst 5, 1) := by decide +kernel
theorem dX5_copy_23 : decode cX5_copy 23 = .ok (.invokevirtual 85, 3) := by decide +kernel
theorem dX5_copy_26 : decode cX5_copy 26 = .ok (.ireturn, 1) := by decide +kernel
theorem dX5_copy_27 : decode cX5_copy 27 = .ok (.aload_n 0, 1) := by decide +kernel
theorem dX5_copy_28 : decode cX5_copy 28 = .ok (.getfield 7, 3) := by decide +kernel
theorem dX5_copy_31 : decode cX5_copy 31 = .ok (.iload_n 1, 1) := by decide +kernel
theorem dX5_copy_32 : decode cX5_copy 32 = .ok (.iaload, 1) := by decide +kernel
theorem dX5_copy_33 : decode cX5_copy 33 = .ok (.ifCond .lt 12, 3) := by decide +kernel
theorem dX5_copy_36 : decode cX5_copy 36 = .ok (.aload_n 0, 1) := by decide +kernel
theorem dX5_copy_37 : decode cX5_copy 37 = .ok (.getfield 7, 3) := by decide +kernel
theorem dX5_copy_40 : decode cX5_copy 40 = .ok (.iload_n 3, 1) := by decide +kernel
theorem dX5_copy_41 : decode cX5_copy 41 = .ok (.iaload, 1) := by decide +kernel
theorem dX5_copy_42 : decode cX5_copy 42 = .ok (.ifCond .ge 9, 3) := by decide +kernel
theorem dX5_copy_45 : decode cX5_copy 45 = .ok (.aload_n 0, 1) := by decide +kernel
theorem dX5_copy_46 : decode cX5_copy 46 = .ok (.iconst 1, 1) := by decide +kernel
theorem dX5_copy_47 : decode cX5_copy 47 = .ok (.invokevirtual 85, 3) := by decide +kernel
theorem dX5_copy_50 : decode cX5_copy 50 = .ok (.ireturn, 1) := by decide +kernel
theorem dX5_copy_51 : decode cX5_copy 51 = .ok (.iload_n 2, 1) := by decide +kernel
theorem dX5_copy_52 : decode cX5_copy 52 = .ok (.ifCond .lt 43, 3) := by decide +kernel
theorem dX5_copy_55 : decode cX5_copy 55 = .ok (.iload 4, 2) := by decide +kernel
theorem dX5_copy_57 : decode cX5_copy 57 = .ok (.ifCond .lt 38, 3) := by decide +kernel
theorem dX5_copy_60 : decode cX5_copy 60 = .ok (.iload_n 2, 1) := by decide +kernel
theorem dX5_copy_61 : decode cX5_copy 61 = .ok (.i2l, 1) := by decide +kernel
theorem dX5_copy_62 : decode cX5_copy 62 = .ok (.iload 5, 2) := by decide +kernel
theorem dX5_copy_64 : decode cX5_copy 64 = .ok (.i2l, 1) := by decide +kernel
theorem dX5_copy_65 : decode cX5_copy 65 = .ok (.ladd, 1) := by decide +kernel
theorem dX5_copy_66 : decode cX5_copy 66 = .ok (.aload_n 0, 1) := by decide +kernel
theorem dX5_copy_67 : decode cX5_copy 67 = .ok (.getfield 7, 3) := by decide +kernel
theorem dX5_copy_70 : decode cX5_copy 70 = .ok (.iload_n 1, 1) := by decide +kernel
theorem dX5_copy_71 : decode cX5_copy 71 = .ok (.iaload, 1) := by decide +kernel
theorem dX5_copy_72 : decode cX5_copy 72 = .ok (.i2l, 1) := by decide +kernel
theorem dX5_copy_73 : decode cX5_copy 73 = .ok (.lcmp, 1) := by decide +kernel
theorem dX5_copy_74 : decode cX5_copy 74 = .ok (.ifCond .gt 21, 3) := by decide +kernel
theorem dX5_copy_77 : decode cX5_copy 77 = .ok (.iload 4, 2) := by decide +kernel
theorem dX5_copy_79 : decode cX5_copy 79 = .ok (.i2l, 1) := by decide +kernel
theorem dX5_copy_80 : decode cX5_copy 80 = .ok (.iload 5, 2) := by decide +kernel
theorem dX5_copy_82 : decode cX5_copy 82 = .ok (.i2l, 1) := by decide +kernel
theorem dX5_copy_83 : decode cX5_copy 83 = .ok (.ladd, 1) := by decide +kernel
theorem dX5_copy_84 : decode cX5_copy 84 = .ok (.aload_n 0, 1) := by decide +kernel
theorem dX5_copy_85 : decode cX5_copy 85 = .ok (.getfield 7, 3) := by decide +kernel
theorem dX5_copy_88 : decode cX5_copy 88 = .ok (.iload_n 3, 1) := by decide +kernel
theorem dX5_copy_89 : decode cX5_copy 89 = .ok (.iaload, 1) := by decide +kernel
theorem dX5_copy_90 : decode cX5_copy 90 = .ok (.i2l, 1) := by decide +kernel
theorem dX5_copy_91 : decode cX5_copy 91 = .ok (.lcmp, 1) := by decide +kernel
theorem dX5_copy_92 : decode cX5_copy 92 = .ok (.ifCond .le 9, 3) := by decide +kernel
theorem dX5_copy_95 : decode cX5_copy 95 = .ok (.aload_n 0, 1) := by decide +kernel
theorem dX5_copy_96 : decode cX5_copy 96 = .ok (.iconst 2, 1) := by decide +kernel
theorem dX5_copy_97 : decode cX5_copy 97 = .ok (.invokevirtual 85, 3) := by decide +kernel
theorem dX5_copy_100 : decode cX5_copy 100 = .ok (.ireturn, 1) := by decide +kernel
theorem dX5_copy_101 : decode cX5_copy 101 = .ok (.iconst 0, 1) := by decide +kernel
theorem dX5_copy_102 : decode cX5_copy 102 = .ok (.istore 6, 2) := by decide +kernel
theorem dX5_copy_104 : decode cX5_copy 104 = .ok (.iload 6, 2) := by decide +kernel
theorem dX5_copy_106 : decode cX5_copy 106 = .ok (.iload 5, 2) := by decide +kernel
theorem dX5_copy_108 : decode cX5_copy 108 = .ok (.if_icmp .ge 58, 3) := by decide +kernel
theorem dX5_copy_111 : decode cX5_copy 111 = .ok (.iload 4, 2) := by decide +kernel
theorem dX5_copy_113 : decode cX5_copy 113 = .ok (.iload_n 2, 1) := by decide +kernel
theorem dX5_copy_114 : decode cX5_copy 114 = .ok (.if_icmp .le 13, 3) := by decide +kernel
theorem dX5_copy_117 : decode cX5_copy 117 = .ok (.iload 5, 2) := by decide +kernel
theorem dX5_copy_119 : decode cX5_copy 119 = .ok (.iconst 1, 1) := by decide +kernel
theorem dX5_copy_120 : decode cX5_copy 120 = .ok (.isub, 1) := by decide +kernel
theorem dX5_copy_121 : decode cX5_copy 121 = .ok (.iload 6, 2) := by decide +kernel
theorem dX5_copy_123 : decode cX5_copy 123 = .ok (.isub, 1) := by decide +kernel
theorem dX5_copy_124 : decode cX5_copy 124 = .ok (.goto 5, 3) := by decide +kernel
theorem dX5_copy_127 : decode cX5_copy 127 = .ok (.iload 6, 2) := by decide +kernel
theorem dX5_copy_129 : decode cX5_copy 129 = .ok (.istore 7, 2) := by decide +kernel
theorem dX5_copy_131 : decode cX5_copy 131 = .ok (.aload_n 0, 1) := by decide +kernel
theorem dX5_copy_132 : decode cX5_copy 132 = .ok (.getfield 13, 3) := by decide +kernel
theorem dX5_copy_135 : decode cX5_copy 135 = .ok (.bipush 40, 2) := by decide +kernel
theorem dX5_copy_137 : decode cX5_copy 137 = .ok (.iload_n 3, 1) := by decide +kernel
theorem dX5_copy_138 : decode cX5_copy 138 = .ok (.imul, 1) := by decide +kernel
theorem dX5_copy_139 : decode cX5_copy 139 = .ok (.iload 4, 2) := by decide +kernel
theorem dX5_copy_141 : decode cX5_copy 141 = .ok (.iadd, 1) := by decide +kernel
theorem dX5_copy_142 : decode cX5_copy 142 = .ok (.iload 7, 2) := by decide +kernel
theorem dX5_copy_144 : decode cX5_copy 144 = .ok (.iadd, 1) := by decide +kernel
theorem dX5_copy_145 : decode cX5_copy 145 = .ok (.aload_n 0, 1) := by decide +kernel
theorem dX5_copy_146 : decode cX5_copy 146 = .ok (.getfield 13, 3) := by decide +kernel
theorem dX5_copy_149 : decode cX5_copy 149 = .ok (.bipush 40, 2) := by decide +kernel
theorem dX5_copy_151 : decode cX5_copy 151 = .ok (.iload_n 1, 1) := by decide +kernel
theorem dX5_copy_152 : decode cX5_copy 152 = .ok (.imul, 1) := by decide +kernel
theorem dX5_copy_153 : decode cX5_copy 153 = .ok (.iload_n 2, 1) := by decide +kernel
theorem dX5_copy_154 : decode cX5_copy 154 = .ok (.iadd, 1) := by decide +kernel
theorem dX5_copy_155 : decode cX5_copy 155 = .ok (.iload 7, 2) := by decide +kernel
theorem dX5_copy_157 : decode cX5_copy 157 = .ok (.iadd, 1) := by decide +kernel
theorem dX5_copy_158 : decode cX5_copy 158 = .ok (.iaload, 1) := by decide +kernel
theorem dX5_copy_159 : decode cX5_copy 159 = .ok (.iastore, 1) := by decide +kernel
theorem dX5_copy_160 : decode cX5_copy 160 = .ok (.iinc 6 1, 3) := by decide +kernel
theorem dX5_copy_163 : decode cX5_copy 163 = .ok (.goto (-59), 3) := by decide +kernel
theorem dX5_copy_166 : decode cX5_copy 166 = .ok (.iconst 1, 1) := by decide +kernel
theorem dX5_copy_167 : decode cX5_copy 167 = .ok (.ireturn, 1) := by decide +kernel
theorem dX5_mean_0 : decode cX5_mean 0 = .ok (.iload_n 1, 1) := by decide +kernel
theorem dX5_mean_1 : decode cX5_mean 1 = .ok (.invokestatic 81, 3) := by decide +kernel
theorem dX5_mean_4 : decode cX5_mean 4 = .ok (.ifCond .ne 5, 3) := by decide +kernel
theorem dX5_mean_7 : decode cX5_mean 7 = .ok (.iconst (-1), 1) := by decide +kernel
theorem dX5_mean_8 : decode cX5_mean 8 = .ok (.ireturn, 1) := by decide +kernel
theorem dX5_mean_9 : decode cX5_mean 9 = .ok (.aload_n 0, 1) := by decide +kernel
theorem dX5_mean_10 : decode cX5_mean 10 = .ok (.getfield 7, 3) := by decide +kernel
theorem dX5_mean_13 : decode cX5_mean 13 = .ok (.iload_n 1, 1) := by decide +kernel
theorem dX5_mean_14 : decode cX5_mean 14 = .ok (.iaload, 1) := by decide +kernel
theorem dX5_mean_15 : decode cX5_mean 15 = .ok (.ifCond .ge 9, 3) := by decide +kernel
theorem dX5_mean_18 : decode cX5_mean 18 = .ok (.aload_n 0, 1) := by decide +kernel
theorem dX5_mean_19 : decode cX5_mean 19 = .ok (.iconst 1, 1) := by decide +kernel
theorem dX5_mean_20 : decode cX5_mean 20 = .ok (.invokevirtual 85, 3) := by decide +kernel
theorem dX5_mean_23 : decode cX5_mean 23 = .ok (.ireturn, 1) := by decide +kernel
theorem dX5_mean_24 : decode cX5_mean 24 = .ok (.aload_n 0, 1) := by decide +kernel
theorem dX5_mean_25 : decode cX5_mean 25 = .ok (.getfield 7, 3) := by decide +kernel
theorem dX5_mean_28 : decode cX5_mean 28 = .ok (.iload_n 1, 1) := by decide +kernel
theorem dX5_mean_29 : decode cX5_mean 29 = .ok (.iaload, 1) := by decide +kernel
theorem dX5_mean_30 : decode cX5_mean 30 = .ok (.ifCond .ne 9, 3) := by decide +kernel
theorem dX5_mean_33 : decode cX5_mean 33 = .ok (.aload_n 0, 1) := by decide +kernel
theorem dX5_mean_34 : decode cX5_mean 34 = .ok (.iconst 4, 1) := by decide +kernel
theorem dX5_mean_35 : decode cX5_mean 35 = .ok (.invokevirtual 85, 3) := by decide +kernel
theorem dX5_mean_38 : decode cX5_mean 38 = .ok (.ireturn, 1) := by decide +kernel
theorem dX5_mean_39 : decode cX5_mean 39 = .ok (.lconst 0, 1) := by decide +kernel
theorem dX5_mean_40 : decode cX5_mean 40 = .ok (.lstore_n 2, 1) := by decide +kernel
theorem dX5_mean_41 : decode cX5_mean 41 = .ok (.iconst 0, 1) := by decide +kernel
theorem dX5_mean_42 : decode cX5_mean 42 = .ok (.istore 4, 2) := by decide +kernel
theorem dX5_mean_44 : decode cX5_mean 44 = .ok (.iload 4, 2) := by decide +kernel
theorem dX5_mean_46 : decode cX5_mean 46 = .ok (.aload_n 0, 1) := by decide +kernel
theorem dX5_mean_47 : decode cX5_mean 47 = .ok (.getfield 7, 3) := by decide +kernel
theorem dX5_mean_50 : decode cX5_mean 50 = .ok (.iload_n 1, 1) := by decide +kernel
theorem dX5_mean_51 : decode cX5_mean 51 = .ok (.iaload, 1) := by decide +kernel
theorem dX5_mean_52 : decode cX5_mean 52 = .ok (.if_icmp .ge 25, 3) := by decide +kernel
theorem dX5_mean_55 : decode cX5_mean 55 = .ok (.lload_n 2, 1) := by decide +kernel
theorem dX5_mean_56 : decode cX5_mean 56 = .ok (.aload_n 0, 1) := by decide +kernel
theorem dX5_mean_57 : decode cX5_mean 57 = .ok (.getfield 13, 3) := by decide +kernel
theorem dX5_mean_60 : decode cX5_mean 60 = .ok (.bipush 40, 2) := by decide +kernel
theorem dX5_mean_62 : decode cX5_mean 62 = .ok (.iload_n 1, 1) := by decide +kernel
theorem dX5_mean_63 : decode cX5_mean 63 = .ok (.imul, 1) := by decide +kernel
theorem dX5_mean_64 : decode cX5_mean 64 = .ok (.iload 4, 2) := by decide +kernel
theorem dX5_mean_66 : decode cX5_mean 66 = .ok (.iadd, 1) := by decide +kernel
theorem dX5_mean_67 : decode cX5_mean 67 = .ok (.iaload, 1) := by decide +kernel
theorem dX5_mean_68 : decode cX5_mean 68 = .ok (.i2l, 1) := by decide +kernel
theorem dX5_mean_69 : decode cX5_mean 69 = .ok (.ladd, 1) := by decide +kernel
theorem dX5_mean_70 : decode cX5_mean 70 = .ok (.lstore_n 2, 1) := by decide +kernel
theorem dX5_mean_71 : decode cX5_mean 71 = .ok (.iinc 4 1, 3) := by decide +kernel
theorem dX5_mean_74 : decode cX5_mean 74 = .ok (.goto (-30), 3) := by decide +kernel
theorem dX5_mean_77 : decode cX5_mean 77 = .ok (.aload_n 0, 1) := by decide +kernel
theorem dX5_mean_78 : decode cX5_mean 78 = .ok (.lload_n 2, 1) := by decide +kernel
theorem dX5_mean_79 : decode cX5_mean 79 = .ok (.aload_n 0, 1) := by decide +kernel
theorem dX5_mean_80 : decode cX5_mean 80 = .ok (.getfield 7, 3) := by decide +kernel
theorem dX5_mean_83 : decode cX5_mean 83 = .ok (.iload_n 1, 1) := by decide +kernel
theorem dX5_mean_84 : decode cX5_mean 84 = .ok (.iaload, 1) := by decide +kernel
theorem dX5_mean_85 : decode cX5_mean 85 = .ok (.i2l, 1) := by decide +kernel
theorem dX5_mean_86 : decode cX5_mean 86 = .ok (.ldiv, 1) := by decide +kernel
theorem dX5_mean_87 : decode cX5_mean 87 = .ok (.l2i, 1) := by decide +kernel
theorem dX5_mean_88 : decode cX5_mean 88 = .ok (.invokevirtual 89, 3) := by decide +kernel
theorem dX5_mean_91 : decode cX5_mean 91 = .ok (.ireturn, 1) := by decide +kernel
theorem dX5_text_0 : decode cX5_text 0 = .ok (.iload_n 1, 1) := by decide +kernel
theorem dX5_text_1 : decode cX5_text 1 = .ok (.invokestatic 92, 3) := by decide +kernel
theorem dX5_text_4 : decode cX5_text 4 = .ok (.ifCond .eq 9, 3) := by decide +kernel
theorem dX5_text_7 : decode cX5_text 7 = .ok (.iload_n 2, 1) := by decide +kernel
theorem dX5_text_8 : decode cX5_text 8 = .ok (.bipush 60, 2) := by decide +kernel
theorem dX5_text_10 : decode cX5_text 10 = .ok (.if_icmp .le 5, 3) := by decide +kernel
theorem dX5_text_13 : decode cX5_text 13 = .ok (.iconst (-1), 1) := by decide +kernel
theorem dX5_text_14 : decode cX5_text 14 = .ok (.ireturn, 1) := by decide +kernel
theorem dX5_text_15 : decode cX5_text 15 = .ok (.iload_n 2, 1) := by decide +kernel
theorem dX5_text_16 : decode cX5_text 16 = .ok (.ifCond .ge 9, 3) := by decide +kernel
theorem dX5_text_19 : decode cX5_text 19 = .ok (.aload_n 0, 1) := by decide +kernel
theorem dX5_text_20 : decode cX5_text 20 = .ok (.iconst 5, 1) := by decide +kernel
theorem dX5_text_21 : decode cX5_text 21 = .ok (.invokevirtual 85, 3) := by decide +kernel
theorem dX5_text_24 : decode cX5_text 24 = .ok (.ireturn, 1) := by decide +kernel
theorem dX5_text_25 : decode cX5_text 25 = .ok (.aload_n 0, 1) := by decide +kernel
theorem dX5_text_26 : decode cX5_text 26 = .ok (.getfield 16, 3) := by decide +kernel
theorem dX5_text_29 : decode cX5_text 29 = .ok (.iload_n 1, 1) := by decide +kernel
theorem dX5_text_30 : decode cX5_text 30 = .ok (.iload_n 2, 1) := by decide +kernel
theorem dX5_text_31 : decode cX5_text 31 = .ok (.iastore, 1) := by decide +kernel
theorem dX5_text_32 : decode cX5_text 32 = .ok (.iconst 0, 1) := by decide +kernel
theorem dX5_text_33 : decode cX5_text 33 = .ok (.istore_n 3, 1) := by decide +kernel
theorem dX5_text_34 : decode cX5_text 34 = .ok (.iload_n 3, 1) := by decide +kernel
theorem dX5_text_35 : decode cX5_text 35 = .ok (.bipush 60, 2) := by decide +kernel
theorem dX5_text_37 : decode cX5_text 37 = .ok (.if_icmp .ge 22, 3) := by decide +kernel
theorem dX5_text_40 : decode cX5_text 40 = .ok (.aload_n 0, 1) := by decide +kernel
theorem dX5_text_41 : decode cX5_text 41 = .ok (.getfield 19, 3) := by decide +kernel
theorem dX5_text_44 : decode cX5_text 44 = .ok (.bipush 60, 2) := by decide +kernel
theorem dX5_text_46 : decode cX5_text 46 = .ok (.iload_n 1, 1) := by decide +kernel
theorem dX5_text_47 : decode cX5_text 47 = .ok (.imul, 1) := by decide +kernel
theorem dX5_text_48 : decode cX5_text 48 = .ok (.iload_n 3, 1) := by decide +kernel
theorem dX5_text_49 : decode cX5_text 49 = .ok (.iadd, 1) := by decide +kernel
theorem dX5_text_50 : decode cX5_text 50 = .ok (.bipush 32, 2) := by decide +kernel
theorem dX5_text_52 : decode cX5_text 52 = .ok (.iastore, 1) := by decide +kernel
theorem dX5_text_53 : decode cX5_text 53 = .ok (.iinc 3 1, 3) := by decide +kernel
theorem dX5_text_56 : decode cX5_text 56 = .ok (.goto (-22), 3) := by decide +kernel
theorem dX5_text_59 : decode cX5_text 59 = .ok (.iload_n 2, 1) := by decide +kernel
theorem dX5_text_60 : decode cX5_text 60 = .ok (.ireturn, 1) := by decide +kernel
theorem dX5_put_0 : decode cX5_put 0 = .ok (.iload_n 1, 1) := by decide +kernel
theorem dX5_put_1 : decode cX5_put 1 = .ok (.invokestatic 92, 3) := by decide +kernel
theorem dX5_put_4 : decode cX5_put 4 = .ok (.ifCond .ne 5, 3) := by decide +kernel
theorem dX5_put_7 : decode cX5_put 7 = .ok (.iconst (-1), 1) := by decide +kernel
theorem dX5_put_8 : decode cX5_put 8 = .ok (.ireturn, 1) := by decide +kernel
theorem dX5_put_9 : decode cX5_put 9 = .ok (.aload_n 0, 1) := by decide +kernel
theorem dX5_put_10 : decode cX5_put 10 = .ok (.getfield 16, 3) := by decide +kernel
theorem dX5_put_13 : decode cX5_put 13 = .ok (.iload_n 1, 1) := by decide +kernel
theorem dX5_put_14 : decode cX5_put 14 = .ok (.iaload, 1) := by decide +kernel
theorem dX5_put_15 : decode cX5_put 15 = .ok (.ifCond .ge 9, 3) := by decide +kernel
theorem dX5_put_18 : decode cX5_put 18 = .ok (.aload_n 0, 1) := by decide +kernel
theorem dX5_put_19 : decode cX5_put 19 = .ok (.iconst 1, 1) := by decide +kernel
theorem dX5_put_20 : decode cX5_put 20 = .ok (.invokevirtual 85, 3) := by decide +kernel
theorem dX5_put_23 : decode cX5_put 23 = .ok (.ireturn, 1) := by decide +kernel
theorem dX5_put_24 : decode cX5_put 24 = .ok (.iload_n 2, 1) := by decide +kernel
theorem dX5_put_25 : decode cX5_put 25 = .ok (.i2l, 1) := by decide +kernel
theorem dX5_put_26 : decode cX5_put 26 = .ok (.lconst 0, 1) := by decide +kernel
theorem dX5_put_27 : decode cX5_put 27 = .ok (.aload_n 0, 1) := by decide +kernel
theorem dX5_put_28 : decode cX5_put 28 = .ok (.getfield 16, 3) := by decide +kernel
theorem dX5_put_31 : decode cX5_put 31 = .ok (.iload_n 1, 1) := by decide +kernel
theorem dX5_put_32 : decode cX5_put 32 = .ok (.iaload, 1) := by decide +kernel
theorem dX5_put_33 : decode cX5_put 33 = .ok (.iconst 1, 1) := by decide +kernel
theorem dX5_put_34 : decode cX5_put 34 = .ok (.isub, 1) := by decide +kernel
theorem dX5_put_35 : decode cX5_put 35 = .ok (.i2l, 1) := by decide +kernel
theorem dX5_put_36 : decode cX5_put 36 = .ok (.invokestatic 75, 3) := by decide +kernel
theorem dX5_put_39 : decode cX5_put 39 = .ok (.ifCond .ne 9, 3) := by decide +kernel
theorem dX5_put_42 : decode cX5_put 42 = .ok (.aload_n 0, 1) := by decide +kernel
theorem dX5_put_43 : decode cX5_put 43 = .ok (.iconst 2, 1) := by decide +kernel
theorem dX5_put_44 : decode cX5_put 44 = .ok (.invokevirtual 85, 3) := by decide +kernel
theorem dX5_put_47 : decode cX5_put 47 = .ok (.ireturn, 1) := by decide +kernel
theorem dX5_put_48 : decode cX5_put 48 = .ok (.aload_n 0, 1) := by decide +kernel
theorem dX5_put_49 : decode cX5_put 49 = .ok (.getfield 19, 3) := by decide +kernel
theorem dX5_put_52 : decode cX5_put 52 = .ok (.bipush 60, 2) := by decide +kernel
theorem dX5_put_54 : decode cX5_put 54 = .ok (.iload_n 1, 1) := by decide +kernel
theorem dX5_put_55 : decode cX5_put 55 = .ok (.imul, 1) := by decide +kernel
theorem dX5_put_56 : decode cX5_put 56 = .ok (.iload_n 2, 1) := by decide +kernel
theorem dX5_put_57 : decode cX5_put 57 = .ok (.iadd, 1) := by decide +kernel
theorem dX5_put_58 : decode cX5_put 58 = .ok (.iaload, 1) := by decide +kernel
