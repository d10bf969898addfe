theorem dX9_ask_67 : decode cX9_ask 67 = .ok (.aload_n 0, 1) := by decide +kernel
theorem dX9_ask_68 : decode cX9_ask 68 = .ok (.getfield 62, 3) := by decide +kernel
theorem dX9_ask_71 : decode cX9_ask 71 = .ok (.iload 5, 2) := by decide +kernel
theorem dX9_ask_73 : decode cX9_ask 73 = .ok (.iload_n 1, 1) := by decide +kernel
theorem dX9_ask_74 : decode cX9_ask 74 = .ok (.iload_n 2, 1) := by decide +kernel
theorem dX9_ask_75 : decode cX9_ask 75 = .ok (.aload_n 0, 1) := by decide +kernel
theorem dX9_ask_76 : decode cX9_ask 76 = .ok (.invokevirtual 179, 3) := by decide +kernel
theorem dX9_ask_79 : decode cX9_ask 79 = .ok (.invokestatic 303, 3) := by decide +kernel
theorem dX9_ask_82 : decode cX9_ask 82 = .ok (.istore 6, 2) := by decide +kernel
theorem dX9_ask_84 : decode cX9_ask 84 = .ok (.iload_n 3, 1) := by decide +kernel
theorem dX9_ask_85 : decode cX9_ask 85 = .ok (.iconst (-1), 1) := by decide +kernel
theorem dX9_ask_86 : decode cX9_ask 86 = .ok (.if_icmp .eq 10, 3) := by decide +kernel
theorem dX9_ask_89 : decode cX9_ask 89 = .ok (.iload 6, 2) := by decide +kernel
theorem dX9_ask_91 : decode cX9_ask 91 = .ok (.iload 4, 2) := by decide +kernel
theorem dX9_ask_93 : decode cX9_ask 93 = .ok (.if_icmp .ge 10, 3) := by decide +kernel
theorem dX9_ask_96 : decode cX9_ask 96 = .ok (.iload 5, 2) := by decide +kernel
theorem dX9_ask_98 : decode cX9_ask 98 = .ok (.istore_n 3, 1) := by decide +kernel
theorem dX9_ask_99 : decode cX9_ask 99 = .ok (.iload 6, 2) := by decide +kernel
theorem dX9_ask_101 : decode cX9_ask 101 = .ok (.istore 4, 2) := by decide +kernel
theorem dX9_ask_103 : decode cX9_ask 103 = .ok (.iinc 5 1, 3) := by decide +kernel
theorem dX9_ask_106 : decode cX9_ask 106 = .ok (.goto (-51), 3) := by decide +kernel
theorem dX9_ask_109 : decode cX9_ask 109 = .ok (.iload_n 3, 1) := by decide +kernel
theorem dX9_ask_110 : decode cX9_ask 110 = .ok (.ireturn, 1) := by decide +kernel
theorem dX9_heard_0 : decode cX9_heard 0 = .ok (.aload_n 0, 1) := by decide +kernel
theorem dX9_heard_1 : decode cX9_heard 1 = .ok (.getfield 55, 3) := by decide +kernel
theorem dX9_heard_4 : decode cX9_heard 4 = .ok (.iload_n 1, 1) := by decide +kernel
theorem dX9_heard_5 : decode cX9_heard 5 = .ok (.invokevirtual 160, 3) := by decide +kernel
theorem dX9_heard_8 : decode cX9_heard 8 = .ok (.ifCond .eq 17, 3) := by decide +kernel
theorem dX9_heard_11 : decode cX9_heard 11 = .ok (.iload_n 2, 1) := by decide +kernel
theorem dX9_heard_12 : decode cX9_heard 12 = .ok (.aload_n 0, 1) := by decide +kernel
theorem dX9_heard_13 : decode cX9_heard 13 = .ok (.getfield 55, 3) := by decide +kernel
theorem dX9_heard_16 : decode cX9_heard 16 = .ok (.invokevirtual 260, 3) := by decide +kernel
theorem dX9_heard_19 : decode cX9_heard 19 = .ok (.iconst (-1), 1) := by decide +kernel
theorem dX9_heard_20 : decode cX9_heard 20 = .ok (.ixor, 1) := by decide +kernel
theorem dX9_heard_21 : decode cX9_heard 21 = .ok (.iand, 1) := by decide +kernel
theorem dX9_heard_22 : decode cX9_heard 22 = .ok (.ifCond .eq 5, 3) := by decide +kernel
theorem dX9_heard_25 : decode cX9_heard 25 = .ok (.iconst (-1), 1) := by decide +kernel
theorem dX9_heard_26 : decode cX9_heard 26 = .ok (.ireturn, 1) := by decide +kernel
theorem dX9_heard_27 : decode cX9_heard 27 = .ok (.aload_n 0, 1) := by decide +kernel
theorem dX9_heard_28 : decode cX9_heard 28 = .ok (.getfield 75, 3) := by decide +kernel
theorem dX9_heard_31 : decode cX9_heard 31 = .ok (.iload_n 1, 1) := by decide +kernel
theorem dX9_heard_32 : decode cX9_heard 32 = .ok (.iload_n 2, 1) := by decide +kernel
theorem dX9_heard_33 : decode cX9_heard 33 = .ok (.invokevirtual 307, 3) := by decide +kernel
theorem dX9_heard_36 : decode cX9_heard 36 = .ok (.ireturn, 1) := by decide +kernel
theorem dX9_game_0 : decode cX9_game 0 = .ok (.aload_n 0, 1) := by decide +kernel
theorem dX9_game_1 : decode cX9_game 1 = .ok (.getfield 55, 3) := by decide +kernel
theorem dX9_game_4 : decode cX9_game 4 = .ok (.iload_n 1, 1) := by decide +kernel
theorem dX9_game_5 : decode cX9_game 5 = .ok (.invokevirtual 160, 3) := by decide +kernel
theorem dX9_game_8 : decode cX9_game 8 = .ok (.ifCond .eq 45, 3) := by decide +kernel
theorem dX9_game_11 : decode cX9_game 11 = .ok (.aload_n 0, 1) := by decide +kernel
theorem dX9_game_12 : decode cX9_game 12 = .ok (.getfield 55, 3) := by decide +kernel
theorem dX9_game_15 : decode cX9_game 15 = .ok (.iload_n 2, 1) := by decide +kernel
theorem dX9_game_16 : decode cX9_game 16 = .ok (.invokevirtual 160, 3) := by decide +kernel
theorem dX9_game_19 : decode cX9_game 19 = .ok (.ifCond .eq 34, 3) := by decide +kernel
theorem dX9_game_22 : decode cX9_game 22 = .ok (.iload_n 1, 1) := by decide +kernel
theorem dX9_game_23 : decode cX9_game 23 = .ok (.iload_n 2, 1) := by decide +kernel
theorem dX9_game_24 : decode cX9_game 24 = .ok (.if_icmp .eq 29, 3) := by decide +kernel
theorem dX9_game_27 : decode cX9_game 27 = .ok (.iload_n 3, 1) := by decide +kernel
theorem dX9_game_28 : decode cX9_game 28 = .ok (.invokestatic 310, 3) := by decide +kernel
theorem dX9_game_31 : decode cX9_game 31 = .ok (.ifCond .eq 22, 3) := by decide +kernel
theorem dX9_game_34 : decode cX9_game 34 = .ok (.iload 4, 2) := by decide +kernel
theorem dX9_game_36 : decode cX9_game 36 = .ok (.invokestatic 310, 3) := by decide +kernel
theorem dX9_game_39 : decode cX9_game 39 = .ok (.ifCond .eq 14, 3) := by decide +kernel
theorem dX9_game_42 : decode cX9_game 42 = .ok (.iload 5, 2) := by decide +kernel
theorem dX9_game_44 : decode cX9_game 44 = .ok (.ifCond .lt 9, 3) := by decide +kernel
theorem dX9_game_47 : decode cX9_game 47 = .ok (.iload 5, 2) := by decide +kernel
theorem dX9_game_49 : decode cX9_game 49 = .ok (.iconst 1, 1) := by decide +kernel
theorem dX9_game_50 : decode cX9_game 50 = .ok (.if_icmp .le 7, 3) := by decide +kernel
theorem dX9_game_53 : decode cX9_game 53 = .ok (.ldc_w 313, 3) := by decide +kernel
theorem dX9_game_56 : decode cX9_game 56 = .ok (.ireturn, 1) := by decide +kernel
theorem dX9_game_57 : decode cX9_game 57 = .ok (.aload_n 0, 1) := by decide +kernel
theorem dX9_game_58 : decode cX9_game 58 = .ok (.getfield 62, 3) := by decide +kernel
theorem dX9_game_61 : decode cX9_game 61 = .ok (.aload_n 0, 1) := by decide +kernel
theorem dX9_game_62 : decode cX9_game 62 = .ok (.getfield 55, 3) := by decide +kernel
theorem dX9_game_65 : decode cX9_game 65 = .ok (.invokevirtual 123, 3) := by decide +kernel
theorem dX9_game_68 : decode cX9_game 68 = .ok (.aload_n 0, 1) := by decide +kernel
theorem dX9_game_69 : decode cX9_game 69 = .ok (.getfield 89, 3) := by decide +kernel
theorem dX9_game_72 : decode cX9_game 72 = .ok (.aload_n 0, 1) := by decide +kernel
theorem dX9_game_73 : decode cX9_game 73 = .ok (.getfield 62, 3) := by decide +kernel
theorem dX9_game_76 : decode cX9_game 76 = .ok (.iload_n 1, 1) := by decide +kernel
theorem dX9_game_77 : decode cX9_game 77 = .ok (.iload_n 2, 1) := by decide +kernel
theorem dX9_game_78 : decode cX9_game 78 = .ok (.aload_n 0, 1) := by decide +kernel
theorem dX9_game_79 : decode cX9_game 79 = .ok (.invokevirtual 179, 3) := by decide +kernel
theorem dX9_game_82 : decode cX9_game 82 = .ok (.invokevirtual 314, 3) := by decide +kernel
theorem dX9_game_85 : decode cX9_game 85 = .ok (.iload 5, 2) := by decide +kernel
theorem dX9_game_87 : decode cX9_game 87 = .ok (.ifCond .ne 16, 3) := by decide +kernel
theorem dX9_game_90 : decode cX9_game 90 = .ok (.aload_n 0, 1) := by decide +kernel
theorem dX9_game_91 : decode cX9_game 91 = .ok (.getfield 89, 3) := by decide +kernel
theorem dX9_game_94 : decode cX9_game 94 = .ok (.iload_n 3, 1) := by decide +kernel
theorem dX9_game_95 : decode cX9_game 95 = .ok (.iload 4, 2) := by decide +kernel
theorem dX9_game_97 : decode cX9_game 97 = .ok (.invokevirtual 318, 3) := by decide +kernel
theorem dX9_game_100 : decode cX9_game 100 = .ok (.goto 13, 3) := by decide +kernel
theorem dX9_game_103 : decode cX9_game 103 = .ok (.aload_n 0, 1) := by decide +kernel
theorem dX9_game_104 : decode cX9_game 104 = .ok (.getfield 89, 3) := by decide +kernel
theorem dX9_game_107 : decode cX9_game 107 = .ok (.iload_n 3, 1) := by decide +kernel
theorem dX9_game_108 : decode cX9_game 108 = .ok (.iload 4, 2) := by decide +kernel
theorem dX9_game_110 : decode cX9_game 110 = .ok (.invokevirtual 321, 3) := by decide +kernel
theorem dX9_game_113 : decode cX9_game 113 = .ok (.ireturn, 1) := by decide +kernel
theorem dX9_rests_0 : decode cX9_rests 0 = .ok (.aload_n 0, 1) := by decide +kernel
theorem dX9_rests_1 : decode cX9_rests 1 = .ok (.getfield 55, 3) := by decide +kernel
theorem dX9_rests_4 : decode cX9_rests 4 = .ok (.iload_n 1, 1) := by decide +kernel
theorem dX9_rests_5 : decode cX9_rests 5 = .ok (.invokevirtual 160, 3) := by decide +kernel
theorem dX9_rests_8 : decode cX9_rests 8 = .ok (.ifCond .eq 19, 3) := by decide +kernel
theorem dX9_rests_11 : decode cX9_rests 11 = .ok (.aload_n 0, 1) := by decide +kernel
theorem dX9_rests_12 : decode cX9_rests 12 = .ok (.getfield 55, 3) := by decide +kernel
theorem dX9_rests_15 : decode cX9_rests 15 = .ok (.iload_n 2, 1) := by decide +kernel
theorem dX9_rests_16 : decode cX9_rests 16 = .ok (.invokevirtual 160, 3) := by decide +kernel
theorem dX9_rests_19 : decode cX9_rests 19 = .ok (.ifCond .eq 8, 3) := by decide +kernel
theorem dX9_rests_22 : decode cX9_rests 22 = .ok (.iload_n 1, 1) := by decide +kernel
theorem dX9_rests_23 : decode cX9_rests 23 = .ok (.iload_n 2, 1) := by decide +kernel
theorem dX9_rests_24 : decode cX9_rests 24 = .ok (.if_icmp .ne 5, 3) := by decide +kernel
theorem dX9_rests_27 : decode cX9_rests 27 = .ok (.iconst (-1), 1) := by decide +kernel
theorem dX9_rests_28 : decode cX9_rests 28 = .ok (.ireturn, 1) := by decide +kernel
theorem dX9_rests_29 : decode cX9_rests 29 = .ok (.aload_n 0, 1) := by decide +kernel
theorem dX9_rests_30 : decode cX9_rests 30 = .ok (.getfield 62, 3) := by decide +kernel
theorem dX9_rests_33 : decode cX9_rests 33 = .ok (.aload_n 0, 1) := by decide +kernel
theorem dX9_rests_34 : decode cX9_rests 34 = .ok (.getfield 55, 3) := by decide +kernel
theorem dX9_rests_37 : decode cX9_rests 37 = .ok (.invokevirtual 123, 3) := by decide +kernel
theorem dX9_rests_40 : decode cX9_rests 40 = .ok (.aload_n 0, 1) := by decide +kernel
theorem dX9_rests_41 : decode cX9_rests 41 = .ok (.getfield 89, 3) := by decide +kernel
theorem dX9_rests_44 : decode cX9_rests 44 = .ok (.aload_n 0, 1) := by decide +kernel
theorem dX9_rests_45 : decode cX9_rests 45 = .ok (.getfield 62, 3) := by decide +kernel
theorem dX9_rests_48 : decode cX9_rests 48 = .ok (.iload_n 1, 1) := by decide +kernel
theorem dX9_rests_49 : decode cX9_rests 49 = .ok (.iload_n 2, 1) := by decide +kernel
theorem dX9_rests_50 : decode cX9_rests 50 = .ok (.aload_n 0, 1) := by decide +kernel
theorem dX9_rests_51 : decode cX9_rests 51 = .ok (.invokevirtual 179, 3) := by decide +kernel
theorem dX9_rests_54 : decode cX9_rests 54 = .ok (.invokevirtual 314, 3) := by decide +kernel
theorem dX9_rests_57 : decode cX9_rests 57 = .ok (.aload_n 0, 1) := by decide +kernel
theorem dX9_rests_58 : decode cX9_rests 58 = .ok (.getfield 89, 3) := by decide +kernel
theorem dX9_rests_61 : decode cX9_rests 61 = .ok (.iload_n 3, 1) := by decide +kernel
theorem dX9_rests_62 : decode cX9_rests 62 = .ok (.invokevirtual 324, 3) := by decide +kernel
theorem dX9_rests_65 : decode cX9_rests 65 = .ok (.ireturn, 1) := by decide +kernel
theorem dX9_odds_0 : decode cX9_odds 0 = .ok (.aload_n 0, 1) := by decide +kernel
theorem dX9_odds_1 : decode cX9_odds 1 = .ok (.getfield 55, 3) := by decide +kernel
theorem dX9_odds_4 : decode cX9_odds 4 = .ok (.iload_n 1, 1) := by decide +kernel
theorem dX9_odds_5 : decode cX9_odds 5 = .ok (.invokevirtual 153, 3) := by decide +kernel
theorem dX9_odds_8 : decode cX9_odds 8 = .ok (.ifCond .eq 23, 3) := by decide +kernel
theorem dX9_odds_11 : decode cX9_odds 11 = .ok (.iload_n 2, 1) := by decide +kernel
theorem dX9_odds_12 : decode cX9_odds 12 = .ok (.ifCond .lt 19, 3) := by decide +kernel
theorem dX9_odds_15 : decode cX9_odds 15 = .ok (.iload_n 2, 1) := by decide +kernel
theorem dX9_odds_16 : decode cX9_odds 16 = .ok (.bipush 8, 2) := by decide +kernel
theorem dX9_odds_18 : decode cX9_odds 18 = .ok (.if_icmp .gt 13, 3) := by decide +kernel
theorem dX9_odds_21 : decode cX9_odds 21 = .ok (.iload_n 3, 1) := by decide +kernel
theorem dX9_odds_22 : decode cX9_odds 22 = .ok (.ifCond .lt 9, 3) := by decide +kernel
theorem dX9_odds_25 : decode cX9_odds 25 = .ok (.iload_n 3, 1) := by decide +kernel
theorem dX9_odds_26 : decode cX9_odds 26 = .ok (.bipush 100, 2) := by decide +kernel
theorem dX9_odds_28 : decode cX9_odds 28 = .ok (.if_icmp .le 5, 3) := by decide +kernel
theorem dX9_odds_31 : decode cX9_odds 31 = .ok (.iconst (-1), 1) := by decide +kernel
theorem dX9_odds_32 : decode cX9_odds 32 = .ok (.ireturn, 1) := by decide +kernel
theorem dX9_odds_33 : decode cX9_odds 33 = .ok (.ldc2_w 327, 3) := by decide +kernel
theorem dX9_odds_36 : decode cX9_odds 36 = .ok (.aload_n 0, 1) := by decide +kernel
theorem dX9_odds_37 : decode cX9_odds 37 = .ok (.getfield 55, 3) := by decide +kernel
theorem dX9_odds_40 : decode cX9_odds 40 = .ok (.getfield 150, 3) := by decide +kernel
theorem dX9_odds_43 : decode cX9_odds 43 = .ok (.iload_n 2, 1) := by decide +kernel
theorem dX9_odds_44 : decode cX9_odds 44 = .ok (.iload_n 3, 1) := by decide +kernel
theorem dX9_odds_45 : decode cX9_odds 45 = .ok (.aload_n 0, 1) := by decide +kernel
theorem dX9_odds_46 : decode cX9_odds 46 = .ok (.iload_n 1, 1) := by decide +kernel
theorem dX9_odds_47 : decode cX9_odds 47 = .ok (.iload_n 2, 1) := by decide +kernel
theorem dX9_odds_48 : decode cX9_odds 48 = .ok (.invokevirtual 329, 3) := by decide +kernel
theorem dX9_odds_51 : decode cX9_odds 51 = .ok (.invokestatic 332, 3) := by decide +kernel
theorem dX9_odds_54 : decode cX9_odds 54 = .ok (.l2i, 1) := by decide +kernel
theorem dX9_odds_55 : decode cX9_odds 55 = .ok (.ireturn, 1) := by decide +kernel
theorem dX9_fogsThatHide_0 : decode cX9_fogsThatHide 0 = .ok (.aload_n 0, 1) := by decide +kernel
theorem dX9_fogsThatHide_1 : decode cX9_fogsThatHide 1 = .ok (.getfield 62, 3) := by decide +kernel
theorem dX9_fogsThatHide_4 : decode cX9_fogsThatHide 4 = .ok (.aload_n 0, 1) := by decide +kernel
theorem dX9_fogsThatHide_5 : decode cX9_fogsThatHide 5 = .ok (.getfield 55, 3) := by decide +kernel
theorem dX9_fogsThatHide_8 : decode cX9_fogsThatHide 8 = .ok (.invokevirtual 123, 3) := by decide +kernel
theorem dX9_fogsThatHide_11 : decode cX9_fogsThatHide 11 = .ok (.aload_n 0, 1) := by decide +kernel
theorem dX9_fogsThatHide_12 : decode cX9_fogsThatHide 12 = .ok (.getfield 62, 3) := by decide +kernel
theorem dX9_fogsThatHide_15 : decode cX9_fogsThatHide 15 = .ok (.aload_n 0, 1) := by decide +kernel
theorem dX9_fogsThatHide_16 : decode cX9_fogsThatHide 16 = .ok (.getfield 55, 3) := by decide +kernel
theorem dX9_fogsThatHide_19 : decode cX9_fogsThatHide 19 = .ok (.getfield 200, 3) := by decide +kernel
theorem dX9_fogsThatHide_22 : decode cX9_fogsThatHide 22 = .ok (.iload_n 2, 1) := by decide +kernel
theorem dX9_fogsThatHide_23 : decode cX9_fogsThatHide 23 = .ok (.iadd, 1) := by decide +kernel
theorem dX9_fogsThatHide_24 : decode cX9_fogsThatHide 24 = .ok (.putfield 200, 3) := by decide +kernel
theorem dX9_fogsThatHide_27 : decode cX9_fogsThatHide 27 = .ok (.iconst 0, 1) := by decide +kernel
theorem dX9_fogsThatHide_28 : decode cX9_fogsThatHide 28 = .ok (.istore_n 3, 1) := by decide +kernel
theorem dX9_fogsThatHide_29 : decode cX9_fogsThatHide 29 = .ok (.iconst 0, 1) := by decide +kernel
theorem dX9_fogsThatHide_30 : decode cX9_fogsThatHide 30 = .ok (.aload_n 0, 1) := by decide +kernel
theorem dX9_fogsThatHide_31 : decode cX9_fogsThatHide 31 = .ok (.getfield 55, 3) := by decide +kernel
theorem dX9_fogsThatHide_34 : decode cX9_fogsThatHide 34 = .ok (.getfield 150, 3) := by decide +kernel
theorem dX9_fogsThatHide_37 : decode cX9_fogsThatHide 37 = .ok (.iload_n 2, 1) := by decide +kernel
theorem dX9_fogsThatHide_38 : decode cX9_fogsThatHide 38 = .ok (.isub, 1) := by decide +kernel
theorem dX9_fogsThatHide_39 : decode cX9_fogsThatHide 39 = .ok (.invokestatic 240, 3) := by decide +kernel
theorem dX9_fogsThatHide_42 : decode cX9_fogsThatHide 42 = .ok (.istore 4, 2) := by decide +kernel
theorem dX9_fogsThatHide_44 : decode cX9_fogsThatHide 44 = .ok (.iload 4, 2) := by decide +kernel
theorem dX9_fogsThatHide_46 : decode cX9_fogsThatHide 46 = .ok (.bipush 9, 2) := by decide +kernel
theorem dX9_fogsThatHide_48 : decode cX9_fogsThatHide 48 = .ok (.aload_n 0, 1) := by decide +kernel
theorem dX9_fogsThatHide_49 : decode cX9_fogsThatHide 49 = .ok (.getfield 55, 3) := by decide +kernel
theorem dX9_fogsThatHide_52 : decode cX9_fogsThatHide 52 = .ok (.getfield 150, 3) := by decide +kernel
theorem dX9_fogsThatHide_55 : decode cX9_fogsThatHide 55 = .ok (.iload_n 2, 1) := by decide +kernel
theorem dX9_fogsThatHide_56 : decode cX9_fogsThatHide 56 = .ok (.iadd, 1) := by decide +kernel
theorem dX9_fogsThatHide_57 : decode cX9_fogsThatHide 57 = .ok (.invokestatic 230, 3) := by decide +kernel
theorem dX9_fogsThatHide_60 : decode cX9_fogsThatHide 60 = .ok (.if_icmp .gt 40, 3) := by decide +kernel
theorem dX9_fogsThatHide_63 : decode cX9_fogsThatHide 63 = .ok (.aload_n 0, 1) := by decide +kernel
theorem dX9_fogsThatHide_64 : decode cX9_fogsThatHide 64 = .ok (.getfield 62, 3) := by decide +kernel
theorem dX9_fogsThatHide_67 : decode cX9_fogsThatHide 67 = .ok (.iload 4, 2) := by decide +kernel
theorem dX9_fogsThatHide_69 : decode cX9_fogsThatHide 69 = .ok (.putfield 150, 3) := by decide +kernel
theorem dX9_fogsThatHide_72 : decode cX9_fogsThatHide 72 = .ok (.aload_n 0, 1) := by decide +kernel
theorem dX9_fogsThatHide_73 : decode cX9_fogsThatHide 73 = .ok (.getfield 62, 3) := by decide +kernel
theorem dX9_fogsThatHide_76 : decode cX9_fogsThatHide 76 = .ok (.iload_n 1, 1) := by decide +kernel
theorem dX9_fogsThatHide_77 : decode cX9_fogsThatHide 77 = .ok (.aload_n 0, 1) := by decide +kernel
theorem dX9_fogsThatHide_78 : decode cX9_fogsThatHide 78 = .ok (.invokevirtual 179, 3) := by decide +kernel
theorem dX9_fogsThatHide_81 : decode cX9_fogsThatHide 81 = .ok (.invokevirtual 336, 3) := by decide +kernel
theorem dX9_fogsThatHide_84 : decode cX9_fogsThatHide 84 = .ok (.ifCond .ne 10, 3) := by decide +kernel
theorem dX9_fogsThatHide_87 : decode cX9_fogsThatHide 87 = .ok (.iload_n 3, 1) := by decide +kernel
theorem dX9_fogsThatHide_88 : decode cX9_fogsThatHide 88 = .ok (.iconst 1, 1) := by decide +kernel
theorem dX9_fogsThatHide_89 : decode cX9_fogsThatHide 89 = .ok (.iload 4, 2) := by decide +kernel
theorem dX9_fogsThatHide_91 : decode cX9_fogsThatHide 91 = .ok (.ishl, 1) := by decide +kernel
theorem dX9_fogsThatHide_92 : decode cX9_fogsThatHide 92 = .ok (.ior, 1) := by decide +kernel
theorem dX9_fogsThatHide_93 : decode cX9_fogsThatHide 93 = .ok (.istore_n 3, 1) := by decide +kernel
theorem dX9_fogsThatHide_94 : decode cX9_fogsThatHide 94 = .ok (.iinc 4 1, 3) := by decide +kernel
theorem dX9_fogsThatHide_97 : decode cX9_fogsThatHide 97 = .ok (.goto (-53), 3) := by decide +kernel
theorem dX9_fogsThatHide_100 : decode cX9_fogsThatHide 100 = .ok (.iload_n 3, 1) := by decide +kernel
theorem dX9_fogsThatHide_101 : decode cX9_fogsThatHide 101 = .ok (.ireturn, 1) := by decide +kernel
theorem dX9_partsHid_0 : decode cX9_partsHid 0 = .ok (.iload_n 3, 1) := by decide +kernel
theorem dX9_partsHid_1 : decode cX9_partsHid 1 = .ok (.ifCond .le 15, 3) := by decide +kernel
theorem dX9_partsHid_4 : decode cX9_partsHid 4 = .ok (.iload_n 3, 1) := by decide +kernel
theorem dX9_partsHid_5 : decode cX9_partsHid 5 = .ok (.bipush 8, 2) := by decide +kernel
theorem dX9_partsHid_7 : decode cX9_partsHid 7 = .ok (.if_icmp .gt 9, 3) := by decide +kernel
theorem dX9_partsHid_10 : decode cX9_partsHid 10 = .ok (.lload_n 0, 1) := by decide +kernel
theorem dX9_partsHid_11 : decode cX9_partsHid 11 = .ok (.lconst 0, 1) := by decide +kernel
theorem dX9_partsHid_12 : decode cX9_partsHid 12 = .ok (.lcmp, 1) := by decide +kernel
theorem dX9_partsHid_13 : decode cX9_partsHid 13 = .ok (.ifCond .gt 19, 3) := by decide +kernel
theorem dX9_partsHid_16 : decode cX9_partsHid 16 = .ok (.iload 5, 2) := by decide +kernel
theorem dX9_partsHid_18 : decode cX9_partsHid 18 = .ok (.iload_n 2, 1) := by decide +kernel
theorem dX9_partsHid_19 : decode cX9_partsHid 19 = .ok (.ishr, 1) := by decide +kernel
theorem dX9_partsHid_20 : decode cX9_partsHid 20 = .ok (.iconst 1, 1) := by decide +kernel
theorem dX9_partsHid_21 : decode cX9_partsHid 21 = .ok (.iand, 1) := by decide +kernel
theorem dX9_partsHid_22 : decode cX9_partsHid 22 = .ok (.iconst 1, 1) := by decide +kernel
theorem dX9_partsHid_23 : decode cX9_partsHid 23 = .ok (.if_icmp .ne 7, 3) := by decide +kernel
theorem dX9_partsHid_26 : decode cX9_partsHid 26 = .ok (.lload_n 0, 1) := by decide +kernel
theorem dX9_partsHid_27 : decode cX9_partsHid 27 = .ok (.goto 4, 3) := by decide +kernel
theorem dX9_partsHid_30 : decode cX9_partsHid 30 = .ok (.lconst 0, 1) := by decide +kernel
theorem dX9_partsHid_31 : decode cX9_partsHid 31 = .ok (.lreturn, 1) := by decide +kernel
theorem dX9_partsHid_32 : decode cX9_partsHid 32 = .ok (.lload_n 0, 1) := by decide +kernel
theorem dX9_partsHid_33 : decode cX9_partsHid 33 = .ok (.iload 4, 2) := by decide +kernel
theorem dX9_partsHid_35 : decode cX9_partsHid 35 = .ok (.i2l, 1) := by decide +kernel
theorem dX9_partsHid_36 : decode cX9_partsHid 36 = .ok (.lmul, 1) := by decide +kernel
theorem dX9_partsHid_37 : decode cX9_partsHid 37 = .ok (.ldc2_w 340, 3) := by decide +kernel
theorem dX9_partsHid_40 : decode cX9_partsHid 40 = .ok (.ldiv, 1) := by decide +kernel
theorem dX9_partsHid_41 : decode cX9_partsHid 41 = .ok (.lstore 6, 2) := by decide +kernel
theorem dX9_partsHid_43 : decode cX9_partsHid 43 = .ok (.lload 6, 2) := by decide +kernel
theorem dX9_partsHid_45 : decode cX9_partsHid 45 = .ok (.bipush 9, 2) := by decide +kernel
theorem dX9_partsHid_47 : decode cX9_partsHid 47 = .ok (.iload_n 2, 1) := by decide +kernel
theorem dX9_partsHid_48 : decode cX9_partsHid 48 = .ok (.iconst 1, 1) := by decide +kernel
theorem dX9_partsHid_49 : decode cX9_partsHid 49 = .ok (.iadd, 1) := by decide +kernel
theorem dX9_partsHid_50 : decode cX9_partsHid 50 = .ok (.invokestatic 230, 3) := by decide +kernel
theorem dX9_partsHid_53 : decode cX9_partsHid 53 = .ok (.iload_n 3, 1) := by decide +kernel
theorem dX9_partsHid_54 : decode cX9_partsHid 54 = .ok (.iconst 1, 1) := by decide +kernel
theorem dX9_partsHid_55 : decode cX9_partsHid 55 = .ok (.isub, 1) := by decide +kernel
theorem dX9_partsHid_56 : decode cX9_partsHid 56 = .ok (.iload 4, 2) := by decide +kernel
theorem dX9_partsHid_58 : decode cX9_partsHid 58 = .ok (.iload 5, 2) := by decide +kernel
theorem dX9_partsHid_60 : decode cX9_partsHid 60 = .ok (.invokestatic 332, 3) := by decide +kernel
theorem dX9_partsHid_63 : decode cX9_partsHid 63 = .ok (.lload_n 0, 1) := by decide +kernel
theorem dX9_partsHid_64 : decode cX9_partsHid 64 = .ok (.lload 6, 2) := by decide +kernel
theorem dX9_partsHid_66 : decode cX9_partsHid 66 = .ok (.lsub, 1) := by decide +kernel
theorem dX9_partsHid_67 : decode cX9_partsHid 67 = .ok (.iconst 0, 1) := by decide +kernel
theorem dX9_partsHid_68 : decode cX9_partsHid 68 = .ok (.iload_n 2, 1) := by decide +kernel
theorem dX9_partsHid_69 : decode cX9_partsHid 69 = .ok (.iconst 1, 1) := by decide +kernel
theorem dX9_partsHid_70 : decode cX9_partsHid 70 = .ok (.isub, 1) := by decide +kernel
theorem dX9_partsHid_71 : decode cX9_partsHid 71 = .ok (.invokestatic 240, 3) := by decide +kernel
theorem dX9_partsHid_74 : decode cX9_partsHid 74 = .ok (.iload_n 3, 1) := by decide +kernel
theorem dX9_partsHid_75 : decode cX9_partsHid 75 = .ok (.iconst 1, 1) := by decide +kernel
theorem dX9_partsHid_76 : decode cX9_partsHid 76 = .ok (.isub, 1) := by decide +kernel
theorem dX9_partsHid_77 : decode cX9_partsHid 77 = .ok (.iload 4, 2) := by decide +kernel
theorem dX9_partsHid_79 : decode cX9_partsHid 79 = .ok (.iload 5, 2) := by decide +kernel
theorem dX9_partsHid_81 : decode cX9_partsHid 81 = .ok (.invokestatic 332, 3) := by decide +kernel
theorem dX9_partsHid_84 : decode cX9_partsHid 84 = .ok (.ladd, 1) := by decide +kernel
theorem dX9_partsHid_85 : decode cX9_partsHid 85 = .ok (.lreturn, 1) := by decide +kernel
theorem dX9_shares_0 : decode cX9_shares 0 = .ok (.aload_n 0, 1) := by decide +kernel
theorem dX9_shares_1 : decode cX9_shares 1 = .ok (.getfield 55, 3) := by decide +kernel
theorem dX9_shares_4 : decode cX9_shares 4 = .ok (.iload_n 1, 1) := by decide +kernel
theorem dX9_shares_5 : decode cX9_shares 5 = .ok (.invokevirtual 160, 3) := by decide +kernel
theorem dX9_shares_8 : decode cX9_shares 8 = .ok (.ifCond .eq 14, 3) := by decide +kernel
theorem dX9_shares_11 : decode cX9_shares 11 = .ok (.iload_n 2, 1) := by decide +kernel
theorem dX9_shares_12 : decode cX9_shares 12 = .ok (.ifCond .lt 10, 3) := by decide +kernel
theorem dX9_shares_15 : decode cX9_shares 15 = .ok (.iload_n 2, 1) := by decide +kernel
theorem dX9_shares_16 : decode cX9_shares 16 = .ok (.sipush 999, 3) := by decide +kernel
theorem dX9_shares_19 : decode cX9_shares 19 = .ok (.if_icmp .le 5, 3) := by decide +kernel
theorem dX9_shares_22 : decode cX9_shares 22 = .ok (.iconst (-1), 1) := by decide +kernel
theorem dX9_shares_23 : decode cX9_shares 23 = .ok (.ireturn, 1) := by decide +kernel
theorem dX9_shares_24 : decode cX9_shares 24 = .ok (.aload_n 0, 1) := by decide +kernel
theorem dX9_shares_25 : decode cX9_shares 25 = .ok (.getfield 55, 3) := by decide +kernel
theorem dX9_shares_28 : decode cX9_shares 28 = .ok (.iload_n 1, 1) := by decide +kernel
theorem dX9_shares_29 : decode cX9_shares 29 = .ok (.aload_n 0, 1) := by decide +kernel
theorem dX9_shares_30 : decode cX9_shares 30 = .ok (.invokevirtual 179, 3) := by decide +kernel
theorem dX9_shares_33 : decode cX9_shares 33 = .ok (.invokevirtual 189, 3) := by decide +kernel
theorem dX9_shares_36 : decode cX9_shares 36 = .ok (.invokestatic 192, 3) := by decide +kernel
theorem dX9_shares_39 : decode cX9_shares 39 = .ok (.istore_n 3, 1) := by decide +kernel
theorem dX9_shares_40 : decode cX9_shares 40 = .ok (.iconst 0, 1) := by decide +kernel
theorem dX9_shares_41 : decode cX9_shares 41 = .ok (.istore 4, 2) := by decide +kernel
theorem dX9_shares_43 : decode cX9_shares 43 = .ok (.iconst 0, 1) := by decide +kernel
theorem dX9_shares_44 : decode cX9_shares 44 = .ok (.istore 5, 2) := by decide +kernel
theorem dX9_shares_46 : decode cX9_shares 46 = .ok (.iload 5, 2) := by decide +kernel
theorem dX9_shares_48 : decode cX9_shares 48 = .ok (.aload_n 0, 1) := by decide +kernel
theorem dX9_shares_49 : decode cX9_shares 49 = .ok (.getfield 55, 3) := by decide +kernel
theorem dX9_shares_52 : decode cX9_shares 52 = .ok (.getfield 300, 3) := by decide +kernel
theorem dX9_shares_55 : decode cX9_shares 55 = .ok (.if_icmp .ge 30, 3) := by decide +kernel
theorem dX9_shares_58 : decode cX9_shares 58 = .ok (.iload 4, 2) := by decide +kernel
theorem dX9_shares_60 : decode cX9_shares 60 = .ok (.aload_n 0, 1) := by decide +kernel
theorem dX9_shares_61 : decode cX9_shares 61 = .ok (.getfield 55, 3) := by decide +kernel
theorem dX9_shares_64 : decode cX9_shares 64 = .ok (.iload 5, 2) := by decide +kernel
theorem dX9_shares_66 : decode cX9_shares 66 = .ok (.aload_n 0, 1) := by decide +kernel
theorem dX9_shares_67 : decode cX9_shares 67 = .ok (.invokevirtual 179, 3) := by decide +kernel
theorem dX9_shares_70 : decode cX9_shares 70 = .ok (.invokevirtual 189, 3) := by decide +kernel
theorem dX9_shares_73 : decode cX9_shares 73 = .ok (.invokestatic 192, 3) := by decide +kernel
theorem dX9_shares_76 : decode cX9_shares 76 = .ok (.iadd, 1) := by decide +kernel
theorem dX9_shares_77 : decode cX9_shares 77 = .ok (.istore 4, 2) := by decide +kernel
theorem dX9_shares_79 : decode cX9_shares 79 = .ok (.iinc 5 1, 3) := by decide +kernel
theorem dX9_shares_82 : decode cX9_shares 82 = .ok (.goto (-36), 3) := by decide +kernel
theorem dX9_shares_85 : decode cX9_shares 85 = .ok (.iload 4, 2) := by decide +kernel
theorem dX9_shares_87 : decode cX9_shares 87 = .ok (.ifCond .ne 7, 3) := by decide +kernel
theorem dX9_shares_90 : decode cX9_shares 90 = .ok (.iconst 0, 1) := by decide +kernel
theorem dX9_shares_91 : decode cX9_shares 91 = .ok (.goto 9, 3) := by decide +kernel
theorem dX9_shares_94 : decode cX9_shares 94 = .ok (.iload_n 2, 1) := by decide +kernel
theorem dX9_shares_95 : decode cX9_shares 95 = .ok (.iload_n 3, 1) := by decide +kernel
theorem dX9_shares_96 : decode cX9_shares 96 = .ok (.imul, 1) := by decide +kernel
theorem dX9_shares_97 : decode cX9_shares 97 = .ok (.iload 4, 2) := by decide +kernel
theorem dX9_shares_99 : decode cX9_shares 99 = .ok (.idiv, 1) := by decide +kernel
theorem dX9_shares_100 : decode cX9_shares 100 = .ok (.ireturn, 1) := by decide +kernel
theorem dX9_most_0 : decode cX9_most 0 = .ok (.aload_n 0, 1) := by decide +kernel
theorem dX9_most_1 : decode cX9_most 1 = .ok (.invokevirtual 137, 3) := by decide +kernel
theorem dX9_most_4 : decode cX9_most 4 = .ok (.ifCond .eq 5, 3) := by decide +kernel
theorem dX9_most_7 : decode cX9_most 7 = .ok (.iconst (-1), 1) := by decide +kernel
theorem dX9_most_8 : decode cX9_most 8 = .ok (.ireturn, 1) := by decide +kernel
theorem dX9_most_9 : decode cX9_most 9 = .ok (.iload_n 1, 1) := by decide +kernel
theorem dX9_most_10 : decode cX9_most 10 = .ok (.tableswitch 162 0 9 #[54, 63, 72, 85, 98, 106, 114, 122, 134, 146], 54) := by decide +kernel
theorem dX9_most_64 : decode cX9_most 64 = .ok (.aload_n 0, 1) := by decide +kernel
theorem dX9_most_65 : decode cX9_most 65 = .ok (.getfield 55, 3) := by decide +kernel
theorem dX9_most_68 : decode cX9_most 68 = .ok (.iconst 1, 1) := by decide +kernel
theorem dX9_most_69 : decode cX9_most 69 = .ok (.invokevirtual 342, 3) := by decide +kernel
theorem dX9_most_72 : decode cX9_most 72 = .ok (.ireturn, 1) := by decide +kernel
theorem dX9_most_73 : decode cX9_most 73 = .ok (.aload_n 0, 1) := by decide +kernel
theorem dX9_most_74 : decode cX9_most 74 = .ok (.getfield 55, 3) := by decide +kernel
theorem dX9_most_77 : decode cX9_most 77 = .ok (.iconst (-1), 1) := by decide +kernel
theorem dX9_most_78 : decode cX9_most 78 = .ok (.invokevirtual 342, 3) := by decide +kernel
theorem dX9_most_81 : decode cX9_most 81 = .ok (.ireturn, 1) := by decide +kernel
theorem dX9_most_82 : decode cX9_most 82 = .ok (.aload_n 0, 1) := by decide +kernel
theorem dX9_most_83 : decode cX9_most 83 = .ok (.getfield 55, 3) := by decide +kernel
theorem dX9_most_86 : decode cX9_most 86 = .ok (.iconst 1, 1) := by decide +kernel
theorem dX9_most_87 : decode cX9_most 87 = .ok (.aload_n 0, 1) := by decide +kernel
theorem dX9_most_88 : decode cX9_most 88 = .ok (.invokevirtual 179, 3) := by decide +kernel
theorem dX9_most_91 : decode cX9_most 91 = .ok (.invokevirtual 345, 3) := by decide +kernel
theorem dX9_most_94 : decode cX9_most 94 = .ok (.ireturn, 1) := by decide +kernel
theorem dX9_most_95 : decode cX9_most 95 = .ok (.aload_n 0, 1) := by decide +kernel
theorem dX9_most_96 : decode cX9_most 96 = .ok (.getfield 55, 3) := by decide +kernel
theorem dX9_most_99 : decode cX9_most 99 = .ok (.iconst (-1), 1) := by decide +kernel
theorem dX9_most_100 : decode cX9_most 100 = .ok (.aload_n 0, 1) := by decide +kernel
theorem dX9_most_101 : decode cX9_most 101 = .ok (.invokevirtual 179, 3) := by decide +kernel
theorem dX9_most_104 : decode cX9_most 104 = .ok (.invokevirtual 345, 3) := by decide +kernel
theorem dX9_most_107 : decode cX9_most 107 = .ok (.ireturn, 1) := by decide +kernel
theorem dX9_most_108 : decode cX9_most 108 = .ok (.aload_n 0, 1) := by decide +kernel
theorem dX9_most_109 : decode cX9_most 109 = .ok (.getfield 55, 3) := by decide +kernel
theorem dX9_most_112 : decode cX9_most 112 = .ok (.getfield 186, 3) := by decide +kernel
theorem dX9_most_115 : decode cX9_most 115 = .ok (.ireturn, 1) := by decide +kernel
theorem dX9_most_116 : decode cX9_most 116 = .ok (.aload_n 0, 1) := by decide +kernel
theorem dX9_most_117 : decode cX9_most 117 = .ok (.getfield 55, 3) := by decide +kernel
theorem dX9_most_120 : decode cX9_most 120 = .ok (.invokevirtual 348, 3) := by decide +kernel
theorem dX9_most_123 : decode cX9_most 123 = .ok (.ireturn, 1) := by decide +kernel
theorem dX9_most_124 : decode cX9_most 124 = .ok (.aload_n 0, 1) := by decide +kernel
theorem dX9_most_125 : decode cX9_most 125 = .ok (.getfield 55, 3) := by decide +kernel
theorem dX9_most_128 : decode cX9_most 128 = .ok (.invokevirtual 351, 3) := by decide +kernel
theorem dX9_most_131 : decode cX9_most 131 = .ok (.ireturn, 1) := by decide +kernel
theorem dX9_most_132 : decode cX9_most 132 = .ok (.aload_n 0, 1) := by decide +kernel
theorem dX9_most_133 : decode cX9_most 133 = .ok (.getfield 55, 3) := by decide +kernel
theorem dX9_most_136 : decode cX9_most 136 = .ok (.aload_n 0, 1) := by decide +kernel
theorem dX9_most_137 : decode cX9_most 137 = .ok (.invokevirtual 179, 3) := by decide +kernel
theorem dX9_most_140 : decode cX9_most 140 = .ok (.invokevirtual 354, 3) := by decide +kernel
theorem dX9_most_143 : decode cX9_most 143 = .ok (.ireturn, 1) := by decide +kernel
theorem dX9_most_144 : decode cX9_most 144 = .ok (.aload_n 0, 1) := by decide +kernel
theorem dX9_most_145 : decode cX9_most 145 = .ok (.getfield 55, 3) := by decide +kernel
theorem dX9_most_148 : decode cX9_most 148 = .ok (.aload_n 0, 1) := by decide +kernel
theorem dX9_most_149 : decode cX9_most 149 = .ok (.invokevirtual 179, 3) := by decide +kernel
theorem dX9_most_152 : decode cX9_most 152 = .ok (.invokevirtual 209, 3) := by decide +kernel
theorem dX9_most_155 : decode cX9_most 155 = .ok (.ireturn, 1) := by decide +kernel
theorem dX9_most_156 : decode cX9_most 156 = .ok (.aload_n 0, 1) := by decide +kernel
theorem dX9_most_157 : decode cX9_most 157 = .ok (.getfield 75, 3) := by decide +kernel
theorem dX9_most_160 : decode cX9_most 160 = .ok (.aload_n 0, 1) := by decide +kernel
theorem dX9_most_161 : decode cX9_most 161 = .ok (.getfield 55, 3) := by decide +kernel
theorem dX9_most_164 : decode cX9_most 164 = .ok (.aload_n 0, 1) := by decide +kernel
theorem dX9_most_165 : decode cX9_most 165 = .ok (.invokevirtual 179, 3) := by decide +kernel
theorem dX9_most_168 : decode cX9_most 168 = .ok (.invokevirtual 357, 3) := by decide +kernel
theorem dX9_most_171 : decode cX9_most 171 = .ok (.ireturn, 1) := by decide +kernel
theorem dX9_most_172 : decode cX9_most 172 = .ok (.iconst (-1), 1) := by decide +kernel
theorem dX9_most_173 : decode cX9_most 173 = .ok (.ireturn, 1) := by decide +kernel
theorem dX9_count_0 : decode cX9_count 0 = .ok (.iload_n 1, 1) := by decide +kernel
theorem dX9_count_1 : decode cX9_count 1 = .ok (.tableswitch 138 0 10 #[59, 67, 75, 80, 88, 93, 101, 106, 114, 122, 130], 59) := by decide +kernel
theorem dX9_count_60 : decode cX9_count 60 = .ok (.aload_n 0, 1) := by decide +kernel
theorem dX9_count_61 : decode cX9_count 61 = .ok (.getfield 55, 3) := by decide +kernel
theorem dX9_count_64 : decode cX9_count 64 = .ok (.getfield 130, 3) := by decide +kernel
theorem dX9_count_67 : decode cX9_count 67 = .ok (.ireturn, 1) := by decide +kernel
theorem dX9_count_68 : decode cX9_count 68 = .ok (.aload_n 0, 1) := by decide +kernel
theorem dX9_count_69 : decode cX9_count 69 = .ok (.getfield 55, 3) := by decide +kernel
theorem dX9_count_72 : decode cX9_count 72 = .ok (.getfield 300, 3) := by decide +kernel
theorem dX9_count_75 : decode cX9_count 75 = .ok (.ireturn, 1) := by decide +kernel
theorem dX9_count_76 : decode cX9_count 76 = .ok (.aload_n 0, 1) := by decide +kernel
theorem dX9_count_77 : decode cX9_count 77 = .ok (.getfield 38, 3) := by decide +kernel
theorem dX9_count_80 : decode cX9_count 80 = .ok (.ireturn, 1) := by decide +kernel
theorem dX9_count_81 : decode cX9_count 81 = .ok (.aload_n 0, 1) := by decide +kernel
theorem dX9_count_82 : decode cX9_count 82 = .ok (.getfield 10, 3) := by decide +kernel
theorem dX9_count_85 : decode cX9_count 85 = .ok (.getfield 101, 3) := by decide +kernel
theorem dX9_count_88 : decode cX9_count 88 = .ok (.ireturn, 1) := by decide +kernel
theorem dX9_count_89 : decode cX9_count 89 = .ok (.aload_n 0, 1) := by decide +kernel
theorem dX9_count_90 : decode cX9_count 90 = .ok (.getfield 42, 3) := by decide +kernel
theorem dX9_count_93 : decode cX9_count 93 = .ok (.ireturn, 1) := by decide +kernel
theorem dX9_count_94 : decode cX9_count 94 = .ok (.aload_n 0, 1) := by decide +kernel
theorem dX9_count_95 : decode cX9_count 95 = .ok (.getfield 55, 3) := by decide +kernel
theorem dX9_count_98 : decode cX9_count 98 = .ok (.getfield 200, 3) := by decide +kernel
theorem dX9_count_101 : decode cX9_count 101 = .ok (.ireturn, 1) := by decide +kernel
theorem dX9_count_102 : decode cX9_count 102 = .ok (.aload_n 0, 1) := by decide +kernel
theorem dX9_count_103 : decode cX9_count 103 = .ok (.getfield 45, 3) := by decide +kernel
theorem dX9_count_106 : decode cX9_count 106 = .ok (.ireturn, 1) := by decide +kernel
theorem dX9_count_107 : decode cX9_count 107 = .ok (.aload_n 0, 1) := by decide +kernel
theorem dX9_count_108 : decode cX9_count 108 = .ok (.getfield 75, 3) := by decide +kernel
theorem dX9_count_111 : decode cX9_count 111 = .ok (.getfield 361, 3) := by decide +kernel
theorem dX9_count_114 : decode cX9_count 114 = .ok (.ireturn, 1) := by decide +kernel
theorem dX9_count_115 : decode cX9_count 115 = .ok (.aload_n 0, 1) := by decide +kernel
theorem dX9_count_116 : decode cX9_count 116 = .ok (.getfield 75, 3) := by decide +kernel
theorem dX9_count_119 : decode cX9_count 119 = .ok (.getfield 364, 3) := by decide +kernel
theorem dX9_count_122 : decode cX9_count 122 = .ok (.ireturn, 1) := by decide +kernel
theorem dX9_count_123 : decode cX9_count 123 = .ok (.aload_n 0, 1) := by decide +kernel
theorem dX9_count_124 : decode cX9_count 124 = .ok (.getfield 55, 3) := by decide +kernel
theorem dX9_count_127 : decode cX9_count 127 = .ok (.invokestatic 367, 3) := by decide +kernel
theorem dX9_count_130 : decode cX9_count 130 = .ok (.ireturn, 1) := by decide +kernel
theorem dX9_count_131 : decode cX9_count 131 = .ok (.aload_n 0, 1) := by decide +kernel
theorem dX9_count_132 : decode cX9_count 132 = .ok (.getfield 68, 3) := by decide +kernel
theorem dX9_count_135 : decode cX9_count 135 = .ok (.getfield 370, 3) := by decide +kernel
theorem dX9_count_138 : decode cX9_count 138 = .ok (.ireturn, 1) := by decide +kernel
theorem dX9_count_139 : decode cX9_count 139 = .ok (.ldc_w 313, 3) := by decide +kernel
theorem dX9_count_142 : decode cX9_count 142 = .ok (.ireturn, 1) := by decide +kernel
theorem dX10_in_0 : decode cX10_in 0 = .ok (.iload_n 0, 1) := by decide +kernel
theorem dX10_in_1 : decode cX10_in 1 = .ok (.iload_n 1, 1) := by decide +kernel
theorem dX10_in_2 : decode cX10_in 2 = .ok (.if_icmp .lt 12, 3) := by decide +kernel
theorem dX10_in_5 : decode cX10_in 5 = .ok (.iload_n 0, 1) := by decide +kernel
theorem dX10_in_6 : decode cX10_in 6 = .ok (.iload_n 2, 1) := by decide +kernel
theorem dX10_in_7 : decode cX10_in 7 = .ok (.if_icmp .gt 7, 3) := by decide +kernel
theorem dX10_in_10 : decode cX10_in 10 = .ok (.iconst 1, 1) := by decide +kernel
theorem dX10_in_11 : decode cX10_in 11 = .ok (.goto 4, 3) := by decide +kernel
theorem dX10_in_14 : decode cX10_in 14 = .ok (.iconst 0, 1) := by decide +kernel
theorem dX10_in_15 : decode cX10_in 15 = .ok (.ireturn, 1) := by decide +kernel
theorem dX10_has_0 : decode cX10_has 0 = .ok (.iload_n 0, 1) := by decide +kernel
theorem dX10_has_1 : decode cX10_has 1 = .ok (.iload_n 1, 1) := by decide +kernel
theorem dX10_has_2 : decode cX10_has 2 = .ok (.ishr, 1) := by decide +kernel
theorem dX10_has_3 : decode cX10_has 3 = .ok (.iconst 1, 1) := by decide +kernel
theorem dX10_has_4 : decode cX10_has 4 = .ok (.iand, 1) := by decide +kernel
theorem dX10_has_5 : decode cX10_has 5 = .ok (.iconst 1, 1) := by decide +kernel
theorem dX10_has_6 : decode cX10_has 6 = .ok (.if_icmp .ne 7, 3) := by decide +kernel
theorem dX10_has_9 : decode cX10_has 9 = .ok (.iconst 1, 1) := by decide +kernel
theorem dX10_has_10 : decode cX10_has 10 = .ok (.goto 4, 3) := by decide +kernel
theorem dX10_has_13 : decode cX10_has 13 = .ok (.iconst 0, 1) := by decide +kernel
theorem dX10_has_14 : decode cX10_has 14 = .ok (.ireturn, 1) := by decide +kernel
theorem dX10_init_0 : decode cX10_init 0 = .ok (.aload_n 0, 1) := by decide +kernel
theorem dX10_init_1 : decode cX10_init 1 = .ok (.invokespecial 3, 3) := by decide +kernel
theorem dX10_init_4 : decode cX10_init 4 = .ok (.aload_n 0, 1) := by decide +kernel
theorem dX10_init_5 : decode cX10_init 5 = .ok (.sipush 240, 3) := by decide +kernel
theorem dX10_init_8 : decode cX10_init 8 = .ok (.newarray .int, 2) := by decide +kernel
theorem dX10_init_10 : decode cX10_init 10 = .ok (.putfield 9, 3) := by decide +kernel
theorem dX10_init_13 : decode cX10_init 13 = .ok (.aload_n 0, 1) := by decide +kernel
theorem dX10_init_14 : decode cX10_init 14 = .ok (.sipush 2600, 3) := by decide +kernel
theorem dX10_init_17 : decode cX10_init 17 = .ok (.newarray .int, 2) := by decide +kernel
theorem dX10_init_19 : decode cX10_init 19 = .ok (.putfield 13, 3) := by decide +kernel
theorem dX10_init_22 : decode cX10_init 22 = .ok (.aload_n 0, 1) := by decide +kernel
theorem dX10_init_23 : decode cX10_init 23 = .ok (.sipush 2600, 3) := by decide +kernel
theorem dX10_init_26 : decode cX10_init 26 = .ok (.newarray .int, 2) := by decide +kernel
theorem dX10_init_28 : decode cX10_init 28 = .ok (.putfield 16, 3) := by decide +kernel
theorem dX10_init_31 : decode cX10_init 31 = .ok (.aload_n 0, 1) := by decide +kernel
theorem dX10_init_32 : decode cX10_init 32 = .ok (.iconst 5, 1) := by decide +kernel
theorem dX10_init_33 : decode cX10_init 33 = .ok (.newarray .int, 2) := by decide +kernel
theorem dX10_init_35 : decode cX10_init 35 = .ok (.putfield 19, 3) := by decide +kernel
theorem dX10_init_38 : decode cX10_init 38 = .ok (.aload_n 0, 1) := by decide +kernel
theorem dX10_init_39 : decode cX10_init 39 = .ok (.iconst 5, 1) := by decide +kernel
theorem dX10_init_40 : decode cX10_init 40 = .ok (.newarray .int, 2) := by decide +kernel
theorem dX10_init_42 : decode cX10_init 42 = .ok (.putfield 22, 3) := by decide +kernel
theorem dX10_init_45 : decode cX10_init 45 = .ok (.aload_n 0, 1) := by decide +kernel
theorem dX10_init_46 : decode cX10_init 46 = .ok (.sipush 700, 3) := by decide +kernel
theorem dX10_init_49 : decode cX10_init 49 = .ok (.newarray .int, 2) := by decide +kernel
theorem dX10_init_51 : decode cX10_init 51 = .ok (.putfield 25, 3) := by decide +kernel
theorem dX10_init_54 : decode cX10_init 54 = .ok (.aload_n 0, 1) := by decide +kernel
theorem dX10_init_55 : decode cX10_init 55 = .ok (.sipush 700, 3) := by decide +kernel
theorem dX10_init_58 : decode cX10_init 58 = .ok (.newarray .int, 2) := by decide +kernel
theorem dX10_init_60 : decode cX10_init 60 = .ok (.putfield 28, 3) := by decide +kernel
theorem dX10_init_63 : decode cX10_init 63 = .ok (.aload_n 0, 1) := by decide +kernel
theorem dX10_init_64 : decode cX10_init 64 = .ok (.sipush 700, 3) := by decide +kernel
theorem dX10_init_67 : decode cX10_init 67 = .ok (.newarray .int, 2) := by decide +kernel
theorem dX10_init_69 : decode cX10_init 69 = .ok (.putfield 31, 3) := by decide +kernel
theorem dX10_init_72 : decode cX10_init 72 = .ok (.aload_n 0, 1) := by decide +kernel
theorem dX10_init_73 : decode cX10_init 73 = .ok (.bipush 6, 2) := by decide +kernel
theorem dX10_init_75 : decode cX10_init 75 = .ok (.newarray .int, 2) := by decide +kernel
theorem dX10_init_77 : decode cX10_init 77 = .ok (.putfield 34, 3) := by decide +kernel
theorem dX10_init_80 : decode cX10_init 80 = .ok (.aload_n 0, 1) := by decide +kernel
theorem dX10_init_81 : decode cX10_init 81 = .ok (.bipush 80, 2) := by decide +kernel
theorem dX10_init_83 : decode cX10_init 83 = .ok (.newarray .int, 2) := by decide +kernel
theorem dX10_init_85 : decode cX10_init 85 = .ok (.putfield 37, 3) := by decide +kernel
theorem dX10_init_88 : decode cX10_init 88 = .ok (.aload_n 0, 1) := by decide +kernel
theorem dX10_init_89 : decode cX10_init 89 = .ok (.iconst 4, 1) := by decide +kernel
theorem dX10_init_90 : decode cX10_init 90 = .ok (.newarray .int, 2) := by decide +kernel
theorem dX10_init_92 : decode cX10_init 92 = .ok (.putfield 40, 3) := by decide +kernel
theorem dX10_init_95 : decode cX10_init 95 = .ok (.aload_n 0, 1) := by decide +kernel
theorem dX10_init_96 : decode cX10_init 96 = .ok (.bipush 30, 2) := by decide +kernel
theorem dX10_init_98 : decode cX10_init 98 = .ok (.newarray .int, 2) := by decide +kernel
theorem dX10_init_100 : decode cX10_init 100 = .ok (.putfield 43, 3) := by decide +kernel
theorem dX10_init_103 : decode cX10_init 103 = .ok (.aload_n 0, 1) := by decide +kernel
theorem dX10_init_104 : decode cX10_init 104 = .ok (.iconst 5, 1) := by decide +kernel
theorem dX10_init_105 : decode cX10_init 105 = .ok (.newarray .int, 2) := by decide +kernel
theorem dX10_init_107 : decode cX10_init 107 = .ok (.putfield 46, 3) := by decide +kernel
theorem dX10_init_110 : decode cX10_init 110 = .ok (.aload_n 0, 1) := by decide +kernel
theorem dX10_init_111 : decode cX10_init 111 = .ok (.bipush 16, 2) := by decide +kernel
theorem dX10_init_113 : decode cX10_init 113 = .ok (.newarray .int, 2) := by decide +kernel
theorem dX10_init_115 : decode cX10_init 115 = .ok (.putfield 49, 3) := by decide +kernel
theorem dX10_init_118 : decode cX10_init 118 = .ok (.aload_n 0, 1) := by decide +kernel
theorem dX10_init_119 : decode cX10_init 119 = .ok (.iconst 4, 1) := by decide +kernel
theorem dX10_init_120 : decode cX10_init 120 = .ok (.newarray .int, 2) := by decide +kernel
theorem dX10_init_122 : decode cX10_init 122 = .ok (.putfield 52, 3) := by decide +kernel
theorem dX10_init_125 : decode cX10_init 125 = .ok (.aload_n 0, 1) := by decide +kernel
theorem dX10_init_126 : decode cX10_init 126 = .ok (.bipush 30, 2) := by decide +kernel
theorem dX10_init_128 : decode cX10_init 128 = .ok (.newarray .int, 2) := by decide +kernel
theorem dX10_init_130 : decode cX10_init 130 = .ok (.putfield 55, 3) := by decide +kernel
theorem dX10_init_133 : decode cX10_init 133 = .ok (.aload_n 0, 1) := by decide +kernel
theorem dX10_init_134 : decode cX10_init 134 = .ok (.bipush 16, 2) := by decide +kernel
theorem dX10_init_136 : decode cX10_init 136 = .ok (.newarray .int, 2) := by decide +kernel
theorem dX10_init_138 : decode cX10_init 138 = .ok (.putfield 58, 3) := by decide +kernel
theorem dX10_init_141 : decode cX10_init 141 = .ok (.aload_n 0, 1) := by decide +kernel
theorem dX10_init_142 : decode cX10_init 142 = .ok (.sipush 223, 3) := by decide +kernel
theorem dX10_init_145 : decode cX10_init 145 = .ok (.newarray .int, 2) := by decide +kernel
theorem dX10_init_147 : decode cX10_init 147 = .ok (.putfield 61, 3) := by decide +kernel
theorem dX10_init_150 : decode cX10_init 150 = .ok (.aload_n 0, 1) := by decide +kernel
theorem dX10_init_151 : decode cX10_init 151 = .ok (.iconst 5, 1) := by decide +kernel
theorem dX10_init_152 : decode cX10_init 152 = .ok (.newarray .int, 2) := by decide +kernel
theorem dX10_init_154 : decode cX10_init 154 = .ok (.putfield 64, 3) := by decide +kernel
theorem dX10_init_157 : decode cX10_init 157 = .ok (.aload_n 0, 1) := by decide +kernel
theorem dX10_init_158 : decode cX10_init 158 = .ok (.iconst (-1), 1) := by decide +kernel
theorem dX10_init_159 : decode cX10_init 159 = .ok (.putfield 67, 3) := by decide +kernel
theorem dX10_init_162 : decode cX10_init 162 = .ok (.aload_n 0, 1) := by decide +kernel
theorem dX10_init_163 : decode cX10_init 163 = .ok (.iconst 3, 1) := by decide +kernel
theorem dX10_init_164 : decode cX10_init 164 = .ok (.putfield 71, 3) := by decide +kernel
theorem dX10_init_167 : decode cX10_init 167 = .ok (.aload_n 0, 1) := by decide +kernel
theorem dX10_init_168 : decode cX10_init 168 = .ok (.sipush 8920, 3) := by decide +kernel
theorem dX10_init_171 : decode cX10_init 171 = .ok (.newarray .int, 2) := by decide +kernel
theorem dX10_init_173 : decode cX10_init 173 = .ok (.putfield 74, 3) := by decide +kernel
theorem dX10_init_176 : decode cX10_init 176 = .ok (.aload_n 0, 1) := by decide +kernel
theorem dX10_init_177 : decode cX10_init 177 = .ok (.bipush 30, 2) := by decide +kernel
theorem dX10_init_179 : decode cX10_init 179 = .ok (.newarray .int, 2) := by decide +kernel
theorem dX10_init_181 : decode cX10_init 181 = .ok (.putfield 77, 3) := by decide +kernel
theorem dX10_init_184 : decode cX10_init 184 = .ok (.aload_n 0, 1) := by decide +kernel
theorem dX10_init_185 : decode cX10_init 185 = .ok (.bipush 30, 2) := by decide +kernel
theorem dX10_init_187 : decode cX10_init 187 = .ok (.newarray .int, 2) := by decide +kernel
theorem dX10_init_189 : decode cX10_init 189 = .ok (.putfield 80, 3) := by decide +kernel
theorem dX10_init_192 : decode cX10_init 192 = .ok (.aload_n 0, 1) := by decide +kernel
theorem dX10_init_193 : decode cX10_init 193 = .ok (.bipush 10, 2) := by decide +kernel
theorem dX10_init_195 : decode cX10_init 195 = .ok (.newarray .int, 2) := by decide +kernel
theorem dX10_init_197 : decode cX10_init 197 = .ok (.putfield 83, 3) := by decide +kernel
theorem dX10_init_200 : decode cX10_init 200 = .ok (.aload_n 0, 1) := by decide +kernel
theorem dX10_init_201 : decode cX10_init 201 = .ok (.bipush 10, 2) := by decide +kernel
theorem dX10_init_203 : decode cX10_init 203 = .ok (.newarray .int, 2) := by decide +kernel
theorem dX10_init_205 : decode cX10_init 205 = .ok (.putfield 86, 3) := by decide +kernel
theorem dX10_init_208 : decode cX10_init 208 = .ok (.aload_n 0, 1) := by decide +kernel
theorem dX10_init_209 : decode cX10_init 209 = .ok (.bipush 10, 2) := by decide +kernel
theorem dX10_init_211 : decode cX10_init 211 = .ok (.newarray .boolean, 2) := by decide +kernel
theorem dX10_init_213 : decode cX10_init 213 = .ok (.putfield 89, 3) := by decide +kernel
theorem dX10_init_216 : decode cX10_init 216 = .ok (.aload_n 0, 1) := by decide +kernel
theorem dX10_init_217 : decode cX10_init 217 = .ok (.bipush 10, 2) := by decide +kernel
theorem dX10_init_219 : decode cX10_init 219 = .ok (.newarray .int, 2) := by decide +kernel
theorem dX10_init_221 : decode cX10_init 221 = .ok (.putfield 93, 3) := by decide +kernel
theorem dX10_init_224 : decode cX10_init 224 = .ok (.aload_n 0, 1) := by decide +kernel
theorem dX10_init_225 : decode cX10_init 225 = .ok (.bipush 10, 2) := by decide +kernel
theorem dX10_init_227 : decode cX10_init 227 = .ok (.newarray .int, 2) := by decide +kernel
theorem dX10_init_229 : decode cX10_init 229 = .ok (.putfield 96, 3) := by decide +kernel
theorem dX10_init_232 : decode cX10_init 232 = .ok (.aload_n 0, 1) := by decide +kernel
theorem dX10_init_233 : decode cX10_init 233 = .ok (.sipush 223, 3) := by decide +kernel
theorem dX10_init_236 : decode cX10_init 236 = .ok (.newarray .int, 2) := by decide +kernel
theorem dX10_init_238 : decode cX10_init 238 = .ok (.putfield 99, 3) := by decide +kernel
theorem dX10_init_241 : decode cX10_init 241 = .ok (.return_, 1) := by decide +kernel
theorem dX10_thrown_0 : decode cX10_thrown 0 = .ok (.aload_n 0, 1) := by decide +kernel
theorem dX10_thrown_1 : decode cX10_thrown 1 = .ok (.getfield 102, 3) := by decide +kernel
theorem dX10_thrown_4 : decode cX10_thrown 4 = .ok (.ireturn, 1) := by decide +kernel
theorem dX10_byteOf_0 : decode cX10_byteOf 0 = .ok (.iload 5, 2) := by decide +kernel
theorem dX10_byteOf_2 : decode cX10_byteOf 2 = .ok (.iconst 4, 1) := by decide +kernel
theorem dX10_byteOf_3 : decode cX10_byteOf 3 = .ok (.if_icmp .ge 7, 3) := by decide +kernel
theorem dX10_byteOf_6 : decode cX10_byteOf 6 = .ok (.iload_n 0, 1) := by decide +kernel
theorem dX10_byteOf_7 : decode cX10_byteOf 7 = .ok (.goto 38, 3) := by decide +kernel
theorem dX10_byteOf_10 : decode cX10_byteOf 10 = .ok (.iload 5, 2) := by decide +kernel
theorem dX10_byteOf_12 : decode cX10_byteOf 12 = .ok (.bipush 8, 2) := by decide +kernel
theorem dX10_byteOf_14 : decode cX10_byteOf 14 = .ok (.if_icmp .ge 7, 3) := by decide +kernel
theorem dX10_byteOf_17 : decode cX10_byteOf 17 = .ok (.iload_n 1, 1) := by decide +kernel
theorem dX10_byteOf_18 : decode cX10_byteOf 18 = .ok (.goto 27, 3) := by decide +kernel
theorem dX10_byteOf_21 : decode cX10_byteOf 21 = .ok (.iload 5, 2) := by decide +kernel
theorem dX10_byteOf_23 : decode cX10_byteOf 23 = .ok (.bipush 12, 2) := by decide +kernel
theorem dX10_byteOf_25 : decode cX10_byteOf 25 = .ok (.if_icmp .ge 7, 3) := by decide +kernel
theorem dX10_byteOf_28 : decode cX10_byteOf 28 = .ok (.iload_n 2, 1) := by decide +kernel
theorem dX10_byteOf_29 : decode cX10_byteOf 29 = .ok (.goto 16, 3) := by decide +kernel
theorem dX10_byteOf_32 : decode cX10_byteOf 32 = .ok (.iload 5, 2) := by decide +kernel
theorem dX10_byteOf_34 : decode cX10_byteOf 34 = .ok (.bipush 16, 2) := by decide +kernel
theorem dX10_byteOf_36 : decode cX10_byteOf 36 = .ok (.if_icmp .ge 7, 3) := by decide +kernel
theorem dX10_byteOf_39 : decode cX10_byteOf 39 = .ok (.iload_n 3, 1) := by decide +kernel
theorem dX10_byteOf_40 : decode cX10_byteOf 40 = .ok (.goto 5, 3) := by decide +kernel
theorem dX10_byteOf_43 : decode cX10_byteOf 43 = .ok (.iload 4, 2) := by decide +kernel
theorem dX10_byteOf_45 : decode cX10_byteOf 45 = .ok (.istore 6, 2) := by decide +kernel
theorem dX10_byteOf_47 : decode cX10_byteOf 47 = .ok (.iload 6, 2) := by decide +kernel
theorem dX10_byteOf_49 : decode cX10_byteOf 49 = .ok (.bipush 24, 2) := by decide +kernel
theorem dX10_byteOf_51 : decode cX10_byteOf 51 = .ok (.bipush 8, 2) := by decide +kernel
theorem dX10_byteOf_53 : decode cX10_byteOf 53 = .ok (.iload 5, 2) := by decide +kernel
theorem dX10_byteOf_55 : decode cX10_byteOf 55 = .ok (.iconst 4, 1) := by decide +kernel
theorem dX10_byteOf_56 : decode cX10_byteOf 56 = .ok (.irem, 1) := by decide +kernel
theorem dX10_byteOf_57 : decode cX10_byteOf 57 = .ok (.imul, 1) := by decide +kernel
theorem dX10_byteOf_58 : decode cX10_byteOf 58 = .ok (.isub, 1) := by decide +kernel
theorem dX10_byteOf_59 : decode cX10_byteOf 59 = .ok (.ishr, 1) := by decide +kernel
theorem dX10_byteOf_60 : decode cX10_byteOf 60 = .ok (.sipush 255, 3) := by decide +kernel
theorem dX10_byteOf_63 : decode cX10_byteOf 63 = .ok (.iand, 1) := by decide +kernel
theorem dX10_byteOf_64 : decode cX10_byteOf 64 = .ok (.ireturn, 1) := by decide +kernel
theorem dX10_feed_0 : decode cX10_feed 0 = .ok (.iconst 0, 1) := by decide +kernel
theorem dX10_feed_1 : decode cX10_feed 1 = .ok (.istore 6, 2) := by decide +kernel
theorem dX10_feed_3 : decode cX10_feed 3 = .ok (.iconst 0, 1) := by decide +kernel
theorem dX10_feed_4 : decode cX10_feed 4 = .ok (.istore 7, 2) := by decide +kernel
theorem dX10_feed_6 : decode cX10_feed 6 = .ok (.iload 7, 2) := by decide +kernel
theorem dX10_feed_8 : decode cX10_feed 8 = .ok (.bipush 20, 2) := by decide +kernel
theorem dX10_feed_10 : decode cX10_feed 10 = .ok (.if_icmp .ge 34, 3) := by decide +kernel
theorem dX10_feed_13 : decode cX10_feed 13 = .ok (.iload 6, 2) := by decide +kernel
theorem dX10_feed_15 : decode cX10_feed 15 = .ok (.iload_n 1, 1) := by decide +kernel
theorem dX10_feed_16 : decode cX10_feed 16 = .ok (.iload_n 2, 1) := by decide +kernel
theorem dX10_feed_17 : decode cX10_feed 17 = .ok (.iload_n 3, 1) := by decide +kernel
theorem dX10_feed_18 : decode cX10_feed 18 = .ok (.iload 4, 2) := by decide +kernel
theorem dX10_feed_20 : decode cX10_feed 20 = .ok (.iload 5, 2) := by decide +kernel
theorem dX10_feed_22 : decode cX10_feed 22 = .ok (.iload 7, 2) := by decide +kernel
theorem dX10_feed_24 : decode cX10_feed 24 = .ok (.invokestatic 105, 3) := by decide +kernel
theorem dX10_feed_27 : decode cX10_feed 27 = .ok (.ifCond .eq 7, 3) := by decide +kernel
theorem dX10_feed_30 : decode cX10_feed 30 = .ok (.iconst 1, 1) := by decide +kernel
theorem dX10_feed_31 : decode cX10_feed 31 = .ok (.goto 4, 3) := by decide +kernel
theorem dX10_feed_34 : decode cX10_feed 34 = .ok (.iconst 0, 1) := by decide +kernel
theorem dX10_feed_35 : decode cX10_feed 35 = .ok (.iadd, 1) := by decide +kernel
theorem dX10_feed_36 : decode cX10_feed 36 = .ok (.istore 6, 2) := by decide +kernel
theorem dX10_feed_38 : decode cX10_feed 38 = .ok (.iinc 7 1, 3) := by decide +kernel
theorem dX10_feed_41 : decode cX10_feed 41 = .ok (.goto (-35), 3) := by decide +kernel
theorem dX10_feed_44 : decode cX10_feed 44 = .ok (.aload_n 0, 1) := by decide +kernel
theorem dX10_feed_45 : decode cX10_feed 45 = .ok (.getfield 109, 3) := by decide +kernel
theorem dX10_feed_48 : decode cX10_feed 48 = .ok (.iload 6, 2) := by decide +kernel
theorem dX10_feed_50 : decode cX10_feed 50 = .ok (.iadd, 1) := by decide +kernel
theorem dX10_feed_51 : decode cX10_feed 51 = .ok (.sipush 240, 3) := by decide +kernel
theorem dX10_feed_54 : decode cX10_feed 54 = .ok (.if_icmp .le 5, 3) := by decide +kernel
theorem dX10_feed_57 : decode cX10_feed 57 = .ok (.iconst (-1), 1) := by decide +kernel
theorem dX10_feed_58 : decode cX10_feed 58 = .ok (.ireturn, 1) := by decide +kernel
theorem dX10_feed_59 : decode cX10_feed 59 = .ok (.iconst 0, 1) := by decide +kernel
theorem dX10_feed_60 : decode cX10_feed 60 = .ok (.istore 7, 2) := by decide +kernel
theorem dX10_feed_62 : decode cX10_feed 62 = .ok (.iload 7, 2) := by decide +kernel
theorem dX10_feed_64 : decode cX10_feed 64 = .ok (.bipush 20, 2) := by decide +kernel
theorem dX10_feed_66 : decode cX10_feed 66 = .ok (.if_icmp .ge 49, 3) := by decide +kernel
theorem dX10_feed_69 : decode cX10_feed 69 = .ok (.iload_n 1, 1) := by decide +kernel
theorem dX10_feed_70 : decode cX10_feed 70 = .ok (.iload_n 2, 1) := by decide +kernel
theorem dX10_feed_71 : decode cX10_feed 71 = .ok (.iload_n 3, 1) := by decide +kernel
theorem dX10_feed_72 : decode cX10_feed 72 = .ok (.iload 4, 2) := by decide +kernel
theorem dX10_feed_74 : decode cX10_feed 74 = .ok (.iload 5, 2) := by decide +kernel
theorem dX10_feed_76 : decode cX10_feed 76 = .ok (.iload 7, 2) := by decide +kernel
theorem dX10_feed_78 : decode cX10_feed 78 = .ok (.invokestatic 105, 3) := by decide +kernel
theorem dX10_feed_81 : decode cX10_feed 81 = .ok (.istore 8, 2) := by decide +kernel
theorem dX10_feed_83 : decode cX10_feed 83 = .ok (.iload 8, 2) := by decide +kernel
theorem dX10_feed_85 : decode cX10_feed 85 = .ok (.ifCond .eq 24, 3) := by decide +kernel
theorem dX10_feed_88 : decode cX10_feed 88 = .ok (.aload_n 0, 1) := by decide +kernel
theorem dX10_feed_89 : decode cX10_feed 89 = .ok (.getfield 9, 3) := by decide +kernel
theorem dX10_feed_92 : decode cX10_feed 92 = .ok (.aload_n 0, 1) := by decide +kernel
theorem dX10_feed_93 : decode cX10_feed 93 = .ok (.getfield 109, 3) := by decide +kernel
theorem dX10_feed_96 : decode cX10_feed 96 = .ok (.iload 8, 2) := by decide +kernel
theorem dX10_feed_98 : decode cX10_feed 98 = .ok (.iastore, 1) := by decide +kernel
theorem dX10_feed_99 : decode cX10_feed 99 = .ok (.aload_n 0, 1) := by decide +kernel
theorem dX10_feed_100 : decode cX10_feed 100 = .ok (.dup, 1) := by decide +kernel
theorem dX10_feed_101 : decode cX10_feed 101 = .ok (.getfield 109, 3) := by decide +kernel
theorem dX10_feed_104 : decode cX10_feed 104 = .ok (.iconst 1, 1) := by decide +kernel
theorem dX10_feed_105 : decode cX10_feed 105 = .ok (.iadd, 1) := by decide +kernel
theorem dX10_feed_106 : decode cX10_feed 106 = .ok (.putfield 109, 3) := by decide +kernel
theorem dX10_feed_109 : decode cX10_feed 109 = .ok (.iinc 7 1, 3) := by decide +kernel
theorem dX10_feed_112 : decode cX10_feed 112 = .ok (.goto (-50), 3) := by decide +kernel
theorem dX10_feed_115 : decode cX10_feed 115 = .ok (.aload_n 0, 1) := by decide +kernel
theorem dX10_feed_116 : decode cX10_feed 116 = .ok (.getfield 109, 3) := by decide +kernel
theorem dX10_feed_119 : decode cX10_feed 119 = .ok (.ireturn, 1) := by decide +kernel
theorem dX10_end_0 : decode cX10_end 0 = .ok (.iload_n 1, 1) := by decide +kernel
theorem dX10_end_1 : decode cX10_end 1 = .ok (.ifCond .lt 11, 3) := by decide +kernel
theorem dX10_end_4 : decode cX10_end 4 = .ok (.iload_n 1, 1) := by decide +kernel
theorem dX10_end_5 : decode cX10_end 5 = .ok (.aload_n 0, 1) := by decide +kernel
theorem dX10_end_6 : decode cX10_end 6 = .ok (.getfield 109, 3) := by decide +kernel
theorem dX10_end_9 : decode cX10_end 9 = .ok (.if_icmp .le 5, 3) := by decide +kernel
theorem dX10_end_12 : decode cX10_end 12 = .ok (.iconst 0, 1) := by decide +kernel
theorem dX10_end_13 : decode cX10_end 13 = .ok (.ireturn, 1) := by decide +kernel
theorem dX10_end_14 : decode cX10_end 14 = .ok (.aload_n 0, 1) := by decide +kernel
theorem dX10_end_15 : decode cX10_end 15 = .ok (.iload_n 1, 1) := by decide +kernel
theorem dX10_end_16 : decode cX10_end 16 = .ok (.putfield 109, 3) := by decide +kernel
theorem dX10_end_19 : decode cX10_end 19 = .ok (.iconst 1, 1) := by decide +kernel
theorem dX10_end_20 : decode cX10_end 20 = .ok (.ireturn, 1) := by decide +kernel
theorem dX10_here_0 : decode cX10_here 0 = .ok (.aload_n 0, 1) := by decide +kernel
theorem dX10_here_1 : decode cX10_here 1 = .ok (.getfield 112, 3) := by decide +kernel
theorem dX10_here_4 : decode cX10_here 4 = .ok (.aload_n 0, 1) := by decide +kernel
theorem dX10_here_5 : decode cX10_here 5 = .ok (.getfield 109, 3) := by decide +kernel
theorem dX10_here_8 : decode cX10_here 8 = .ok (.if_icmp .ge 15, 3) := by decide +kernel
theorem dX10_here_11 : decode cX10_here 11 = .ok (.aload_n 0, 1) := by decide +kernel
theorem dX10_here_12 : decode cX10_here 12 = .ok (.getfield 9, 3) := by decide +kernel
theorem dX10_here_15 : decode cX10_here 15 = .ok (.aload_n 0, 1) := by decide +kernel
theorem dX10_here_16 : decode cX10_here 16 = .ok (.getfield 112, 3) := by decide +kernel
theorem dX10_here_19 : decode cX10_here 19 = .ok (.iaload, 1) := by decide +kernel
theorem dX10_here_20 : decode cX10_here 20 = .ok (.goto 4, 3) := by decide +kernel
theorem dX10_here_23 : decode cX10_here 23 = .ok (.iconst (-1), 1) := by decide +kernel
theorem dX10_here_24 : decode cX10_here 24 = .ok (.ireturn, 1) := by decide +kernel
theorem dX10_look_0 : decode cX10_look 0 = .ok (.aload_n 0, 1) := by decide +kernel
theorem dX10_look_1 : decode cX10_look 1 = .ok (.invokevirtual 115, 3) := by decide +kernel
theorem dX10_look_4 : decode cX10_look 4 = .ok (.bipush 32, 2) := by decide +kernel
theorem dX10_look_6 : decode cX10_look 6 = .ok (.if_icmp .ne 16, 3) := by decide +kernel
theorem dX10_look_9 : decode cX10_look 9 = .ok (.aload_n 0, 1) := by decide +kernel
theorem dX10_look_10 : decode cX10_look 10 = .ok (.dup, 1) := by decide +kernel
theorem dX10_look_11 : decode cX10_look 11 = .ok (.getfield 112, 3) := by decide +kernel
theorem dX10_look_14 : decode cX10_look 14 = .ok (.iconst 1, 1) := by decide +kernel
theorem dX10_look_15 : decode cX10_look 15 = .ok (.iadd, 1) := by decide +kernel
theorem dX10_look_16 : decode cX10_look 16 = .ok (.putfield 112, 3) := by decide +kernel
theorem dX10_look_19 : decode cX10_look 19 = .ok (.goto (-19), 3) := by decide +kernel
theorem dX10_look_22 : decode cX10_look 22 = .ok (.aload_n 0, 1) := by decide +kernel
theorem dX10_look_23 : decode cX10_look 23 = .ok (.invokevirtual 115, 3) := by decide +kernel
theorem dX10_look_26 : decode cX10_look 26 = .ok (.ireturn, 1) := by decide +kernel
theorem dX10_bad_0 : decode cX10_bad 0 = .ok (.aload_n 0, 1) := by decide +kernel
theorem dX10_bad_1 : decode cX10_bad 1 = .ok (.aload_n 0, 1) := by decide +kernel
theorem dX10_bad_2 : decode cX10_bad 2 = .ok (.getfield 119, 3) := by decide +kernel
theorem dX10_bad_5 : decode cX10_bad 5 = .ok (.iconst (-1), 1) := by decide +kernel
theorem dX10_bad_6 : decode cX10_bad 6 = .ok (.if_icmp .ne 10, 3) := by decide +kernel
theorem dX10_bad_9 : decode cX10_bad 9 = .ok (.aload_n 0, 1) := by decide +kernel
theorem dX10_bad_10 : decode cX10_bad 10 = .ok (.getfield 112, 3) := by decide +kernel
theorem dX10_bad_13 : decode cX10_bad 13 = .ok (.goto 7, 3) := by decide +kernel
theorem dX10_bad_16 : decode cX10_bad 16 = .ok (.aload_n 0, 1) := by decide +kernel
theorem dX10_bad_17 : decode cX10_bad 17 = .ok (.getfield 119, 3) := by decide +kernel
theorem dX10_bad_20 : decode cX10_bad 20 = .ok (.putfield 119, 3) := by decide +kernel
theorem dX10_bad_23 : decode cX10_bad 23 = .ok (.return_, 1) := by decide +kernel
theorem dX10_isDigit_0 : decode cX10_isDigit 0 = .ok (.iload_n 0, 1) := by decide +kernel
theorem dX10_isDigit_1 : decode cX10_isDigit 1 = .ok (.bipush 48, 2) := by decide +kernel
theorem dX10_isDigit_3 : decode cX10_isDigit 3 = .ok (.if_icmp .lt 13, 3) := by decide +kernel
theorem dX10_isDigit_6 : decode cX10_isDigit 6 = .ok (.iload_n 0, 1) := by decide +kernel
theorem dX10_isDigit_7 : decode cX10_isDigit 7 = .ok (.bipush 57, 2) := by decide +kernel
theorem dX10_isDigit_9 : decode cX10_isDigit 9 = .ok (.if_icmp .gt 7, 3) := by decide +kernel
theorem dX10_isDigit_12 : decode cX10_isDigit 12 = .ok (.iconst 1, 1) := by decide +kernel
theorem dX10_isDigit_13 : decode cX10_isDigit 13 = .ok (.goto 4, 3) := by decide +kernel
theorem dX10_isDigit_16 : decode cX10_isDigit 16 = .ok (.iconst 0, 1) := by decide +kernel
theorem dX10_isDigit_17 : decode cX10_isDigit 17 = .ok (.ireturn, 1) := by decide +kernel
theorem dX10_put_0 : decode cX10_put 0 = .ok (.aload_n 0, 1) := by decide +kernel
theorem dX10_put_1 : decode cX10_put 1 = .ok (.getfield 13, 3) := by decide +kernel
theorem dX10_put_4 : decode cX10_put 4 = .ok (.sipush 520, 3) := by decide +kernel
theorem dX10_put_7 : decode cX10_put 7 = .ok (.aload_n 0, 1) := by decide +kernel
theorem dX10_put_8 : decode cX10_put 8 = .ok (.getfield 122, 3) := by decide +kernel
theorem dX10_put_11 : decode cX10_put 11 = .ok (.imul, 1) := by decide +kernel
theorem dX10_put_12 : decode cX10_put 12 = .ok (.aload_n 0, 1) := by decide +kernel
theorem dX10_put_13 : decode cX10_put 13 = .ok (.getfield 19, 3) := by decide +kernel
theorem dX10_put_16 : decode cX10_put 16 = .ok (.aload_n 0, 1) := by decide +kernel
theorem dX10_put_17 : decode cX10_put 17 = .ok (.getfield 122, 3) := by decide +kernel
theorem dX10_put_20 : decode cX10_put 20 = .ok (.iaload, 1) := by decide +kernel
theorem dX10_put_21 : decode cX10_put 21 = .ok (.iadd, 1) := by decide +kernel
theorem dX10_put_22 : decode cX10_put 22 = .ok (.iload_n 1, 1) := by decide +kernel
theorem dX10_put_23 : decode cX10_put 23 = .ok (.iastore, 1) := by decide +kernel
theorem dX10_put_24 : decode cX10_put 24 = .ok (.aload_n 0, 1) := by decide +kernel
theorem dX10_put_25 : decode cX10_put 25 = .ok (.getfield 16, 3) := by decide +kernel
theorem dX10_put_28 : decode cX10_put 28 = .ok (.sipush 520, 3) := by decide +kernel
theorem dX10_put_31 : decode cX10_put 31 = .ok (.aload_n 0, 1) := by decide +kernel
theorem dX10_put_32 : decode cX10_put 32 = .ok (.getfield 122, 3) := by decide +kernel
theorem dX10_put_35 : decode cX10_put 35 = .ok (.imul, 1) := by decide +kernel
theorem dX10_put_36 : decode cX10_put 36 = .ok (.aload_n 0, 1) := by decide +kernel
theorem dX10_put_37 : decode cX10_put 37 = .ok (.getfield 19, 3) := by decide +kernel
theorem dX10_put_40 : decode cX10_put 40 = .ok (.aload_n 0, 1) := by decide +kernel
theorem dX10_put_41 : decode cX10_put 41 = .ok (.getfield 122, 3) := by decide +kernel
theorem dX10_put_44 : decode cX10_put 44 = .ok (.iaload, 1) := by decide +kernel
theorem dX10_put_45 : decode cX10_put 45 = .ok (.iadd, 1) := by decide +kernel
theorem dX10_put_46 : decode cX10_put 46 = .ok (.iload_n 2, 1) := by decide +kernel
theorem dX10_put_47 : decode cX10_put 47 = .ok (.iastore, 1) := by decide +kernel
theorem dX10_put_48 : decode cX10_put 48 = .ok (.aload_n 0, 1) := by decide +kernel
theorem dX10_put_49 : decode cX10_put 49 = .ok (.getfield 19, 3) := by decide +kernel
theorem dX10_put_52 : decode cX10_put 52 = .ok (.aload_n 0, 1) := by decide +kernel
theorem dX10_put_53 : decode cX10_put 53 = .ok (.getfield 122, 3) := by decide +kernel
theorem dX10_put_56 : decode cX10_put 56 = .ok (.dup2, 1) := by decide +kernel
theorem dX10_put_57 : decode cX10_put 57 = .ok (.iaload, 1) := by decide +kernel
theorem dX10_put_58 : decode cX10_put 58 = .ok (.iconst 1, 1) := by decide +kernel
theorem dX10_put_59 : decode cX10_put 59 = .ok (.iadd, 1) := by decide +kernel
theorem dX10_put_60 : decode cX10_put 60 = .ok (.iastore, 1) := by decide +kernel
theorem dX10_put_61 : decode cX10_put 61 = .ok (.return_, 1) := by decide +kernel
theorem dX10_letterOf_0 : decode cX10_letterOf 0 = .ok (.iload_n 0, 1) := by decide +kernel
theorem dX10_letterOf_1 : decode cX10_letterOf 1 = .ok (.bipush 108, 2) := by decide +kernel
theorem dX10_letterOf_3 : decode cX10_letterOf 3 = .ok (.if_icmp .ne 7, 3) := by decide +kernel
theorem dX10_letterOf_6 : decode cX10_letterOf 6 = .ok (.iconst 0, 1) := by decide +kernel
theorem dX10_letterOf_7 : decode cX10_letterOf 7 = .ok (.goto 54, 3) := by decide +kernel
theorem dX10_letterOf_10 : decode cX10_letterOf 10 = .ok (.iload_n 0, 1) := by decide +kernel
theorem dX10_letterOf_11 : decode cX10_letterOf 11 = .ok (.bipush 102, 2) := by decide +kernel
theorem dX10_letterOf_13 : decode cX10_letterOf 13 = .ok (.if_icmp .ne 7, 3) := by decide +kernel
theorem dX10_letterOf_16 : decode cX10_letterOf 16 = .ok (.iconst 1, 1) := by decide +kernel
theorem dX10_letterOf_17 : decode cX10_letterOf 17 = .ok (.goto 44, 3) := by decide +kernel
theorem dX10_letterOf_20 : decode cX10_letterOf 20 = .ok (.iload_n 0, 1) := by decide +kernel
theorem dX10_letterOf_21 : decode cX10_letterOf 21 = .ok (.bipush 104, 2) := by decide +kernel
theorem dX10_letterOf_23 : decode cX10_letterOf 23 = .ok (.if_icmp .ne 7, 3) := by decide +kernel
theorem dX10_letterOf_26 : decode cX10_letterOf 26 = .ok (.iconst 2, 1) := by decide +kernel
theorem dX10_letterOf_27 : decode cX10_letterOf 27 = .ok (.goto 34, 3) := by decide +kernel
theorem dX10_letterOf_30 : decode cX10_letterOf 30 = .ok (.iload_n 0, 1) := by decide +kernel
theorem dX10_letterOf_31 : decode cX10_letterOf 31 = .ok (.bipush 103, 2) := by decide +kernel
theorem dX10_letterOf_33 : decode cX10_letterOf 33 = .ok (.if_icmp .ne 7, 3) := by decide +kernel
theorem dX10_letterOf_36 : decode cX10_letterOf 36 = .ok (.iconst 3, 1) := by decide +kernel
theorem dX10_letterOf_37 : decode cX10_letterOf 37 = .ok (.goto 24, 3) := by decide +kernel
theorem dX10_letterOf_40 : decode cX10_letterOf 40 = .ok (.iload_n 0, 1) := by decide +kernel
theorem dX10_letterOf_41 : decode cX10_letterOf 41 = .ok (.bipush 109, 2) := by decide +kernel
theorem dX10_letterOf_43 : decode cX10_letterOf 43 = .ok (.if_icmp .ne 7, 3) := by decide +kernel
theorem dX10_letterOf_46 : decode cX10_letterOf 46 = .ok (.iconst 4, 1) := by decide +kernel
theorem dX10_letterOf_47 : decode cX10_letterOf 47 = .ok (.goto 14, 3) := by decide +kernel
theorem dX10_letterOf_50 : decode cX10_letterOf 50 = .ok (.iload_n 0, 1) := by decide +kernel
theorem dX10_letterOf_51 : decode cX10_letterOf 51 = .ok (.bipush 110, 2) := by decide +kernel
theorem dX10_letterOf_53 : decode cX10_letterOf 53 = .ok (.if_icmp .ne 7, 3) := by decide +kernel
theorem dX10_letterOf_56 : decode cX10_letterOf 56 = .ok (.iconst 5, 1) := by decide +kernel
theorem dX10_letterOf_57 : decode cX10_letterOf 57 = .ok (.goto 4, 3) := by decide +kernel
theorem dX10_letterOf_60 : decode cX10_letterOf 60 = .ok (.iconst (-1), 1) := by decide +kernel
theorem dX10_letterOf_61 : decode cX10_letterOf 61 = .ok (.ireturn, 1) := by decide +kernel
theorem dX10_opens_0 : decode cX10_opens 0 = .ok (.aload_n 0, 1) := by decide +kernel
theorem dX10_opens_1 : decode cX10_opens 1 = .ok (.getfield 125, 3) := by decide +kernel
theorem dX10_opens_4 : decode cX10_opens 4 = .ok (.bipush 6, 2) := by decide +kernel
theorem dX10_opens_6 : decode cX10_opens 6 = .ok (.if_icmp .ne 7, 3) := by decide +kernel
theorem dX10_opens_9 : decode cX10_opens 9 = .ok (.aload_n 0, 1) := by decide +kernel
theorem dX10_opens_10 : decode cX10_opens 10 = .ok (.invokevirtual 128, 3) := by decide +kernel
theorem dX10_opens_13 : decode cX10_opens 13 = .ok (.aload_n 0, 1) := by decide +kernel
theorem dX10_opens_14 : decode cX10_opens 14 = .ok (.dup, 1) := by decide +kernel
theorem dX10_opens_15 : decode cX10_opens 15 = .ok (.getfield 125, 3) := by decide +kernel
theorem dX10_opens_18 : decode cX10_opens 18 = .ok (.iconst 1, 1) := by decide +kernel
theorem dX10_opens_19 : decode cX10_opens 19 = .ok (.iadd, 1) := by decide +kernel
theorem dX10_opens_20 : decode cX10_opens 20 = .ok (.putfield 125, 3) := by decide +kernel
theorem dX10_opens_23 : decode cX10_opens 23 = .ok (.aload_n 0, 1) := by decide +kernel
theorem dX10_opens_24 : decode cX10_opens 24 = .ok (.dup, 1) := by decide +kernel
theorem dX10_opens_25 : decode cX10_opens 25 = .ok (.getfield 112, 3) := by decide +kernel
theorem dX10_opens_28 : decode cX10_opens 28 = .ok (.iconst 1, 1) := by decide +kernel
theorem dX10_opens_29 : decode cX10_opens 29 = .ok (.iadd, 1) := by decide +kernel
theorem dX10_opens_30 : decode cX10_opens 30 = .ok (.putfield 112, 3) := by decide +kernel
theorem dX10_opens_33 : decode cX10_opens 33 = .ok (.return_, 1) := by decide +kernel
theorem dX10_closes_0 : decode cX10_closes 0 = .ok (.aload_n 0, 1) := by decide +kernel
theorem dX10_closes_1 : decode cX10_closes 1 = .ok (.getfield 119, 3) := by decide +kernel
theorem dX10_closes_4 : decode cX10_closes 4 = .ok (.iconst (-1), 1) := by decide +kernel
theorem dX10_closes_5 : decode cX10_closes 5 = .ok (.if_icmp .ne 15, 3) := by decide +kernel
theorem dX10_closes_8 : decode cX10_closes 8 = .ok (.aload_n 0, 1) := by decide +kernel
theorem dX10_closes_9 : decode cX10_closes 9 = .ok (.invokevirtual 131, 3) := by decide +kernel
theorem dX10_closes_12 : decode cX10_closes 12 = .ok (.iload_n 1, 1) := by decide +kernel
theorem dX10_closes_13 : decode cX10_closes 13 = .ok (.if_icmp .eq 7, 3) := by decide +kernel
theorem dX10_closes_16 : decode cX10_closes 16 = .ok (.aload_n 0, 1) := by decide +kernel
theorem dX10_closes_17 : decode cX10_closes 17 = .ok (.invokevirtual 128, 3) := by decide +kernel
theorem dX10_closes_20 : decode cX10_closes 20 = .ok (.aload_n 0, 1) := by decide +kernel
theorem dX10_closes_21 : decode cX10_closes 21 = .ok (.dup, 1) := by decide +kernel
theorem dX10_closes_22 : decode cX10_closes 22 = .ok (.getfield 112, 3) := by decide +kernel
theorem dX10_closes_25 : decode cX10_closes 25 = .ok (.iconst 1, 1) := by decide +kernel
theorem dX10_closes_26 : decode cX10_closes 26 = .ok (.iadd, 1) := by decide +kernel
theorem dX10_closes_27 : decode cX10_closes 27 = .ok (.putfield 112, 3) := by decide +kernel
theorem dX10_closes_30 : decode cX10_closes 30 = .ok (.aload_n 0, 1) := by decide +kernel
theorem dX10_closes_31 : decode cX10_closes 31 = .ok (.dup, 1) := by decide +kernel
theorem dX10_closes_32 : decode cX10_closes 32 = .ok (.getfield 125, 3) := by decide +kernel
theorem dX10_closes_35 : decode cX10_closes 35 = .ok (.iconst 1, 1) := by decide +kernel
theorem dX10_closes_36 : decode cX10_closes 36 = .ok (.isub, 1) := by decide +kernel
theorem dX10_closes_37 : decode cX10_closes 37 = .ok (.putfield 125, 3) := by decide +kernel
theorem dX10_closes_40 : decode cX10_closes 40 = .ok (.return_, 1) := by decide +kernel
theorem dX10_plainNumber_0 : decode cX10_plainNumber 0 = .ok (.iconst 0, 1) := by decide +kernel
theorem dX10_plainNumber_1 : decode cX10_plainNumber 1 = .ok (.istore_n 1, 1) := by decide +kernel
theorem dX10_plainNumber_2 : decode cX10_plainNumber 2 = .ok (.iconst 0, 1) := by decide +kernel
theorem dX10_plainNumber_3 : decode cX10_plainNumber 3 = .ok (.istore_n 2, 1) := by decide +kernel
theorem dX10_plainNumber_4 : decode cX10_plainNumber 4 = .ok (.iload_n 2, 1) := by decide +kernel
theorem dX10_plainNumber_5 : decode cX10_plainNumber 5 = .ok (.iconst 4, 1) := by decide +kernel
theorem dX10_plainNumber_6 : decode cX10_plainNumber 6 = .ok (.if_icmp .ge 42, 3) := by decide +kernel
theorem dX10_plainNumber_9 : decode cX10_plainNumber 9 = .ok (.aload_n 0, 1) := by decide +kernel
theorem dX10_plainNumber_10 : decode cX10_plainNumber 10 = .ok (.invokevirtual 115, 3) := by decide +kernel
theorem dX10_plainNumber_13 : decode cX10_plainNumber 13 = .ok (.invokestatic 134, 3) := by decide +kernel
theorem dX10_plainNumber_16 : decode cX10_plainNumber 16 = .ok (.ifCond .eq 32, 3) := by decide +kernel
theorem dX10_plainNumber_19 : decode cX10_plainNumber 19 = .ok (.bipush 10, 2) := by decide +kernel
theorem dX10_plainNumber_21 : decode cX10_plainNumber 21 = .ok (.iload_n 1, 1) := by decide +kernel
theorem dX10_plainNumber_22 : decode cX10_plainNumber 22 = .ok (.imul, 1) := by decide +kernel
theorem dX10_plainNumber_23 : decode cX10_plainNumber 23 = .ok (.aload_n 0, 1) := by decide +kernel
theorem dX10_plainNumber_24 : decode cX10_plainNumber 24 = .ok (.invokevirtual 115, 3) := by decide +kernel
theorem dX10_plainNumber_27 : decode cX10_plainNumber 27 = .ok (.iadd, 1) := by decide +kernel
theorem dX10_plainNumber_28 : decode cX10_plainNumber 28 = .ok (.bipush 48, 2) := by decide +kernel
theorem dX10_plainNumber_30 : decode cX10_plainNumber 30 = .ok (.isub, 1) := by decide +kernel
theorem dX10_plainNumber_31 : decode cX10_plainNumber 31 = .ok (.istore_n 1, 1) := by decide +kernel
theorem dX10_plainNumber_32 : decode cX10_plainNumber 32 = .ok (.aload_n 0, 1) := by decide +kernel
theorem dX10_plainNumber_33 : decode cX10_plainNumber 33 = .ok (.dup, 1) := by decide +kernel
theorem dX10_plainNumber_34 : decode cX10_plainNumber 34 = .ok (.getfield 112, 3) := by decide +kernel
theorem dX10_plainNumber_37 : decode cX10_plainNumber 37 = .ok (.iconst 1, 1) := by decide +kernel
theorem dX10_plainNumber_38 : decode cX10_plainNumber 38 = .ok (.iadd, 1) := by decide +kernel
theorem dX10_plainNumber_39 : decode cX10_plainNumber 39 = .ok (.putfield 112, 3) := by decide +kernel
theorem dX10_plainNumber_42 : decode cX10_plainNumber 42 = .ok (.iinc 2 1, 3) := by decide +kernel
theorem dX10_plainNumber_45 : decode cX10_plainNumber 45 = .ok (.goto (-41), 3) := by decide +kernel
theorem dX10_plainNumber_48 : decode cX10_plainNumber 48 = .ok (.aload_n 0, 1) := by decide +kernel
theorem dX10_plainNumber_49 : decode cX10_plainNumber 49 = .ok (.invokevirtual 115, 3) := by decide +kernel
theorem dX10_plainNumber_52 : decode cX10_plainNumber 52 = .ok (.invokestatic 134, 3) := by decide +kernel
theorem dX10_plainNumber_55 : decode cX10_plainNumber 55 = .ok (.ifCond .eq 7, 3) := by decide +kernel
theorem dX10_plainNumber_58 : decode cX10_plainNumber 58 = .ok (.aload_n 0, 1) := by decide +kernel
theorem dX10_plainNumber_59 : decode cX10_plainNumber 59 = .ok (.invokevirtual 128, 3) := by decide +kernel
theorem dX10_plainNumber_62 : decode cX10_plainNumber 62 = .ok (.iload_n 1, 1) := by decide +kernel
theorem dX10_plainNumber_63 : decode cX10_plainNumber 63 = .ok (.ireturn, 1) := by decide +kernel
theorem dX10_atom_0 : decode cX10_atom 0 = .ok (.aload_n 0, 1) := by decide +kernel
theorem dX10_atom_1 : decode cX10_atom 1 = .ok (.invokevirtual 131, 3) := by decide +kernel
theorem dX10_atom_4 : decode cX10_atom 4 = .ok (.istore_n 1, 1) := by decide +kernel
theorem dX10_atom_5 : decode cX10_atom 5 = .ok (.iload_n 1, 1) := by decide +kernel
theorem dX10_atom_6 : decode cX10_atom 6 = .ok (.invokestatic 134, 3) := by decide +kernel
theorem dX10_atom_9 : decode cX10_atom 9 = .ok (.ifCond .eq 15, 3) := by decide +kernel
theorem dX10_atom_12 : decode cX10_atom 12 = .ok (.aload_n 0, 1) := by decide +kernel
theorem dX10_atom_13 : decode cX10_atom 13 = .ok (.iconst 0, 1) := by decide +kernel
theorem dX10_atom_14 : decode cX10_atom 14 = .ok (.aload_n 0, 1) := by decide +kernel
theorem dX10_atom_15 : decode cX10_atom 15 = .ok (.invokevirtual 138, 3) := by decide +kernel
theorem dX10_atom_18 : decode cX10_atom 18 = .ok (.invokevirtual 141, 3) := by decide +kernel
theorem dX10_atom_21 : decode cX10_atom 21 = .ok (.goto 68, 3) := by decide +kernel
theorem dX10_atom_24 : decode cX10_atom 24 = .ok (.iload_n 1, 1) := by decide +kernel
theorem dX10_atom_25 : decode cX10_atom 25 = .ok (.invokestatic 145, 3) := by decide +kernel
theorem dX10_atom_28 : decode cX10_atom 28 = .ok (.iconst (-1), 1) := by decide +kernel
theorem dX10_atom_29 : decode cX10_atom 29 = .ok (.if_icmp .eq 25, 3) := by decide +kernel
theorem dX10_atom_32 : decode cX10_atom 32 = .ok (.aload_n 0, 1) := by decide +kernel
theorem dX10_atom_33 : decode cX10_atom 33 = .ok (.dup, 1) := by decide +kernel
theorem dX10_atom_34 : decode cX10_atom 34 = .ok (.getfield 112, 3) := by decide +kernel
theorem dX10_atom_37 : decode cX10_atom 37 = .ok (.iconst 1, 1) := by decide +kernel
theorem dX10_atom_38 : decode cX10_atom 38 = .ok (.iadd, 1) := by decide +kernel
theorem dX10_atom_39 : decode cX10_atom 39 = .ok (.putfield 112, 3) := by decide +kernel
theorem dX10_atom_42 : decode cX10_atom 42 = .ok (.aload_n 0, 1) := by decide +kernel
theorem dX10_atom_43 : decode cX10_atom 43 = .ok (.iconst 1, 1) := by decide +kernel
theorem dX10_atom_44 : decode cX10_atom 44 = .ok (.iload_n 1, 1) := by decide +kernel
theorem dX10_atom_45 : decode cX10_atom 45 = .ok (.invokestatic 145, 3) := by decide +kernel
theorem dX10_atom_48 : decode cX10_atom 48 = .ok (.invokevirtual 141, 3) := by decide +kernel
theorem dX10_atom_51 : decode cX10_atom 51 = .ok (.goto 38, 3) := by decide +kernel
theorem dX10_atom_54 : decode cX10_atom 54 = .ok (.iload_n 1, 1) := by decide +kernel
theorem dX10_atom_55 : decode cX10_atom 55 = .ok (.bipush 91, 2) := by decide +kernel
theorem dX10_atom_57 : decode cX10_atom 57 = .ok (.if_icmp .ne 28, 3) := by decide +kernel
theorem dX10_atom_60 : decode cX10_atom 60 = .ok (.aload_n 0, 1) := by decide +kernel
theorem dX10_atom_61 : decode cX10_atom 61 = .ok (.invokevirtual 149, 3) := by decide +kernel
theorem dX10_atom_64 : decode cX10_atom 64 = .ok (.aload_n 0, 1) := by decide +kernel
theorem dX10_atom_65 : decode cX10_atom 65 = .ok (.getfield 119, 3) := by decide +kernel
theorem dX10_atom_68 : decode cX10_atom 68 = .ok (.iconst (-1), 1) := by decide +kernel
theorem dX10_atom_69 : decode cX10_atom 69 = .ok (.if_icmp .ne 20, 3) := by decide +kernel
theorem dX10_atom_72 : decode cX10_atom 72 = .ok (.aload_n 0, 1) := by decide +kernel
theorem dX10_atom_73 : decode cX10_atom 73 = .ok (.invokevirtual 152, 3) := by decide +kernel
theorem dX10_atom_76 : decode cX10_atom 76 = .ok (.aload_n 0, 1) := by decide +kernel
theorem dX10_atom_77 : decode cX10_atom 77 = .ok (.bipush 93, 2) := by decide +kernel
theorem dX10_atom_79 : decode cX10_atom 79 = .ok (.invokevirtual 155, 3) := by decide +kernel
theorem dX10_atom_82 : decode cX10_atom 82 = .ok (.goto 7, 3) := by decide +kernel
theorem dX10_atom_85 : decode cX10_atom 85 = .ok (.aload_n 0, 1) := by decide +kernel
theorem dX10_atom_86 : decode cX10_atom 86 = .ok (.invokevirtual 128, 3) := by decide +kernel
theorem dX10_atom_89 : decode cX10_atom 89 = .ok (.return_, 1) := by decide +kernel
theorem dX10_term_0 : decode cX10_term 0 = .ok (.aload_n 0, 1) := by decide +kernel
theorem dX10_term_1 : decode cX10_term 1 = .ok (.invokevirtual 159, 3) := by decide +kernel
theorem dX10_term_4 : decode cX10_term 4 = .ok (.aload_n 0, 1) := by decide +kernel
theorem dX10_term_5 : decode cX10_term 5 = .ok (.getfield 119, 3) := by decide +kernel
theorem dX10_term_8 : decode cX10_term 8 = .ok (.iconst (-1), 1) := by decide +kernel
theorem dX10_term_9 : decode cX10_term 9 = .ok (.if_icmp .ne 10, 3) := by decide +kernel
theorem dX10_term_12 : decode cX10_term 12 = .ok (.aload_n 0, 1) := by decide +kernel
theorem dX10_term_13 : decode cX10_term 13 = .ok (.invokevirtual 131, 3) := by decide +kernel
theorem dX10_term_16 : decode cX10_term 16 = .ok (.goto 4, 3) := by decide +kernel
theorem dX10_term_19 : decode cX10_term 19 = .ok (.iconst (-1), 1) := by decide +kernel
theorem dX10_term_20 : decode cX10_term 20 = .ok (.istore_n 1, 1) := by decide +kernel
theorem dX10_term_21 : decode cX10_term 21 = .ok (.iload_n 1, 1) := by decide +kernel
theorem dX10_term_22 : decode cX10_term 22 = .ok (.bipush 42, 2) := by decide +kernel
theorem dX10_term_24 : decode cX10_term 24 = .ok (.if_icmp .eq 9, 3) := by decide +kernel
theorem dX10_term_27 : decode cX10_term 27 = .ok (.iload_n 1, 1) := by decide +kernel
theorem dX10_term_28 : decode cX10_term 28 = .ok (.bipush 47, 2) := by decide +kernel
theorem dX10_term_30 : decode cX10_term 30 = .ok (.if_icmp .ne 53, 3) := by decide +kernel
theorem dX10_term_33 : decode cX10_term 33 = .ok (.aload_n 0, 1) := by decide +kernel
theorem dX10_term_34 : decode cX10_term 34 = .ok (.dup, 1) := by decide +kernel
theorem dX10_term_35 : decode cX10_term 35 = .ok (.getfield 112, 3) := by decide +kernel
theorem dX10_term_38 : decode cX10_term 38 = .ok (.iconst 1, 1) := by decide +kernel
theorem dX10_term_39 : decode cX10_term 39 = .ok (.iadd, 1) := by decide +kernel
theorem dX10_term_40 : decode cX10_term 40 = .ok (.putfield 112, 3) := by decide +kernel
theorem dX10_term_43 : decode cX10_term 43 = .ok (.aload_n 0, 1) := by decide +kernel
theorem dX10_term_44 : decode cX10_term 44 = .ok (.invokevirtual 159, 3) := by decide +kernel
theorem dX10_term_47 : decode cX10_term 47 = .ok (.aload_n 0, 1) := by decide +kernel
theorem dX10_term_48 : decode cX10_term 48 = .ok (.iload_n 1, 1) := by decide +kernel
theorem dX10_term_49 : decode cX10_term 49 = .ok (.bipush 42, 2) := by decide +kernel
theorem dX10_term_51 : decode cX10_term 51 = .ok (.if_icmp .ne 7, 3) := by decide +kernel
theorem dX10_term_54 : decode cX10_term 54 = .ok (.iconst 4, 1) := by decide +kernel
theorem dX10_term_55 : decode cX10_term 55 = .ok (.goto 4, 3) := by decide +kernel
theorem dX10_term_58 : decode cX10_term 58 = .ok (.iconst 5, 1) := by decide +kernel
theorem dX10_term_59 : decode cX10_term 59 = .ok (.iconst 0, 1) := by decide +kernel
theorem dX10_term_60 : decode cX10_term 60 = .ok (.invokevirtual 141, 3) := by decide +kernel
theorem dX10_term_63 : decode cX10_term 63 = .ok (.aload_n 0, 1) := by decide +kernel
theorem dX10_term_64 : decode cX10_term 64 = .ok (.getfield 119, 3) := by decide +kernel
theorem dX10_term_67 : decode cX10_term 67 = .ok (.iconst (-1), 1) := by decide +kernel
theorem dX10_term_68 : decode cX10_term 68 = .ok (.if_icmp .ne 10, 3) := by decide +kernel
theorem dX10_term_71 : decode cX10_term 71 = .ok (.aload_n 0, 1) := by decide +kernel
theorem dX10_term_72 : decode cX10_term 72 = .ok (.invokevirtual 131, 3) := by decide +kernel
theorem dX10_term_75 : decode cX10_term 75 = .ok (.goto 4, 3) := by decide +kernel
theorem dX10_term_78 : decode cX10_term 78 = .ok (.iconst (-1), 1) := by decide +kernel
theorem dX10_term_79 : decode cX10_term 79 = .ok (.istore_n 1, 1) := by decide +kernel
theorem dX10_term_80 : decode cX10_term 80 = .ok (.goto (-59), 3) := by decide +kernel
theorem dX10_term_83 : decode cX10_term 83 = .ok (.return_, 1) := by decide +kernel
theorem dX10_sum_0 : decode cX10_sum 0 = .ok (.aload_n 0, 1) := by decide +kernel
theorem dX10_sum_1 : decode cX10_sum 1 = .ok (.invokevirtual 162, 3) := by decide +kernel
theorem dX10_sum_4 : decode cX10_sum 4 = .ok (.aload_n 0, 1) := by decide +kernel
theorem dX10_sum_5 : decode cX10_sum 5 = .ok (.getfield 119, 3) := by decide +kernel
theorem dX10_sum_8 : decode cX10_sum 8 = .ok (.iconst (-1), 1) := by decide +kernel
theorem dX10_sum_9 : decode cX10_sum 9 = .ok (.if_icmp .ne 10, 3) := by decide +kernel
theorem dX10_sum_12 : decode cX10_sum 12 = .ok (.aload_n 0, 1) := by decide +kernel
theorem dX10_sum_13 : decode cX10_sum 13 = .ok (.invokevirtual 131, 3) := by decide +kernel
theorem dX10_sum_16 : decode cX10_sum 16 = .ok (.goto 4, 3) := by decide +kernel
theorem dX10_sum_19 : decode cX10_sum 19 = .ok (.iconst (-1), 1) := by decide +kernel
theorem dX10_sum_20 : decode cX10_sum 20 = .ok (.istore_n 1, 1) := by decide +kernel
theorem dX10_sum_21 : decode cX10_sum 21 = .ok (.iload_n 1, 1) := by decide +kernel
theorem dX10_sum_22 : decode cX10_sum 22 = .ok (.bipush 43, 2) := by decide +kernel
theorem dX10_sum_24 : decode cX10_sum 24 = .ok (.if_icmp .eq 9, 3) := by decide +kernel
theorem dX10_sum_27 : decode cX10_sum 27 = .ok (.iload_n 1, 1) := by decide +kernel
theorem dX10_sum_28 : decode cX10_sum 28 = .ok (.bipush 45, 2) := by decide +kernel
theorem dX10_sum_30 : decode cX10_sum 30 = .ok (.if_icmp .ne 53, 3) := by decide +kernel
theorem dX10_sum_33 : decode cX10_sum 33 = .ok (.aload_n 0, 1) := by decide +kernel
theorem dX10_sum_34 : decode cX10_sum 34 = .ok (.dup, 1) := by decide +kernel
theorem dX10_sum_35 : decode cX10_sum 35 = .ok (.getfield 112, 3) := by decide +kernel
theorem dX10_sum_38 : decode cX10_sum 38 = .ok (.iconst 1, 1) := by decide +kernel
theorem dX10_sum_39 : decode cX10_sum 39 = .ok (.iadd, 1) := by decide +kernel
theorem dX10_sum_40 : decode cX10_sum 40 = .ok (.putfield 112, 3) := by decide +kernel
theorem dX10_sum_43 : decode cX10_sum 43 = .ok (.aload_n 0, 1) := by decide +kernel
theorem dX10_sum_44 : decode cX10_sum 44 = .ok (.invokevirtual 162, 3) := by decide +kernel
theorem dX10_sum_47 : decode cX10_sum 47 = .ok (.aload_n 0, 1) := by decide +kernel
theorem dX10_sum_48 : decode cX10_sum 48 = .ok (.iload_n 1, 1) := by decide +kernel
theorem dX10_sum_49 : decode cX10_sum 49 = .ok (.bipush 43, 2) := by decide +kernel
theorem dX10_sum_51 : decode cX10_sum 51 = .ok (.if_icmp .ne 7, 3) := by decide +kernel
theorem dX10_sum_54 : decode cX10_sum 54 = .ok (.iconst 2, 1) := by decide +kernel
theorem dX10_sum_55 : decode cX10_sum 55 = .ok (.goto 4, 3) := by decide +kernel
theorem dX10_sum_58 : decode cX10_sum 58 = .ok (.iconst 3, 1) := by decide +kernel
theorem dX10_sum_59 : decode cX10_sum 59 = .ok (.iconst 0, 1) := by decide +kernel
theorem dX10_sum_60 : decode cX10_sum 60 = .ok (.invokevirtual 141, 3) := by decide +kernel
theorem dX10_sum_63 : decode cX10_sum 63 = .ok (.aload_n 0, 1) := by decide +kernel
theorem dX10_sum_64 : decode cX10_sum 64 = .ok (.getfield 119, 3) := by decide +kernel
theorem dX10_sum_67 : decode cX10_sum 67 = .ok (.iconst (-1), 1) := by decide +kernel
theorem dX10_sum_68 : decode cX10_sum 68 = .ok (.if_icmp .ne 10, 3) := by decide +kernel
theorem dX10_sum_71 : decode cX10_sum 71 = .ok (.aload_n 0, 1) := by decide +kernel
theorem dX10_sum_72 : decode cX10_sum 72 = .ok (.invokevirtual 131, 3) := by decide +kernel
theorem dX10_sum_75 : decode cX10_sum 75 = .ok (.goto 4, 3) := by decide +kernel
theorem dX10_sum_78 : decode cX10_sum 78 = .ok (.iconst (-1), 1) := by decide +kernel
theorem dX10_sum_79 : decode cX10_sum 79 = .ok (.istore_n 1, 1) := by decide +kernel
theorem dX10_sum_80 : decode cX10_sum 80 = .ok (.goto (-59), 3) := by decide +kernel
theorem dX10_sum_83 : decode cX10_sum 83 = .ok (.return_, 1) := by decide +kernel
theorem dX10_isSign_0 : decode cX10_isSign 0 = .ok (.iload_n 0, 1) := by decide +kernel
theorem dX10_isSign_1 : decode cX10_isSign 1 = .ok (.bipush 61, 2) := by decide +kernel
theorem dX10_isSign_3 : decode cX10_isSign 3 = .ok (.if_icmp .eq 15, 3) := by decide +kernel
theorem dX10_isSign_6 : decode cX10_isSign 6 = .ok (.iload_n 0, 1) := by decide +kernel
theorem dX10_isSign_7 : decode cX10_isSign 7 = .ok (.bipush 60, 2) := by decide +kernel
theorem dX10_isSign_9 : decode cX10_isSign 9 = .ok (.if_icmp .eq 9, 3) := by decide +kernel
theorem dX10_isSign_12 : decode cX10_isSign 12 = .ok (.iload_n 0, 1) := by decide +kernel
theorem dX10_isSign_13 : decode cX10_isSign 13 = .ok (.bipush 62, 2) := by decide +kernel
theorem dX10_isSign_15 : decode cX10_isSign 15 = .ok (.if_icmp .ne 7, 3) := by decide +kernel
theorem dX10_isSign_18 : decode cX10_isSign 18 = .ok (.iconst 1, 1) := by decide +kernel
theorem dX10_isSign_19 : decode cX10_isSign 19 = .ok (.goto 4, 3) := by decide +kernel
theorem dX10_isSign_22 : decode cX10_isSign 22 = .ok (.iconst 0, 1) := by decide +kernel
theorem dX10_isSign_23 : decode cX10_isSign 23 = .ok (.ireturn, 1) := by decide +kernel
theorem dX10_compare_0 : decode cX10_compare 0 = .ok (.aload_n 0, 1) := by decide +kernel
theorem dX10_compare_1 : decode cX10_compare 1 = .ok (.getfield 119, 3) := by decide +kernel
theorem dX10_compare_4 : decode cX10_compare 4 = .ok (.iconst (-1), 1) := by decide +kernel
theorem dX10_compare_5 : decode cX10_compare 5 = .ok (.if_icmp .ne 10, 3) := by decide +kernel
theorem dX10_compare_8 : decode cX10_compare 8 = .ok (.aload_n 0, 1) := by decide +kernel
theorem dX10_compare_9 : decode cX10_compare 9 = .ok (.invokevirtual 131, 3) := by decide +kernel
theorem dX10_compare_12 : decode cX10_compare 12 = .ok (.goto 4, 3) := by decide +kernel
theorem dX10_compare_15 : decode cX10_compare 15 = .ok (.iconst (-1), 1) := by decide +kernel
theorem dX10_compare_16 : decode cX10_compare 16 = .ok (.istore_n 1, 1) := by decide +kernel
theorem dX10_compare_17 : decode cX10_compare 17 = .ok (.iload_n 1, 1) := by decide +kernel
theorem dX10_compare_18 : decode cX10_compare 18 = .ok (.invokestatic 165, 3) := by decide +kernel
theorem dX10_compare_21 : decode cX10_compare 21 = .ok (.ifCond .ne 8, 3) := by decide +kernel
theorem dX10_compare_24 : decode cX10_compare 24 = .ok (.aload_n 0, 1) := by decide +kernel
theorem dX10_compare_25 : decode cX10_compare 25 = .ok (.invokevirtual 128, 3) := by decide +kernel
theorem dX10_compare_28 : decode cX10_compare 28 = .ok (.return_, 1) := by decide +kernel
theorem dX10_compare_29 : decode cX10_compare 29 = .ok (.aload_n 0, 1) := by decide +kernel
theorem dX10_compare_30 : decode cX10_compare 30 = .ok (.dup, 1) := by decide +kernel
theorem dX10_compare_31 : decode cX10_compare 31 = .ok (.getfield 112, 3) := by decide +kernel
theorem dX10_compare_34 : decode cX10_compare 34 = .ok (.iconst 1, 1) := by decide +kernel
theorem dX10_compare_35 : decode cX10_compare 35 = .ok (.iadd, 1) := by decide +kernel
theorem dX10_compare_36 : decode cX10_compare 36 = .ok (.putfield 112, 3) := by decide +kernel
theorem dX10_compare_39 : decode cX10_compare 39 = .ok (.aload_n 0, 1) := by decide +kernel
theorem dX10_compare_40 : decode cX10_compare 40 = .ok (.invokevirtual 152, 3) := by decide +kernel
theorem dX10_compare_43 : decode cX10_compare 43 = .ok (.aload_n 0, 1) := by decide +kernel
theorem dX10_compare_44 : decode cX10_compare 44 = .ok (.iload_n 1, 1) := by decide +kernel
theorem dX10_compare_45 : decode cX10_compare 45 = .ok (.bipush 61, 2) := by decide +kernel
theorem dX10_compare_47 : decode cX10_compare 47 = .ok (.if_icmp .ne 8, 3) := by decide +kernel
theorem dX10_compare_50 : decode cX10_compare 50 = .ok (.bipush 6, 2) := by decide +kernel
theorem dX10_compare_52 : decode cX10_compare 52 = .ok (.goto 16, 3) := by decide +kernel
theorem dX10_compare_55 : decode cX10_compare 55 = .ok (.iload_n 1, 1) := by decide +kernel
theorem dX10_compare_56 : decode cX10_compare 56 = .ok (.bipush 60, 2) := by decide +kernel
theorem dX10_compare_58 : decode cX10_compare 58 = .ok (.if_icmp .ne 8, 3) := by decide +kernel
theorem dX10_compare_61 : decode cX10_compare 61 = .ok (.bipush 7, 2) := by decide +kernel
theorem dX10_compare_63 : decode cX10_compare 63 = .ok (.goto 5, 3) := by decide +kernel
theorem dX10_compare_66 : decode cX10_compare 66 = .ok (.bipush 8, 2) := by decide +kernel
theorem dX10_compare_68 : decode cX10_compare 68 = .ok (.iconst 0, 1) := by decide +kernel
theorem dX10_compare_69 : decode cX10_compare 69 = .ok (.invokevirtual 141, 3) := by decide +kernel
theorem dX10_compare_72 : decode cX10_compare 72 = .ok (.return_, 1) := by decide +kernel
theorem dX10_unit_0 : decode cX10_unit 0 = .ok (.aload_n 0, 1) := by decide +kernel
theorem dX10_unit_1 : decode cX10_unit 1 = .ok (.invokevirtual 131, 3) := by decide +kernel
theorem dX10_unit_4 : decode cX10_unit 4 = .ok (.istore_n 1, 1) := by decide +kernel
theorem dX10_unit_5 : decode cX10_unit 5 = .ok (.iload_n 1, 1) := by decide +kernel
theorem dX10_unit_6 : decode cX10_unit 6 = .ok (.bipush 33, 2) := by decide +kernel
theorem dX10_unit_8 : decode cX10_unit 8 = .ok (.if_icmp .ne 39, 3) := by decide +kernel
theorem dX10_unit_11 : decode cX10_unit 11 = .ok (.aload_n 0, 1) := by decide +kernel
theorem dX10_unit_12 : decode cX10_unit 12 = .ok (.invokevirtual 149, 3) := by decide +kernel
theorem dX10_unit_15 : decode cX10_unit 15 = .ok (.aload_n 0, 1) := by decide +kernel
theorem dX10_unit_16 : decode cX10_unit 16 = .ok (.getfield 119, 3) := by decide +kernel
theorem dX10_unit_19 : decode cX10_unit 19 = .ok (.iconst (-1), 1) := by decide +kernel
theorem dX10_unit_20 : decode cX10_unit 20 = .ok (.if_icmp .ne 74, 3) := by decide +kernel
theorem dX10_unit_23 : decode cX10_unit 23 = .ok (.aload_n 0, 1) := by decide +kernel
theorem dX10_unit_24 : decode cX10_unit 24 = .ok (.invokevirtual 168, 3) := by decide +kernel
theorem dX10_unit_27 : decode cX10_unit 27 = .ok (.aload_n 0, 1) := by decide +kernel
theorem dX10_unit_28 : decode cX10_unit 28 = .ok (.bipush 9, 2) := by decide +kernel
theorem dX10_unit_30 : decode cX10_unit 30 = .ok (.iconst 0, 1) := by decide +kernel
theorem dX10_unit_31 : decode cX10_unit 31 = .ok (.invokevirtual 141, 3) := by decide +kernel
theorem dX10_unit_34 : decode cX10_unit 34 = .ok (.aload_n 0, 1) := by decide +kernel
theorem dX10_unit_35 : decode cX10_unit 35 = .ok (.dup, 1) := by decide +kernel
theorem dX10_unit_36 : decode cX10_unit 36 = .ok (.getfield 125, 3) := by decide +kernel
theorem dX10_unit_39 : decode cX10_unit 39 = .ok (.iconst 1, 1) := by decide +kernel
theorem dX10_unit_40 : decode cX10_unit 40 = .ok (.isub, 1) := by decide +kernel
theorem dX10_unit_41 : decode cX10_unit 41 = .ok (.putfield 125, 3) := by decide +kernel
theorem dX10_unit_44 : decode cX10_unit 44 = .ok (.goto 50, 3) := by decide +kernel
theorem dX10_unit_47 : decode cX10_unit 47 = .ok (.iload_n 1, 1) := by decide +kernel
theorem dX10_unit_48 : decode cX10_unit 48 = .ok (.bipush 40, 2) := by decide +kernel
theorem dX10_unit_50 : decode cX10_unit 50 = .ok (.if_icmp .ne 28, 3) := by decide +kernel
theorem dX10_unit_53 : decode cX10_unit 53 = .ok (.aload_n 0, 1) := by decide +kernel
theorem dX10_unit_54 : decode cX10_unit 54 = .ok (.invokevirtual 149, 3) := by decide +kernel
theorem dX10_unit_57 : decode cX10_unit 57 = .ok (.aload_n 0, 1) := by decide +kernel
theorem dX10_unit_58 : decode cX10_unit 58 = .ok (.getfield 119, 3) := by decide +kernel
theorem dX10_unit_61 : decode cX10_unit 61 = .ok (.iconst (-1), 1) := by decide +kernel
theorem dX10_unit_62 : decode cX10_unit 62 = .ok (.if_icmp .ne 32, 3) := by decide +kernel
theorem dX10_unit_65 : decode cX10_unit 65 = .ok (.aload_n 0, 1) := by decide +kernel
theorem dX10_unit_66 : decode cX10_unit 66 = .ok (.invokevirtual 171, 3) := by decide +kernel
theorem dX10_unit_69 : decode cX10_unit 69 = .ok (.aload_n 0, 1) := by decide +kernel
theorem dX10_unit_70 : decode cX10_unit 70 = .ok (.bipush 41, 2) := by decide +kernel
theorem dX10_unit_72 : decode cX10_unit 72 = .ok (.invokevirtual 155, 3) := by decide +kernel
theorem dX10_unit_75 : decode cX10_unit 75 = .ok (.goto 19, 3) := by decide +kernel
theorem dX10_unit_78 : decode cX10_unit 78 = .ok (.aload_n 0, 1) := by decide +kernel
theorem dX10_unit_79 : decode cX10_unit 79 = .ok (.invokevirtual 152, 3) := by decide +kernel
theorem dX10_unit_82 : decode cX10_unit 82 = .ok (.aload_n 0, 1) := by decide +kernel
theorem dX10_unit_83 : decode cX10_unit 83 = .ok (.getfield 119, 3) := by decide +kernel
theorem dX10_unit_86 : decode cX10_unit 86 = .ok (.iconst (-1), 1) := by decide +kernel
theorem dX10_unit_87 : decode cX10_unit 87 = .ok (.if_icmp .ne 7, 3) := by decide +kernel
theorem dX10_unit_90 : decode cX10_unit 90 = .ok (.aload_n 0, 1) := by decide +kernel
theorem dX10_unit_91 : decode cX10_unit 91 = .ok (.invokevirtual 174, 3) := by decide +kernel
theorem dX10_unit_94 : decode cX10_unit 94 = .ok (.return_, 1) := by decide +kernel
theorem dX10_goOnAnd_0 : decode cX10_goOnAnd 0 = .ok (.aload_n 0, 1) := by decide +kernel
theorem dX10_goOnAnd_1 : decode cX10_goOnAnd 1 = .ok (.getfield 119, 3) := by decide +kernel
theorem dX10_goOnAnd_4 : decode cX10_goOnAnd 4 = .ok (.iconst (-1), 1) := by decide +kernel
theorem dX10_goOnAnd_5 : decode cX10_goOnAnd 5 = .ok (.if_icmp .ne 36, 3) := by decide +kernel
theorem dX10_goOnAnd_8 : decode cX10_goOnAnd 8 = .ok (.aload_n 0, 1) := by decide +kernel
theorem dX10_goOnAnd_9 : decode cX10_goOnAnd 9 = .ok (.invokevirtual 131, 3) := by decide +kernel
theorem dX10_goOnAnd_12 : decode cX10_goOnAnd 12 = .ok (.bipush 38, 2) := by decide +kernel
theorem dX10_goOnAnd_14 : decode cX10_goOnAnd 14 = .ok (.if_icmp .ne 27, 3) := by decide +kernel
theorem dX10_goOnAnd_17 : decode cX10_goOnAnd 17 = .ok (.aload_n 0, 1) := by decide +kernel
theorem dX10_goOnAnd_18 : decode cX10_goOnAnd 18 = .ok (.dup, 1) := by decide +kernel
theorem dX10_goOnAnd_19 : decode cX10_goOnAnd 19 = .ok (.getfield 112, 3) := by decide +kernel
theorem dX10_goOnAnd_22 : decode cX10_goOnAnd 22 = .ok (.iconst 1, 1) := by decide +kernel
theorem dX10_goOnAnd_23 : decode cX10_goOnAnd 23 = .ok (.iadd, 1) := by decide +kernel
theorem dX10_goOnAnd_24 : decode cX10_goOnAnd 24 = .ok (.putfield 112, 3) := by decide +kernel
theorem dX10_goOnAnd_27 : decode cX10_goOnAnd 27 = .ok (.aload_n 0, 1) := by decide +kernel
theorem dX10_goOnAnd_28 : decode cX10_goOnAnd 28 = .ok (.invokevirtual 168, 3) := by decide +kernel
theorem dX10_goOnAnd_31 : decode cX10_goOnAnd 31 = .ok (.aload_n 0, 1) := by decide +kernel
theorem dX10_goOnAnd_32 : decode cX10_goOnAnd 32 = .ok (.bipush 10, 2) := by decide +kernel
theorem dX10_goOnAnd_34 : decode cX10_goOnAnd 34 = .ok (.iconst 0, 1) := by decide +kernel
theorem dX10_goOnAnd_35 : decode cX10_goOnAnd 35 = .ok (.invokevirtual 141, 3) := by decide +kernel
theorem dX10_goOnAnd_38 : decode cX10_goOnAnd 38 = .ok (.goto (-38), 3) := by decide +kernel
theorem dX10_goOnAnd_41 : decode cX10_goOnAnd 41 = .ok (.return_, 1) := by decide +kernel
theorem dX10_goOnOr_0 : decode cX10_goOnOr 0 = .ok (.aload_n 0, 1) := by decide +kernel
theorem dX10_goOnOr_1 : decode cX10_goOnOr 1 = .ok (.getfield 119, 3) := by decide +kernel
theorem dX10_goOnOr_4 : decode cX10_goOnOr 4 = .ok (.iconst (-1), 1) := by decide +kernel
theorem dX10_goOnOr_5 : decode cX10_goOnOr 5 = .ok (.if_icmp .ne 40, 3) := by decide +kernel
theorem dX10_goOnOr_8 : decode cX10_goOnOr 8 = .ok (.aload_n 0, 1) := by decide +kernel
theorem dX10_goOnOr_9 : decode cX10_goOnOr 9 = .ok (.invokevirtual 131, 3) := by decide +kernel
theorem dX10_goOnOr_12 : decode cX10_goOnOr 12 = .ok (.bipush 124, 2) := by decide +kernel
theorem dX10_goOnOr_14 : decode cX10_goOnOr 14 = .ok (.if_icmp .ne 31, 3) := by decide +kernel
theorem dX10_goOnOr_17 : decode cX10_goOnOr 17 = .ok (.aload_n 0, 1) := by decide +kernel
theorem dX10_goOnOr_18 : decode cX10_goOnOr 18 = .ok (.dup, 1) := by decide +kernel
theorem dX10_goOnOr_19 : decode cX10_goOnOr 19 = .ok (.getfield 112, 3) := by decide +kernel
theorem dX10_goOnOr_22 : decode cX10_goOnOr 22 = .ok (.iconst 1, 1) := by decide +kernel
theorem dX10_goOnOr_23 : decode cX10_goOnOr 23 = .ok (.iadd, 1) := by decide +kernel
theorem dX10_goOnOr_24 : decode cX10_goOnOr 24 = .ok (.putfield 112, 3) := by decide +kernel
theorem dX10_goOnOr_27 : decode cX10_goOnOr 27 = .ok (.aload_n 0, 1) := by decide +kernel
theorem dX10_goOnOr_28 : decode cX10_goOnOr 28 = .ok (.invokevirtual 168, 3) := by decide +kernel
theorem dX10_goOnOr_31 : decode cX10_goOnOr 31 = .ok (.aload_n 0, 1) := by decide +kernel
theorem dX10_goOnOr_32 : decode cX10_goOnOr 32 = .ok (.invokevirtual 177, 3) := by decide +kernel
theorem dX10_goOnOr_35 : decode cX10_goOnOr 35 = .ok (.aload_n 0, 1) := by decide +kernel
theorem dX10_goOnOr_36 : decode cX10_goOnOr 36 = .ok (.bipush 11, 2) := by decide +kernel
theorem dX10_goOnOr_38 : decode cX10_goOnOr 38 = .ok (.iconst 0, 1) := by decide +kernel
theorem dX10_goOnOr_39 : decode cX10_goOnOr 39 = .ok (.invokevirtual 141, 3) := by decide +kernel
theorem dX10_goOnOr_42 : decode cX10_goOnOr 42 = .ok (.goto (-42), 3) := by decide +kernel
theorem dX10_goOnOr_45 : decode cX10_goOnOr 45 = .ok (.return_, 1) := by decide +kernel
theorem dX10_condition_0 : decode cX10_condition 0 = .ok (.aload_n 0, 1) := by decide +kernel
theorem dX10_condition_1 : decode cX10_condition 1 = .ok (.invokevirtual 168, 3) := by decide +kernel
theorem dX10_condition_4 : decode cX10_condition 4 = .ok (.aload_n 0, 1) := by decide +kernel
theorem dX10_condition_5 : decode cX10_condition 5 = .ok (.invokevirtual 177, 3) := by decide +kernel
theorem dX10_condition_8 : decode cX10_condition 8 = .ok (.aload_n 0, 1) := by decide +kernel
theorem dX10_condition_9 : decode cX10_condition 9 = .ok (.invokevirtual 180, 3) := by decide +kernel
theorem dX10_condition_12 : decode cX10_condition 12 = .ok (.return_, 1) := by decide +kernel
theorem dX10_clause_0 : decode cX10_clause 0 = .ok (.sipush 140, 3) := by decide +kernel
theorem dX10_clause_3 : decode cX10_clause 3 = .ok (.aload_n 0, 1) := by decide +kernel
theorem dX10_clause_4 : decode cX10_clause 4 = .ok (.getfield 122, 3) := by decide +kernel
theorem dX10_clause_7 : decode cX10_clause 7 = .ok (.imul, 1) := by decide +kernel
theorem dX10_clause_8 : decode cX10_clause 8 = .ok (.aload_n 0, 1) := by decide +kernel
theorem dX10_clause_9 : decode cX10_clause 9 = .ok (.getfield 22, 3) := by decide +kernel
theorem dX10_clause_12 : decode cX10_clause 12 = .ok (.aload_n 0, 1) := by decide +kernel
theorem dX10_clause_13 : decode cX10_clause 13 = .ok (.getfield 122, 3) := by decide +kernel
theorem dX10_clause_16 : decode cX10_clause 16 = .ok (.iaload, 1) := by decide +kernel
theorem dX10_clause_17 : decode cX10_clause 17 = .ok (.iadd, 1) := by decide +kernel
theorem dX10_clause_18 : decode cX10_clause 18 = .ok (.istore_n 1, 1) := by decide +kernel
theorem dX10_clause_19 : decode cX10_clause 19 = .ok (.aload_n 0, 1) := by decide +kernel
theorem dX10_clause_20 : decode cX10_clause 20 = .ok (.getfield 119, 3) := by decide +kernel
theorem dX10_clause_23 : decode cX10_clause 23 = .ok (.iconst (-1), 1) := by decide +kernel
theorem dX10_clause_24 : decode cX10_clause 24 = .ok (.if_icmp .ne 16, 3) := by decide +kernel
theorem dX10_clause_27 : decode cX10_clause 27 = .ok (.aload_n 0, 1) := by decide +kernel
theorem dX10_clause_28 : decode cX10_clause 28 = .ok (.invokevirtual 131, 3) := by decide +kernel
theorem dX10_clause_31 : decode cX10_clause 31 = .ok (.bipush 121, 2) := by decide +kernel
theorem dX10_clause_33 : decode cX10_clause 33 = .ok (.if_icmp .eq 7, 3) := by decide +kernel
theorem dX10_clause_36 : decode cX10_clause 36 = .ok (.aload_n 0, 1) := by decide +kernel
theorem dX10_clause_37 : decode cX10_clause 37 = .ok (.invokevirtual 128, 3) := by decide +kernel
theorem dX10_clause_40 : decode cX10_clause 40 = .ok (.aload_n 0, 1) := by decide +kernel
theorem dX10_clause_41 : decode cX10_clause 41 = .ok (.dup, 1) := by decide +kernel
theorem dX10_clause_42 : decode cX10_clause 42 = .ok (.getfield 112, 3) := by decide +kernel
theorem dX10_clause_45 : decode cX10_clause 45 = .ok (.iconst 1, 1) := by decide +kernel
theorem dX10_clause_46 : decode cX10_clause 46 = .ok (.iadd, 1) := by decide +kernel
theorem dX10_clause_47 : decode cX10_clause 47 = .ok (.putfield 112, 3) := by decide +kernel
theorem dX10_clause_50 : decode cX10_clause 50 = .ok (.aload_n 0, 1) := by decide +kernel
theorem dX10_clause_51 : decode cX10_clause 51 = .ok (.getfield 119, 3) := by decide +kernel
theorem dX10_clause_54 : decode cX10_clause 54 = .ok (.iconst (-1), 1) := by decide +kernel
theorem dX10_clause_55 : decode cX10_clause 55 = .ok (.if_icmp .ne 16, 3) := by decide +kernel
theorem dX10_clause_58 : decode cX10_clause 58 = .ok (.aload_n 0, 1) := by decide +kernel
theorem dX10_clause_59 : decode cX10_clause 59 = .ok (.invokevirtual 131, 3) := by decide +kernel
theorem dX10_clause_62 : decode cX10_clause 62 = .ok (.bipush 58, 2) := by decide +kernel
theorem dX10_clause_64 : decode cX10_clause 64 = .ok (.if_icmp .eq 7, 3) := by decide +kernel
theorem dX10_clause_67 : decode cX10_clause 67 = .ok (.aload_n 0, 1) := by decide +kernel
theorem dX10_clause_68 : decode cX10_clause 68 = .ok (.invokevirtual 128, 3) := by decide +kernel
theorem dX10_clause_71 : decode cX10_clause 71 = .ok (.aload_n 0, 1) := by decide +kernel
theorem dX10_clause_72 : decode cX10_clause 72 = .ok (.dup, 1) := by decide +kernel
theorem dX10_clause_73 : decode cX10_clause 73 = .ok (.getfield 112, 3) := by decide +kernel
theorem dX10_clause_76 : decode cX10_clause 76 = .ok (.iconst 1, 1) := by decide +kernel
theorem dX10_clause_77 : decode cX10_clause 77 = .ok (.iadd, 1) := by decide +kernel
theorem dX10_clause_78 : decode cX10_clause 78 = .ok (.putfield 112, 3) := by decide +kernel
theorem dX10_clause_81 : decode cX10_clause 81 = .ok (.aload_n 0, 1) := by decide +kernel
theorem dX10_clause_82 : decode cX10_clause 82 = .ok (.getfield 119, 3) := by decide +kernel
theorem dX10_clause_85 : decode cX10_clause 85 = .ok (.iconst (-1), 1) := by decide +kernel
theorem dX10_clause_86 : decode cX10_clause 86 = .ok (.if_icmp .eq 4, 3) := by decide +kernel
theorem dX10_clause_89 : decode cX10_clause 89 = .ok (.return_, 1) := by decide +kernel
theorem dX10_clause_90 : decode cX10_clause 90 = .ok (.aload_n 0, 1) := by decide +kernel
theorem dX10_clause_91 : decode cX10_clause 91 = .ok (.getfield 25, 3) := by decide +kernel
theorem dX10_clause_94 : decode cX10_clause 94 = .ok (.iload_n 1, 1) := by decide +kernel
theorem dX10_clause_95 : decode cX10_clause 95 = .ok (.aload_n 0, 1) := by decide +kernel
theorem dX10_clause_96 : decode cX10_clause 96 = .ok (.getfield 19, 3) := by decide +kernel
theorem dX10_clause_99 : decode cX10_clause 99 = .ok (.aload_n 0, 1) := by decide +kernel
theorem dX10_clause_100 : decode cX10_clause 100 = .ok (.getfield 122, 3) := by decide +kernel
theorem dX10_clause_103 : decode cX10_clause 103 = .ok (.iaload, 1) := by decide +kernel
theorem dX10_clause_104 : decode cX10_clause 104 = .ok (.iastore, 1) := by decide +kernel
theorem dX10_clause_105 : decode cX10_clause 105 = .ok (.aload_n 0, 1) := by decide +kernel
theorem dX10_clause_106 : decode cX10_clause 106 = .ok (.invokevirtual 131, 3) := by decide +kernel
theorem dX10_clause_109 : decode cX10_clause 109 = .ok (.bipush 33, 2) := by decide +kernel
theorem dX10_clause_111 : decode cX10_clause 111 = .ok (.if_icmp .eq 12, 3) := by decide +kernel
theorem dX10_clause_114 : decode cX10_clause 114 = .ok (.aload_n 0, 1) := by decide +kernel
theorem dX10_clause_115 : decode cX10_clause 115 = .ok (.invokevirtual 131, 3) := by decide +kernel
theorem dX10_clause_118 : decode cX10_clause 118 = .ok (.bipush 40, 2) := by decide +kernel
theorem dX10_clause_120 : decode cX10_clause 120 = .ok (.if_icmp .ne 7, 3) := by decide +kernel
theorem dX10_clause_123 : decode cX10_clause 123 = .ok (.iconst 1, 1) := by decide +kernel
theorem dX10_clause_124 : decode cX10_clause 124 = .ok (.goto 4, 3) := by decide +kernel
theorem dX10_clause_127 : decode cX10_clause 127 = .ok (.iconst 0, 1) := by decide +kernel
theorem dX10_clause_128 : decode cX10_clause 128 = .ok (.istore_n 2, 1) := by decide +kernel
theorem dX10_clause_129 : decode cX10_clause 129 = .ok (.iload_n 2, 1) := by decide +kernel
theorem dX10_clause_130 : decode cX10_clause 130 = .ok (.ifCond .eq 10, 3) := by decide +kernel
theorem dX10_clause_133 : decode cX10_clause 133 = .ok (.aload_n 0, 1) := by decide +kernel
theorem dX10_clause_134 : decode cX10_clause 134 = .ok (.invokevirtual 171, 3) := by decide +kernel
theorem dX10_clause_137 : decode cX10_clause 137 = .ok (.goto 47, 3) := by decide +kernel
theorem dX10_clause_140 : decode cX10_clause 140 = .ok (.aload_n 0, 1) := by decide +kernel
theorem dX10_clause_141 : decode cX10_clause 141 = .ok (.invokevirtual 152, 3) := by decide +kernel
theorem dX10_clause_144 : decode cX10_clause 144 = .ok (.aload_n 0, 1) := by decide +kernel
theorem dX10_clause_145 : decode cX10_clause 145 = .ok (.getfield 119, 3) := by decide +kernel
theorem dX10_clause_148 : decode cX10_clause 148 = .ok (.iconst (-1), 1) := by decide +kernel
theorem dX10_clause_149 : decode cX10_clause 149 = .ok (.if_icmp .ne 17, 3) := by decide +kernel
theorem dX10_clause_152 : decode cX10_clause 152 = .ok (.aload_n 0, 1) := by decide +kernel
theorem dX10_clause_153 : decode cX10_clause 153 = .ok (.invokevirtual 131, 3) := by decide +kernel
theorem dX10_clause_156 : decode cX10_clause 156 = .ok (.invokestatic 165, 3) := by decide +kernel
theorem dX10_clause_159 : decode cX10_clause 159 = .ok (.ifCond .eq 7, 3) := by decide +kernel
theorem dX10_clause_162 : decode cX10_clause 162 = .ok (.iconst 1, 1) := by decide +kernel
theorem dX10_clause_163 : decode cX10_clause 163 = .ok (.goto 4, 3) := by decide +kernel
theorem dX10_clause_166 : decode cX10_clause 166 = .ok (.iconst 0, 1) := by decide +kernel
theorem dX10_clause_167 : decode cX10_clause 167 = .ok (.istore_n 2, 1) := by decide +kernel
theorem dX10_clause_168 : decode cX10_clause 168 = .ok (.iload_n 2, 1) := by decide +kernel
theorem dX10_clause_169 : decode cX10_clause 169 = .ok (.ifCond .eq 15, 3) := by decide +kernel
theorem dX10_clause_172 : decode cX10_clause 172 = .ok (.aload_n 0, 1) := by decide +kernel
theorem dX10_clause_173 : decode cX10_clause 173 = .ok (.invokevirtual 174, 3) := by decide +kernel
theorem dX10_clause_176 : decode cX10_clause 176 = .ok (.aload_n 0, 1) := by decide +kernel
theorem dX10_clause_177 : decode cX10_clause 177 = .ok (.invokevirtual 177, 3) := by decide +kernel
theorem dX10_clause_180 : decode cX10_clause 180 = .ok (.aload_n 0, 1) := by decide +kernel
theorem dX10_clause_181 : decode cX10_clause 181 = .ok (.invokevirtual 180, 3) := by decide +kernel
theorem dX10_clause_184 : decode cX10_clause 184 = .ok (.aload_n 0, 1) := by decide +kernel
theorem dX10_clause_185 : decode cX10_clause 185 = .ok (.getfield 28, 3) := by decide +kernel
theorem dX10_clause_188 : decode cX10_clause 188 = .ok (.iload_n 1, 1) := by decide +kernel
theorem dX10_clause_189 : decode cX10_clause 189 = .ok (.aload_n 0, 1) := by decide +kernel
theorem dX10_clause_190 : decode cX10_clause 190 = .ok (.getfield 25, 3) := by decide +kernel
theorem dX10_clause_193 : decode cX10_clause 193 = .ok (.iload_n 1, 1) := by decide +kernel
theorem dX10_clause_194 : decode cX10_clause 194 = .ok (.iaload, 1) := by decide +kernel
theorem dX10_clause_195 : decode cX10_clause 195 = .ok (.iastore, 1) := by decide +kernel
theorem dX10_clause_196 : decode cX10_clause 196 = .ok (.iload_n 2, 1) := by decide +kernel
theorem dX10_clause_197 : decode cX10_clause 197 = .ok (.ifCond .eq 54, 3) := by decide +kernel
theorem dX10_clause_200 : decode cX10_clause 200 = .ok (.aload_n 0, 1) := by decide +kernel
theorem dX10_clause_201 : decode cX10_clause 201 = .ok (.getfield 119, 3) := by decide +kernel
theorem dX10_clause_204 : decode cX10_clause 204 = .ok (.iconst (-1), 1) := by decide +kernel
theorem dX10_clause_205 : decode cX10_clause 205 = .ok (.if_icmp .ne 46, 3) := by decide +kernel
theorem dX10_clause_208 : decode cX10_clause 208 = .ok (.aload_n 0, 1) := by decide +kernel
theorem dX10_clause_209 : decode cX10_clause 209 = .ok (.invokevirtual 131, 3) := by decide +kernel
theorem dX10_clause_212 : decode cX10_clause 212 = .ok (.bipush 63, 2) := by decide +kernel
theorem dX10_clause_214 : decode cX10_clause 214 = .ok (.if_icmp .eq 8, 3) := by decide +kernel
theorem dX10_clause_217 : decode cX10_clause 217 = .ok (.aload_n 0, 1) := by decide +kernel
theorem dX10_clause_218 : decode cX10_clause 218 = .ok (.invokevirtual 128, 3) := by decide +kernel
theorem dX10_clause_221 : decode cX10_clause 221 = .ok (.return_, 1) := by decide +kernel
theorem dX10_clause_222 : decode cX10_clause 222 = .ok (.aload_n 0, 1) := by decide +kernel
theorem dX10_clause_223 : decode cX10_clause 223 = .ok (.dup, 1) := by decide +kernel
theorem dX10_clause_224 : decode cX10_clause 224 = .ok (.getfield 112, 3) := by decide +kernel
theorem dX10_clause_227 : decode cX10_clause 227 = .ok (.iconst 1, 1) := by decide +kernel
theorem dX10_clause_228 : decode cX10_clause 228 = .ok (.iadd, 1) := by decide +kernel
theorem dX10_clause_229 : decode cX10_clause 229 = .ok (.putfield 112, 3) := by decide +kernel
theorem dX10_clause_232 : decode cX10_clause 232 = .ok (.aload_n 0, 1) := by decide +kernel
theorem dX10_clause_233 : decode cX10_clause 233 = .ok (.getfield 28, 3) := by decide +kernel
theorem dX10_clause_236 : decode cX10_clause 236 = .ok (.iload_n 1, 1) := by decide +kernel
theorem dX10_clause_237 : decode cX10_clause 237 = .ok (.aload_n 0, 1) := by decide +kernel
theorem dX10_clause_238 : decode cX10_clause 238 = .ok (.getfield 19, 3) := by decide +kernel
theorem dX10_clause_241 : decode cX10_clause 241 = .ok (.aload_n 0, 1) := by decide +kernel
theorem dX10_clause_242 : decode cX10_clause 242 = .ok (.getfield 122, 3) := by decide +kernel
theorem dX10_clause_245 : decode cX10_clause 245 = .ok (.iaload, 1) := by decide +kernel
theorem dX10_clause_246 : decode cX10_clause 246 = .ok (.iastore, 1) := by decide +kernel
theorem dX10_clause_247 : decode cX10_clause 247 = .ok (.aload_n 0, 1) := by decide +kernel
theorem dX10_clause_248 : decode cX10_clause 248 = .ok (.invokevirtual 152, 3) := by decide +kernel
theorem dX10_clause_251 : decode cX10_clause 251 = .ok (.aload_n 0, 1) := by decide +kernel
theorem dX10_clause_252 : decode cX10_clause 252 = .ok (.getfield 31, 3) := by decide +kernel
theorem dX10_clause_255 : decode cX10_clause 255 = .ok (.iload_n 1, 1) := by decide +kernel
theorem dX10_clause_256 : decode cX10_clause 256 = .ok (.aload_n 0, 1) := by decide +kernel
theorem dX10_clause_257 : decode cX10_clause 257 = .ok (.getfield 19, 3) := by decide +kernel
theorem dX10_clause_260 : decode cX10_clause 260 = .ok (.aload_n 0, 1) := by decide +kernel
theorem dX10_clause_261 : decode cX10_clause 261 = .ok (.getfield 122, 3) := by decide +kernel
theorem dX10_clause_264 : decode cX10_clause 264 = .ok (.iaload, 1) := by decide +kernel
theorem dX10_clause_265 : decode cX10_clause 265 = .ok (.iastore, 1) := by decide +kernel
theorem dX10_clause_266 : decode cX10_clause 266 = .ok (.aload_n 0, 1) := by decide +kernel
theorem dX10_clause_267 : decode cX10_clause 267 = .ok (.getfield 22, 3) := by decide +kernel
theorem dX10_clause_270 : decode cX10_clause 270 = .ok (.aload_n 0, 1) := by decide +kernel
theorem dX10_clause_271 : decode cX10_clause 271 = .ok (.getfield 122, 3) := by decide +kernel
theorem dX10_clause_274 : decode cX10_clause 274 = .ok (.dup2, 1) := by decide +kernel
theorem dX10_clause_275 : decode cX10_clause 275 = .ok (.iaload, 1) := by decide +kernel
theorem dX10_clause_276 : decode cX10_clause 276 = .ok (.iconst 1, 1) := by decide +kernel
theorem dX10_clause_277 : decode cX10_clause 277 = .ok (.iadd, 1) := by decide +kernel
theorem dX10_clause_278 : decode cX10_clause 278 = .ok (.iastore, 1) := by decide +kernel
theorem dX10_clause_279 : decode cX10_clause 279 = .ok (.return_, 1) := by decide +kernel
theorem dX10_open_0 : decode cX10_open 0 = .ok (.aload_n 0, 1) := by decide +kernel
theorem dX10_open_1 : decode cX10_open 1 = .ok (.iload_n 1, 1) := by decide +kernel
theorem dX10_open_2 : decode cX10_open 2 = .ok (.putfield 122, 3) := by decide +kernel
theorem dX10_open_5 : decode cX10_open 5 = .ok (.aload_n 0, 1) := by decide +kernel
theorem dX10_open_6 : decode cX10_open 6 = .ok (.iconst 0, 1) := by decide +kernel
theorem dX10_open_7 : decode cX10_open 7 = .ok (.putfield 112, 3) := by decide +kernel
theorem dX10_open_10 : decode cX10_open 10 = .ok (.aload_n 0, 1) := by decide +kernel
theorem dX10_open_11 : decode cX10_open 11 = .ok (.iconst (-1), 1) := by decide +kernel
theorem dX10_open_12 : decode cX10_open 12 = .ok (.putfield 119, 3) := by decide +kernel
theorem dX10_open_15 : decode cX10_open 15 = .ok (.aload_n 0, 1) := by decide +kernel
theorem dX10_open_16 : decode cX10_open 16 = .ok (.iconst 0, 1) := by decide +kernel
theorem dX10_open_17 : decode cX10_open 17 = .ok (.putfield 125, 3) := by decide +kernel
theorem dX10_open_20 : decode cX10_open 20 = .ok (.aload_n 0, 1) := by decide +kernel
theorem dX10_open_21 : decode cX10_open 21 = .ok (.getfield 19, 3) := by decide +kernel
theorem dX10_open_24 : decode cX10_open 24 = .ok (.iload_n 1, 1) := by decide +kernel
theorem dX10_open_25 : decode cX10_open 25 = .ok (.iconst 0, 1) := by decide +kernel
theorem dX10_open_26 : decode cX10_open 26 = .ok (.iastore, 1) := by decide +kernel
theorem dX10_open_27 : decode cX10_open 27 = .ok (.aload_n 0, 1) := by decide +kernel
theorem dX10_open_28 : decode cX10_open 28 = .ok (.getfield 22, 3) := by decide +kernel
theorem dX10_open_31 : decode cX10_open 31 = .ok (.iload_n 1, 1) := by decide +kernel
theorem dX10_open_32 : decode cX10_open 32 = .ok (.iconst 0, 1) := by decide +kernel
theorem dX10_open_33 : decode cX10_open 33 = .ok (.iastore, 1) := by decide +kernel
theorem dX10_open_34 : decode cX10_open 34 = .ok (.return_, 1) := by decide +kernel
theorem dX10_atEnd_0 : decode cX10_atEnd 0 = .ok (.aload_n 0, 1) := by decide +kernel
theorem dX10_atEnd_1 : decode cX10_atEnd 1 = .ok (.getfield 119, 3) := by decide +kernel
theorem dX10_atEnd_4 : decode cX10_atEnd 4 = .ok (.iconst (-1), 1) := by decide +kernel
theorem dX10_atEnd_5 : decode cX10_atEnd 5 = .ok (.if_icmp .ne 15, 3) := by decide +kernel
theorem dX10_atEnd_8 : decode cX10_atEnd 8 = .ok (.aload_n 0, 1) := by decide +kernel
theorem dX10_atEnd_9 : decode cX10_atEnd 9 = .ok (.invokevirtual 131, 3) := by decide +kernel
theorem dX10_atEnd_12 : decode cX10_atEnd 12 = .ok (.iconst (-1), 1) := by decide +kernel
theorem dX10_atEnd_13 : decode cX10_atEnd 13 = .ok (.if_icmp .eq 7, 3) := by decide +kernel
theorem dX10_atEnd_16 : decode cX10_atEnd 16 = .ok (.aload_n 0, 1) := by decide +kernel
theorem dX10_atEnd_17 : decode cX10_atEnd 17 = .ok (.invokevirtual 128, 3) := by decide +kernel
theorem dX10_atEnd_20 : decode cX10_atEnd 20 = .ok (.aload_n 0, 1) := by decide +kernel
theorem dX10_atEnd_21 : decode cX10_atEnd 21 = .ok (.getfield 119, 3) := by decide +kernel
theorem dX10_atEnd_24 : decode cX10_atEnd 24 = .ok (.ireturn, 1) := by decide +kernel
theorem dX10_readLaw_0 : decode cX10_readLaw 0 = .ok (.aload_n 0, 1) := by decide +kernel
theorem dX10_readLaw_1 : decode cX10_readLaw 1 = .ok (.iload_n 1, 1) := by decide +kernel
theorem dX10_readLaw_2 : decode cX10_readLaw 2 = .ok (.invokevirtual 183, 3) := by decide +kernel
theorem dX10_readLaw_5 : decode cX10_readLaw 5 = .ok (.aload_n 0, 1) := by decide +kernel
theorem dX10_readLaw_6 : decode cX10_readLaw 6 = .ok (.invokevirtual 186, 3) := by decide +kernel
theorem dX10_readLaw_9 : decode cX10_readLaw 9 = .ok (.aload_n 0, 1) := by decide +kernel
theorem dX10_readLaw_10 : decode cX10_readLaw 10 = .ok (.getfield 119, 3) := by decide +kernel
theorem dX10_readLaw_13 : decode cX10_readLaw 13 = .ok (.iconst (-1), 1) := by decide +kernel
theorem dX10_readLaw_14 : decode cX10_readLaw 14 = .ok (.if_icmp .ne 29, 3) := by decide +kernel
theorem dX10_readLaw_17 : decode cX10_readLaw 17 = .ok (.aload_n 0, 1) := by decide +kernel
theorem dX10_readLaw_18 : decode cX10_readLaw 18 = .ok (.invokevirtual 131, 3) := by decide +kernel
theorem dX10_readLaw_21 : decode cX10_readLaw 21 = .ok (.bipush 59, 2) := by decide +kernel
theorem dX10_readLaw_23 : decode cX10_readLaw 23 = .ok (.if_icmp .ne 20, 3) := by decide +kernel
theorem dX10_readLaw_26 : decode cX10_readLaw 26 = .ok (.aload_n 0, 1) := by decide +kernel
theorem dX10_readLaw_27 : decode cX10_readLaw 27 = .ok (.dup, 1) := by decide +kernel
theorem dX10_readLaw_28 : decode cX10_readLaw 28 = .ok (.getfield 112, 3) := by decide +kernel
theorem dX10_readLaw_31 : decode cX10_readLaw 31 = .ok (.iconst 1, 1) := by decide +kernel
theorem dX10_readLaw_32 : decode cX10_readLaw 32 = .ok (.iadd, 1) := by decide +kernel
theorem dX10_readLaw_33 : decode cX10_readLaw 33 = .ok (.putfield 112, 3) := by decide +kernel
theorem dX10_readLaw_36 : decode cX10_readLaw 36 = .ok (.aload_n 0, 1) := by decide +kernel
theorem dX10_readLaw_37 : decode cX10_readLaw 37 = .ok (.invokevirtual 186, 3) := by decide +kernel
theorem dX10_readLaw_40 : decode cX10_readLaw 40 = .ok (.goto (-31), 3) := by decide +kernel
theorem dX10_readLaw_43 : decode cX10_readLaw 43 = .ok (.aload_n 0, 1) := by decide +kernel
theorem dX10_readLaw_44 : decode cX10_readLaw 44 = .ok (.invokevirtual 189, 3) := by decide +kernel
theorem dX10_readLaw_47 : decode cX10_readLaw 47 = .ok (.ireturn, 1) := by decide +kernel
theorem dX10_bounded_0 : decode cX10_bounded 0 = .ok (.ldc2_w 192, 3) := by decide +kernel
theorem dX10_bounded_3 : decode cX10_bounded 3 = .ok (.ldc2_w 194, 3) := by decide +kernel
theorem dX10_bounded_6 : decode cX10_bounded 6 = .ok (.lload_n 0, 1) := by decide +kernel
theorem dX10_bounded_7 : decode cX10_bounded 7 = .ok (.invokestatic 196, 3) := by decide +kernel
theorem dX10_bounded_10 : decode cX10_bounded 10 = .ok (.invokestatic 202, 3) := by decide +kernel
theorem dX10_bounded_13 : decode cX10_bounded 13 = .ok (.l2i, 1) := by decide +kernel
theorem dX10_bounded_14 : decode cX10_bounded 14 = .ok (.ireturn, 1) := by decide +kernel
theorem dX10_worked_0 : decode cX10_worked 0 = .ok (.iload_n 0, 1) := by decide +kernel
theorem dX10_worked_1 : decode cX10_worked 1 = .ok (.tableswitch 143 2 10 #[51, 58, 65, 72, 89, 101, 113, 143, 125], 51) := by decide +kernel
theorem dX10_worked_52 : decode cX10_worked 52 = .ok (.lload_n 1, 1) := by decide +kernel
theorem dX10_worked_53 : decode cX10_worked 53 = .ok (.lload_n 3, 1) := by decide +kernel
theorem dX10_worked_54 : decode cX10_worked 54 = .ok (.ladd, 1) := by decide +kernel
theorem dX10_worked_55 : decode cX10_worked 55 = .ok (.invokestatic 205, 3) := by decide +kernel
theorem dX10_worked_58 : decode cX10_worked 58 = .ok (.ireturn, 1) := by decide +kernel
theorem dX10_worked_59 : decode cX10_worked 59 = .ok (.lload_n 1, 1) := by decide +kernel
theorem dX10_worked_60 : decode cX10_worked 60 = .ok (.lload_n 3, 1) := by decide +kernel
theorem dX10_worked_61 : decode cX10_worked 61 = .ok (.lsub, 1) := by decide +kernel
theorem dX10_worked_62 : decode cX10_worked 62 = .ok (.invokestatic 205, 3) := by decide +kernel
theorem dX10_worked_65 : decode cX10_worked 65 = .ok (.ireturn, 1) := by decide +kernel
theorem dX10_worked_66 : decode cX10_worked 66 = .ok (.lload_n 1, 1) := by decide +kernel
theorem dX10_worked_67 : decode cX10_worked 67 = .ok (.lload_n 3, 1) := by decide +kernel
theorem dX10_worked_68 : decode cX10_worked 68 = .ok (.lmul, 1) := by decide +kernel
theorem dX10_worked_69 : decode cX10_worked 69 = .ok (.invokestatic 205, 3) := by decide +kernel
theorem dX10_worked_72 : decode cX10_worked 72 = .ok (.ireturn, 1) := by decide +kernel
theorem dX10_worked_73 : decode cX10_worked 73 = .ok (.lload_n 3, 1) := by decide +kernel
theorem dX10_worked_74 : decode cX10_worked 74 = .ok (.lconst 0, 1) := by decide +kernel
theorem dX10_worked_75 : decode cX10_worked 75 = .ok (.lcmp, 1) := by decide +kernel
theorem dX10_worked_76 : decode cX10_worked 76 = .ok (.ifCond .ne 7, 3) := by decide +kernel
theorem dX10_worked_79 : decode cX10_worked 79 = .ok (.iconst 0, 1) := by decide +kernel
theorem dX10_worked_80 : decode cX10_worked 80 = .ok (.goto 9, 3) := by decide +kernel
theorem dX10_worked_83 : decode cX10_worked 83 = .ok (.lload_n 1, 1) := by decide +kernel
theorem dX10_worked_84 : decode cX10_worked 84 = .ok (.lload_n 3, 1) := by decide +kernel
theorem dX10_worked_85 : decode cX10_worked 85 = .ok (.ldiv, 1) := by decide +kernel
theorem dX10_worked_86 : decode cX10_worked 86 = .ok (.invokestatic 205, 3) := by decide +kernel
theorem dX10_worked_89 : decode cX10_worked 89 = .ok (.ireturn, 1) := by decide +kernel
theorem dX10_worked_90 : decode cX10_worked 90 = .ok (.lload_n 1, 1) := by decide +kernel
theorem dX10_worked_91 : decode cX10_worked 91 = .ok (.lload_n 3, 1) := by decide +kernel
theorem dX10_worked_92 : decode cX10_worked 92 = .ok (.lcmp, 1) := by decide +kernel
theorem dX10_worked_93 : decode cX10_worked 93 = .ok (.ifCond .ne 7, 3) := by decide +kernel
theorem dX10_worked_96 : decode cX10_worked 96 = .ok (.iconst 1, 1) := by decide +kernel
theorem dX10_worked_97 : decode cX10_worked 97 = .ok (.goto 4, 3) := by decide +kernel
theorem dX10_worked_100 : decode cX10_worked 100 = .ok (.iconst 0, 1) := by decide +kernel
theorem dX10_worked_101 : decode cX10_worked 101 = .ok (.ireturn, 1) := by decide +kernel
theorem dX10_worked_102 : decode cX10_worked 102 = .ok (.lload_n 1, 1) := by decide +kernel
theorem dX10_worked_103 : decode cX10_worked 103 = .ok (.lload_n 3, 1) := by decide +kernel
theorem dX10_worked_104 : decode cX10_worked 104 = .ok (.lcmp, 1) := by decide +kernel
theorem dX10_worked_105 : decode cX10_worked 105 = .ok (.ifCond .ge 7, 3) := by decide +kernel
theorem dX10_worked_108 : decode cX10_worked 108 = .ok (.iconst 1, 1) := by decide +kernel
theorem dX10_worked_109 : decode cX10_worked 109 = .ok (.goto 4, 3) := by decide +kernel
theorem dX10_worked_112 : decode cX10_worked 112 = .ok (.iconst 0, 1) := by decide +kernel
theorem dX10_worked_113 : decode cX10_worked 113 = .ok (.ireturn, 1) := by decide +kernel
theorem dX10_worked_114 : decode cX10_worked 114 = .ok (.lload_n 1, 1) := by decide +kernel
theorem dX10_worked_115 : decode cX10_worked 115 = .ok (.lload_n 3, 1) := by decide +kernel
theorem dX10_worked_116 : decode cX10_worked 116 = .ok (.lcmp, 1) := by decide +kernel
theorem dX10_worked_117 : decode cX10_worked 117 = .ok (.ifCond .le 7, 3) := by decide +kernel
theorem dX10_worked_120 : decode cX10_worked 120 = .ok (.iconst 1, 1) := by decide +kernel
theorem dX10_worked_121 : decode cX10_worked 121 = .ok (.goto 4, 3) := by decide +kernel
theorem dX10_worked_124 : decode cX10_worked 124 = .ok (.iconst 0, 1) := by decide +kernel
theorem dX10_worked_125 : decode cX10_worked 125 = .ok (.ireturn, 1) := by decide +kernel
theorem dX10_worked_126 : decode cX10_worked 126 = .ok (.lload_n 1, 1) := by decide +kernel
theorem dX10_worked_127 : decode cX10_worked 127 = .ok (.lconst 0, 1) := by decide +kernel
theorem dX10_worked_128 : decode cX10_worked 128 = .ok (.lcmp, 1) := by decide +kernel
theorem dX10_worked_129 : decode cX10_worked 129 = .ok (.ifCond .eq 13, 3) := by decide +kernel
theorem dX10_worked_132 : decode cX10_worked 132 = .ok (.lload_n 3, 1) := by decide +kernel
theorem dX10_worked_133 : decode cX10_worked 133 = .ok (.lconst 0, 1) := by decide +kernel
theorem dX10_worked_134 : decode cX10_worked 134 = .ok (.lcmp, 1) := by decide +kernel
theorem dX10_worked_135 : decode cX10_worked 135 = .ok (.ifCond .eq 7, 3) := by decide +kernel
theorem dX10_worked_138 : decode cX10_worked 138 = .ok (.iconst 1, 1) := by decide +kernel
theorem dX10_worked_139 : decode cX10_worked 139 = .ok (.goto 4, 3) := by decide +kernel
theorem dX10_worked_142 : decode cX10_worked 142 = .ok (.iconst 0, 1) := by decide +kernel
theorem dX10_worked_143 : decode cX10_worked 143 = .ok (.ireturn, 1) := by decide +kernel
theorem dX10_worked_144 : decode cX10_worked 144 = .ok (.lload_n 1, 1) := by decide +kernel
theorem dX10_worked_145 : decode cX10_worked 145 = .ok (.lconst 0, 1) := by decide +kernel
theorem dX10_worked_146 : decode cX10_worked 146 = .ok (.lcmp, 1) := by decide +kernel
theorem dX10_worked_147 : decode cX10_worked 147 = .ok (.ifCond .ne 9, 3) := by decide +kernel
theorem dX10_worked_150 : decode cX10_worked 150 = .ok (.lload_n 3, 1) := by decide +kernel
theorem dX10_worked_151 : decode cX10_worked 151 = .ok (.lconst 0, 1) := by decide +kernel
theorem dX10_worked_152 : decode cX10_worked 152 = .ok (.lcmp, 1) := by decide +kernel
theorem dX10_worked_153 : decode cX10_worked 153 = .ok (.ifCond .eq 7, 3) := by decide +kernel
theorem dX10_worked_156 : decode cX10_worked 156 = .ok (.iconst 1, 1) := by decide +kernel
theorem dX10_worked_157 : decode cX10_worked 157 = .ok (.goto 4, 3) := by decide +kernel
theorem dX10_worked_160 : decode cX10_worked 160 = .ok (.iconst 0, 1) := by decide +kernel
theorem dX10_worked_161 : decode cX10_worked 161 = .ok (.ireturn, 1) := by decide +kernel
theorem dX10_workOut_0 : decode cX10_workOut 0 = .ok (.iconst 0, 1) := by decide +kernel
theorem dX10_workOut_1 : decode cX10_workOut 1 = .ok (.istore 4, 2) := by decide +kernel
theorem dX10_workOut_3 : decode cX10_workOut 3 = .ok (.sipush 520, 3) := by decide +kernel
theorem dX10_workOut_6 : decode cX10_workOut 6 = .ok (.iload_n 1, 1) := by decide +kernel
theorem dX10_workOut_7 : decode cX10_workOut 7 = .ok (.imul, 1) := by decide +kernel
theorem dX10_workOut_8 : decode cX10_workOut 8 = .ok (.iload_n 2, 1) := by decide +kernel
theorem dX10_workOut_9 : decode cX10_workOut 9 = .ok (.iadd, 1) := by decide +kernel
theorem dX10_workOut_10 : decode cX10_workOut 10 = .ok (.istore 5, 2) := by decide +kernel
theorem dX10_workOut_12 : decode cX10_workOut 12 = .ok (.iload 5, 2) := by decide +kernel
theorem dX10_workOut_14 : decode cX10_workOut 14 = .ok (.sipush 520, 3) := by decide +kernel
theorem dX10_workOut_17 : decode cX10_workOut 17 = .ok (.iload_n 1, 1) := by decide +kernel
theorem dX10_workOut_18 : decode cX10_workOut 18 = .ok (.imul, 1) := by decide +kernel
theorem dX10_workOut_19 : decode cX10_workOut 19 = .ok (.iload_n 3, 1) := by decide +kernel
theorem dX10_workOut_20 : decode cX10_workOut 20 = .ok (.iadd, 1) := by decide +kernel
theorem dX10_workOut_21 : decode cX10_workOut 21 = .ok (.if_icmp .ge 150, 3) := by decide +kernel
theorem dX10_workOut_24 : decode cX10_workOut 24 = .ok (.aload_n 0, 1) := by decide +kernel
theorem dX10_workOut_25 : decode cX10_workOut 25 = .ok (.getfield 13, 3) := by decide +kernel
theorem dX10_workOut_28 : decode cX10_workOut 28 = .ok (.iload 5, 2) := by decide +kernel
theorem dX10_workOut_30 : decode cX10_workOut 30 = .ok (.iaload, 1) := by decide +kernel
theorem dX10_workOut_31 : decode cX10_workOut 31 = .ok (.ifCond .eq 14, 3) := by decide +kernel
theorem dX10_workOut_34 : decode cX10_workOut 34 = .ok (.aload_n 0, 1) := by decide +kernel
theorem dX10_workOut_35 : decode cX10_workOut 35 = .ok (.getfield 13, 3) := by decide +kernel
theorem dX10_workOut_38 : decode cX10_workOut 38 = .ok (.iload 5, 2) := by decide +kernel
theorem dX10_workOut_40 : decode cX10_workOut 40 = .ok (.iaload, 1) := by decide +kernel
theorem dX10_workOut_41 : decode cX10_workOut 41 = .ok (.iconst 1, 1) := by decide +kernel
theorem dX10_workOut_42 : decode cX10_workOut 42 = .ok (.if_icmp .ne 48, 3) := by decide +kernel
theorem dX10_workOut_45 : decode cX10_workOut 45 = .ok (.aload_n 0, 1) := by decide +kernel
theorem dX10_workOut_46 : decode cX10_workOut 46 = .ok (.getfield 37, 3) := by decide +kernel
theorem dX10_workOut_49 : decode cX10_workOut 49 = .ok (.iload 4, 2) := by decide +kernel
theorem dX10_workOut_51 : decode cX10_workOut 51 = .ok (.aload_n 0, 1) := by decide +kernel
theorem dX10_workOut_52 : decode cX10_workOut 52 = .ok (.getfield 13, 3) := by decide +kernel
theorem dX10_workOut_55 : decode cX10_workOut 55 = .ok (.iload 5, 2) := by decide +kernel
theorem dX10_workOut_57 : decode cX10_workOut 57 = .ok (.iaload, 1) := by decide +kernel
theorem dX10_workOut_58 : decode cX10_workOut 58 = .ok (.ifCond .ne 13, 3) := by decide +kernel
theorem dX10_workOut_61 : decode cX10_workOut 61 = .ok (.aload_n 0, 1) := by decide +kernel
theorem dX10_workOut_62 : decode cX10_workOut 62 = .ok (.getfield 16, 3) := by decide +kernel
theorem dX10_workOut_65 : decode cX10_workOut 65 = .ok (.iload 5, 2) := by decide +kernel
theorem dX10_workOut_67 : decode cX10_workOut 67 = .ok (.iaload, 1) := by decide +kernel
theorem dX10_workOut_68 : decode cX10_workOut 68 = .ok (.goto 15, 3) := by decide +kernel
theorem dX10_workOut_71 : decode cX10_workOut 71 = .ok (.aload_n 0, 1) := by decide +kernel
theorem dX10_workOut_72 : decode cX10_workOut 72 = .ok (.getfield 34, 3) := by decide +kernel
theorem dX10_workOut_75 : decode cX10_workOut 75 = .ok (.aload_n 0, 1) := by decide +kernel
theorem dX10_workOut_76 : decode cX10_workOut 76 = .ok (.getfield 16, 3) := by decide +kernel
theorem dX10_workOut_79 : decode cX10_workOut 79 = .ok (.iload 5, 2) := by decide +kernel
theorem dX10_workOut_81 : decode cX10_workOut 81 = .ok (.iaload, 1) := by decide +kernel
theorem dX10_workOut_82 : decode cX10_workOut 82 = .ok (.iaload, 1) := by decide +kernel
theorem dX10_workOut_83 : decode cX10_workOut 83 = .ok (.iastore, 1) := by decide +kernel
theorem dX10_workOut_84 : decode cX10_workOut 84 = .ok (.iinc 4 1, 3) := by decide +kernel
theorem dX10_workOut_87 : decode cX10_workOut 87 = .ok (.goto 78, 3) := by decide +kernel
theorem dX10_workOut_90 : decode cX10_workOut 90 = .ok (.aload_n 0, 1) := by decide +kernel
theorem dX10_workOut_91 : decode cX10_workOut 91 = .ok (.getfield 13, 3) := by decide +kernel
theorem dX10_workOut_94 : decode cX10_workOut 94 = .ok (.iload 5, 2) := by decide +kernel
theorem dX10_workOut_96 : decode cX10_workOut 96 = .ok (.iaload, 1) := by decide +kernel
theorem dX10_workOut_97 : decode cX10_workOut 97 = .ok (.bipush 9, 2) := by decide +kernel
theorem dX10_workOut_99 : decode cX10_workOut 99 = .ok (.if_icmp .ne 26, 3) := by decide +kernel
theorem dX10_workOut_102 : decode cX10_workOut 102 = .ok (.aload_n 0, 1) := by decide +kernel
theorem dX10_workOut_103 : decode cX10_workOut 103 = .ok (.getfield 37, 3) := by decide +kernel
theorem dX10_workOut_106 : decode cX10_workOut 106 = .ok (.iload 4, 2) := by decide +kernel
theorem dX10_workOut_108 : decode cX10_workOut 108 = .ok (.iconst 1, 1) := by decide +kernel
theorem dX10_workOut_109 : decode cX10_workOut 109 = .ok (.isub, 1) := by decide +kernel
theorem dX10_workOut_110 : decode cX10_workOut 110 = .ok (.iconst 1, 1) := by decide +kernel
theorem dX10_workOut_111 : decode cX10_workOut 111 = .ok (.aload_n 0, 1) := by decide +kernel
theorem dX10_workOut_112 : decode cX10_workOut 112 = .ok (.getfield 37, 3) := by decide +kernel
theorem dX10_workOut_115 : decode cX10_workOut 115 = .ok (.iload 4, 2) := by decide +kernel
theorem dX10_workOut_117 : decode cX10_workOut 117 = .ok (.iconst 1, 1) := by decide +kernel
theorem dX10_workOut_118 : decode cX10_workOut 118 = .ok (.isub, 1) := by decide +kernel
theorem dX10_workOut_119 : decode cX10_workOut 119 = .ok (.iaload, 1) := by decide +kernel
theorem dX10_workOut_120 : decode cX10_workOut 120 = .ok (.isub, 1) := by decide +kernel
theorem dX10_workOut_121 : decode cX10_workOut 121 = .ok (.iastore, 1) := by decide +kernel
theorem dX10_workOut_122 : decode cX10_workOut 122 = .ok (.goto 43, 3) := by decide +kernel
theorem dX10_workOut_125 : decode cX10_workOut 125 = .ok (.iinc 4 (-1), 3) := by decide +kernel
theorem dX10_workOut_128 : decode cX10_workOut 128 = .ok (.aload_n 0, 1) := by decide +kernel
theorem dX10_workOut_129 : decode cX10_workOut 129 = .ok (.getfield 37, 3) := by decide +kernel
theorem dX10_workOut_132 : decode cX10_workOut 132 = .ok (.iload 4, 2) := by decide +kernel
theorem dX10_workOut_134 : decode cX10_workOut 134 = .ok (.iconst 1, 1) := by decide +kernel
theorem dX10_workOut_135 : decode cX10_workOut 135 = .ok (.isub, 1) := by decide +kernel
theorem dX10_workOut_136 : decode cX10_workOut 136 = .ok (.aload_n 0, 1) := by decide +kernel
theorem dX10_workOut_137 : decode cX10_workOut 137 = .ok (.getfield 13, 3) := by decide +kernel
theorem dX10_workOut_140 : decode cX10_workOut 140 = .ok (.iload 5, 2) := by decide +kernel
theorem dX10_workOut_142 : decode cX10_workOut 142 = .ok (.iaload, 1) := by decide +kernel
theorem dX10_workOut_143 : decode cX10_workOut 143 = .ok (.aload_n 0, 1) := by decide +kernel
theorem dX10_workOut_144 : decode cX10_workOut 144 = .ok (.getfield 37, 3) := by decide +kernel
theorem dX10_workOut_147 : decode cX10_workOut 147 = .ok (.iload 4, 2) := by decide +kernel
theorem dX10_workOut_149 : decode cX10_workOut 149 = .ok (.iconst 1, 1) := by decide +kernel
theorem dX10_workOut_150 : decode cX10_workOut 150 = .ok (.isub, 1) := by decide +kernel
theorem dX10_workOut_151 : decode cX10_workOut 151 = .ok (.iaload, 1) := by decide +kernel
theorem dX10_workOut_152 : decode cX10_workOut 152 = .ok (.i2l, 1) := by decide +kernel
theorem dX10_workOut_153 : decode cX10_workOut 153 = .ok (.aload_n 0, 1) := by decide +kernel
theorem dX10_workOut_154 : decode cX10_workOut 154 = .ok (.getfield 37, 3) := by decide +kernel
theorem dX10_workOut_157 : decode cX10_workOut 157 = .ok (.iload 4, 2) := by decide +kernel
theorem dX10_workOut_159 : decode cX10_workOut 159 = .ok (.iaload, 1) := by decide +kernel
theorem dX10_workOut_160 : decode cX10_workOut 160 = .ok (.i2l, 1) := by decide +kernel
theorem dX10_workOut_161 : decode cX10_workOut 161 = .ok (.invokestatic 209, 3) := by decide +kernel
theorem dX10_workOut_164 : decode cX10_workOut 164 = .ok (.iastore, 1) := by decide +kernel
theorem dX10_workOut_165 : decode cX10_workOut 165 = .ok (.iinc 5 1, 3) := by decide +kernel
theorem dX10_workOut_168 : decode cX10_workOut 168 = .ok (.goto (-156), 3) := by decide +kernel
theorem dX10_workOut_171 : decode cX10_workOut 171 = .ok (.aload_n 0, 1) := by decide +kernel
theorem dX10_workOut_172 : decode cX10_workOut 172 = .ok (.getfield 37, 3) := by decide +kernel
theorem dX10_workOut_175 : decode cX10_workOut 175 = .ok (.iconst 0, 1) := by decide +kernel
theorem dX10_workOut_176 : decode cX10_workOut 176 = .ok (.iaload, 1) := by decide +kernel
theorem dX10_workOut_177 : decode cX10_workOut 177 = .ok (.ireturn, 1) := by decide +kernel
theorem dX10_worthOf_0 : decode cX10_worthOf 0 = .ok (.sipush 140, 3) := by decide +kernel
theorem dX10_worthOf_3 : decode cX10_worthOf 3 = .ok (.iload_n 1, 1) := by decide +kernel
theorem dX10_worthOf_4 : decode cX10_worthOf 4 = .ok (.imul, 1) := by decide +kernel
theorem dX10_worthOf_5 : decode cX10_worthOf 5 = .ok (.istore_n 2, 1) := by decide +kernel
theorem dX10_worthOf_6 : decode cX10_worthOf 6 = .ok (.iload_n 2, 1) := by decide +kernel
theorem dX10_worthOf_7 : decode cX10_worthOf 7 = .ok (.sipush 140, 3) := by decide +kernel
theorem dX10_worthOf_10 : decode cX10_worthOf 10 = .ok (.iload_n 1, 1) := by decide +kernel
theorem dX10_worthOf_11 : decode cX10_worthOf 11 = .ok (.imul, 1) := by decide +kernel
theorem dX10_worthOf_12 : decode cX10_worthOf 12 = .ok (.aload_n 0, 1) := by decide +kernel
theorem dX10_worthOf_13 : decode cX10_worthOf 13 = .ok (.getfield 22, 3) := by decide +kernel
theorem dX10_worthOf_16 : decode cX10_worthOf 16 = .ok (.iload_n 1, 1) := by decide +kernel
theorem dX10_worthOf_17 : decode cX10_worthOf 17 = .ok (.iaload, 1) := by decide +kernel
theorem dX10_worthOf_18 : decode cX10_worthOf 18 = .ok (.iadd, 1) := by decide +kernel
theorem dX10_worthOf_19 : decode cX10_worthOf 19 = .ok (.if_icmp .ge 62, 3) := by decide +kernel
theorem dX10_worthOf_22 : decode cX10_worthOf 22 = .ok (.aload_n 0, 1) := by decide +kernel
theorem dX10_worthOf_23 : decode cX10_worthOf 23 = .ok (.getfield 25, 3) := by decide +kernel
theorem dX10_worthOf_26 : decode cX10_worthOf 26 = .ok (.iload_n 2, 1) := by decide +kernel
theorem dX10_worthOf_27 : decode cX10_worthOf 27 = .ok (.iaload, 1) := by decide +kernel
theorem dX10_worthOf_28 : decode cX10_worthOf 28 = .ok (.aload_n 0, 1) := by decide +kernel
theorem dX10_worthOf_29 : decode cX10_worthOf 29 = .ok (.getfield 28, 3) := by decide +kernel
theorem dX10_worthOf_32 : decode cX10_worthOf 32 = .ok (.iload_n 2, 1) := by decide +kernel
theorem dX10_worthOf_33 : decode cX10_worthOf 33 = .ok (.iaload, 1) := by decide +kernel
theorem dX10_worthOf_34 : decode cX10_worthOf 34 = .ok (.if_icmp .eq 23, 3) := by decide +kernel
theorem dX10_worthOf_37 : decode cX10_worthOf 37 = .ok (.aload_n 0, 1) := by decide +kernel
theorem dX10_worthOf_38 : decode cX10_worthOf 38 = .ok (.iload_n 1, 1) := by decide +kernel
theorem dX10_worthOf_39 : decode cX10_worthOf 39 = .ok (.aload_n 0, 1) := by decide +kernel
theorem dX10_worthOf_40 : decode cX10_worthOf 40 = .ok (.getfield 25, 3) := by decide +kernel
theorem dX10_worthOf_43 : decode cX10_worthOf 43 = .ok (.iload_n 2, 1) := by decide +kernel
theorem dX10_worthOf_44 : decode cX10_worthOf 44 = .ok (.iaload, 1) := by decide +kernel
theorem dX10_worthOf_45 : decode cX10_worthOf 45 = .ok (.aload_n 0, 1) := by decide +kernel
theorem dX10_worthOf_46 : decode cX10_worthOf 46 = .ok (.getfield 28, 3) := by decide +kernel
theorem dX10_worthOf_49 : decode cX10_worthOf 49 = .ok (.iload_n 2, 1) := by decide +kernel
theorem dX10_worthOf_50 : decode cX10_worthOf 50 = .ok (.iaload, 1) := by decide +kernel
theorem dX10_worthOf_51 : decode cX10_worthOf 51 = .ok (.invokevirtual 213, 3) := by decide +kernel
theorem dX10_worthOf_54 : decode cX10_worthOf 54 = .ok (.ifCond .eq 21, 3) := by decide +kernel
theorem dX10_worthOf_57 : decode cX10_worthOf 57 = .ok (.aload_n 0, 1) := by decide +kernel
theorem dX10_worthOf_58 : decode cX10_worthOf 58 = .ok (.iload_n 1, 1) := by decide +kernel
theorem dX10_worthOf_59 : decode cX10_worthOf 59 = .ok (.aload_n 0, 1) := by decide +kernel
theorem dX10_worthOf_60 : decode cX10_worthOf 60 = .ok (.getfield 28, 3) := by decide +kernel
theorem dX10_worthOf_63 : decode cX10_worthOf 63 = .ok (.iload_n 2, 1) := by decide +kernel
theorem dX10_worthOf_64 : decode cX10_worthOf 64 = .ok (.iaload, 1) := by decide +kernel
theorem dX10_worthOf_65 : decode cX10_worthOf 65 = .ok (.aload_n 0, 1) := by decide +kernel
theorem dX10_worthOf_66 : decode cX10_worthOf 66 = .ok (.getfield 31, 3) := by decide +kernel
theorem dX10_worthOf_69 : decode cX10_worthOf 69 = .ok (.iload_n 2, 1) := by decide +kernel
theorem dX10_worthOf_70 : decode cX10_worthOf 70 = .ok (.iaload, 1) := by decide +kernel
theorem dX10_worthOf_71 : decode cX10_worthOf 71 = .ok (.invokevirtual 213, 3) := by decide +kernel
theorem dX10_worthOf_74 : decode cX10_worthOf 74 = .ok (.ireturn, 1) := by decide +kernel
theorem dX10_worthOf_75 : decode cX10_worthOf 75 = .ok (.iinc 2 1, 3) := by decide +kernel
theorem dX10_worthOf_78 : decode cX10_worthOf 78 = .ok (.goto (-72), 3) := by decide +kernel
theorem dX10_worthOf_81 : decode cX10_worthOf 81 = .ok (.iconst 0, 1) := by decide +kernel
theorem dX10_worthOf_82 : decode cX10_worthOf 82 = .ok (.ireturn, 1) := by decide +kernel
theorem dX10_number_0 : decode cX10_number 0 = .ok (.aload_n 0, 1) := by decide +kernel
theorem dX10_number_1 : decode cX10_number 1 = .ok (.invokevirtual 131, 3) := by decide +kernel
theorem dX10_number_4 : decode cX10_number 4 = .ok (.invokestatic 134, 3) := by decide +kernel
theorem dX10_number_7 : decode cX10_number 7 = .ok (.ifCond .ne 9, 3) := by decide +kernel
theorem dX10_number_10 : decode cX10_number 10 = .ok (.aload_n 0, 1) := by decide +kernel
theorem dX10_number_11 : decode cX10_number 11 = .ok (.invokevirtual 128, 3) := by decide +kernel
theorem dX10_number_14 : decode cX10_number 14 = .ok (.iload_n 1, 1) := by decide +kernel
theorem dX10_number_15 : decode cX10_number 15 = .ok (.ireturn, 1) := by decide +kernel
theorem dX10_number_16 : decode cX10_number 16 = .ok (.aload_n 0, 1) := by decide +kernel
theorem dX10_number_17 : decode cX10_number 17 = .ok (.invokevirtual 115, 3) := by decide +kernel
theorem dX10_number_20 : decode cX10_number 20 = .ok (.bipush 48, 2) := by decide +kernel
theorem dX10_number_22 : decode cX10_number 22 = .ok (.isub, 1) := by decide +kernel
theorem dX10_number_23 : decode cX10_number 23 = .ok (.istore_n 3, 1) := by decide +kernel
theorem dX10_number_24 : decode cX10_number 24 = .ok (.aload_n 0, 1) := by decide +kernel
theorem dX10_number_25 : decode cX10_number 25 = .ok (.dup, 1) := by decide +kernel
theorem dX10_number_26 : decode cX10_number 26 = .ok (.getfield 112, 3) := by decide +kernel
theorem dX10_number_29 : decode cX10_number 29 = .ok (.iconst 1, 1) := by decide +kernel
theorem dX10_number_30 : decode cX10_number 30 = .ok (.iadd, 1) := by decide +kernel
theorem dX10_number_31 : decode cX10_number 31 = .ok (.putfield 112, 3) := by decide +kernel
theorem dX10_number_34 : decode cX10_number 34 = .ok (.aload_n 0, 1) := by decide +kernel
theorem dX10_number_35 : decode cX10_number 35 = .ok (.invokevirtual 115, 3) := by decide +kernel
theorem dX10_number_38 : decode cX10_number 38 = .ok (.invokestatic 134, 3) := by decide +kernel
theorem dX10_number_41 : decode cX10_number 41 = .ok (.ifCond .eq 26, 3) := by decide +kernel
theorem dX10_number_44 : decode cX10_number 44 = .ok (.bipush 10, 2) := by decide +kernel
theorem dX10_number_46 : decode cX10_number 46 = .ok (.iload_n 3, 1) := by decide +kernel
theorem dX10_number_47 : decode cX10_number 47 = .ok (.imul, 1) := by decide +kernel
theorem dX10_number_48 : decode cX10_number 48 = .ok (.aload_n 0, 1) := by decide +kernel
theorem dX10_number_49 : decode cX10_number 49 = .ok (.invokevirtual 115, 3) := by decide +kernel
theorem dX10_number_52 : decode cX10_number 52 = .ok (.iadd, 1) := by decide +kernel
theorem dX10_number_53 : decode cX10_number 53 = .ok (.bipush 48, 2) := by decide +kernel
theorem dX10_number_55 : decode cX10_number 55 = .ok (.isub, 1) := by decide +kernel
theorem dX10_number_56 : decode cX10_number 56 = .ok (.istore_n 3, 1) := by decide +kernel
theorem dX10_number_57 : decode cX10_number 57 = .ok (.aload_n 0, 1) := by decide +kernel
theorem dX10_number_58 : decode cX10_number 58 = .ok (.dup, 1) := by decide +kernel
theorem dX10_number_59 : decode cX10_number 59 = .ok (.getfield 112, 3) := by decide +kernel
theorem dX10_number_62 : decode cX10_number 62 = .ok (.iconst 1, 1) := by decide +kernel
theorem dX10_number_63 : decode cX10_number 63 = .ok (.iadd, 1) := by decide +kernel
theorem dX10_number_64 : decode cX10_number 64 = .ok (.putfield 112, 3) := by decide +kernel
theorem dX10_number_67 : decode cX10_number 67 = .ok (.aload_n 0, 1) := by decide +kernel
theorem dX10_number_68 : decode cX10_number 68 = .ok (.invokevirtual 115, 3) := by decide +kernel
theorem dX10_number_71 : decode cX10_number 71 = .ok (.invokestatic 134, 3) := by decide +kernel
theorem dX10_number_74 : decode cX10_number 74 = .ok (.ifCond .eq 10, 3) := by decide +kernel
theorem dX10_number_77 : decode cX10_number 77 = .ok (.aload_n 0, 1) := by decide +kernel
theorem dX10_number_78 : decode cX10_number 78 = .ok (.invokevirtual 128, 3) := by decide +kernel
theorem dX10_number_81 : decode cX10_number 81 = .ok (.goto 26, 3) := by decide +kernel
theorem dX10_number_84 : decode cX10_number 84 = .ok (.iload_n 3, 1) := by decide +kernel
theorem dX10_number_85 : decode cX10_number 85 = .ok (.iload_n 1, 1) := by decide +kernel
theorem dX10_number_86 : decode cX10_number 86 = .ok (.iload_n 2, 1) := by decide +kernel
theorem dX10_number_87 : decode cX10_number 87 = .ok (.invokestatic 217, 3) := by decide +kernel
theorem dX10_number_90 : decode cX10_number 90 = .ok (.ifCond .ne 17, 3) := by decide +kernel
theorem dX10_number_93 : decode cX10_number 93 = .ok (.aload_n 0, 1) := by decide +kernel
theorem dX10_number_94 : decode cX10_number 94 = .ok (.dup, 1) := by decide +kernel
theorem dX10_number_95 : decode cX10_number 95 = .ok (.getfield 112, 3) := by decide +kernel
theorem dX10_number_98 : decode cX10_number 98 = .ok (.iconst 1, 1) := by decide +kernel
theorem dX10_number_99 : decode cX10_number 99 = .ok (.isub, 1) := by decide +kernel
theorem dX10_number_100 : decode cX10_number 100 = .ok (.putfield 112, 3) := by decide +kernel
theorem dX10_number_103 : decode cX10_number 103 = .ok (.aload_n 0, 1) := by decide +kernel
theorem dX10_number_104 : decode cX10_number 104 = .ok (.invokevirtual 128, 3) := by decide +kernel
theorem dX10_number_107 : decode cX10_number 107 = .ok (.iload_n 3, 1) := by decide +kernel
theorem dX10_number_108 : decode cX10_number 108 = .ok (.ireturn, 1) := by decide +kernel
theorem dX10_itemOf_0 : decode cX10_itemOf 0 = .ok (.iload_n 0, 1) := by decide +kernel
theorem dX10_itemOf_1 : decode cX10_itemOf 1 = .ok (.bipush 115, 2) := by decide +kernel
theorem dX10_itemOf_3 : decode cX10_itemOf 3 = .ok (.if_icmp .ne 45, 3) := by decide +kernel
theorem dX10_itemOf_6 : decode cX10_itemOf 6 = .ok (.iload_n 1, 1) := by decide +kernel
theorem dX10_itemOf_7 : decode cX10_itemOf 7 = .ok (.bipush 119, 2) := by decide +kernel
theorem dX10_itemOf_9 : decode cX10_itemOf 9 = .ok (.if_icmp .ne 7, 3) := by decide +kernel
theorem dX10_itemOf_12 : decode cX10_itemOf 12 = .ok (.iconst 0, 1) := by decide +kernel
theorem dX10_itemOf_13 : decode cX10_itemOf 13 = .ok (.goto 34, 3) := by decide +kernel
theorem dX10_itemOf_16 : decode cX10_itemOf 16 = .ok (.iload_n 1, 1) := by decide +kernel
theorem dX10_itemOf_17 : decode cX10_itemOf 17 = .ok (.bipush 104, 2) := by decide +kernel
theorem dX10_itemOf_19 : decode cX10_itemOf 19 = .ok (.if_icmp .ne 7, 3) := by decide +kernel
theorem dX10_itemOf_22 : decode cX10_itemOf 22 = .ok (.iconst 1, 1) := by decide +kernel
theorem dX10_itemOf_23 : decode cX10_itemOf 23 = .ok (.goto 24, 3) := by decide +kernel
theorem dX10_itemOf_26 : decode cX10_itemOf 26 = .ok (.iload_n 1, 1) := by decide +kernel
theorem dX10_itemOf_27 : decode cX10_itemOf 27 = .ok (.bipush 107, 2) := by decide +kernel
theorem dX10_itemOf_29 : decode cX10_itemOf 29 = .ok (.if_icmp .ne 7, 3) := by decide +kernel
theorem dX10_itemOf_32 : decode cX10_itemOf 32 = .ok (.iconst 2, 1) := by decide +kernel
theorem dX10_itemOf_33 : decode cX10_itemOf 33 = .ok (.goto 14, 3) := by decide +kernel
theorem dX10_itemOf_36 : decode cX10_itemOf 36 = .ok (.iload_n 1, 1) := by decide +kernel
theorem dX10_itemOf_37 : decode cX10_itemOf 37 = .ok (.bipush 102, 2) := by decide +kernel
theorem dX10_itemOf_39 : decode cX10_itemOf 39 = .ok (.if_icmp .ne 7, 3) := by decide +kernel
theorem dX10_itemOf_42 : decode cX10_itemOf 42 = .ok (.iconst 3, 1) := by decide +kernel
theorem dX10_itemOf_43 : decode cX10_itemOf 43 = .ok (.goto 4, 3) := by decide +kernel
theorem dX10_itemOf_46 : decode cX10_itemOf 46 = .ok (.iconst (-1), 1) := by decide +kernel
theorem dX10_itemOf_47 : decode cX10_itemOf 47 = .ok (.ireturn, 1) := by decide +kernel
theorem dX10_itemOf_48 : decode cX10_itemOf 48 = .ok (.iload_n 1, 1) := by decide +kernel
theorem dX10_itemOf_49 : decode cX10_itemOf 49 = .ok (.bipush 120, 2) := by decide +kernel
theorem dX10_itemOf_51 : decode cX10_itemOf 51 = .ok (.if_icmp .ne 7, 3) := by decide +kernel
theorem dX10_itemOf_54 : decode cX10_itemOf 54 = .ok (.iconst 0, 1) := by decide +kernel
theorem dX10_itemOf_55 : decode cX10_itemOf 55 = .ok (.goto 34, 3) := by decide +kernel
theorem dX10_itemOf_58 : decode cX10_itemOf 58 = .ok (.iload_n 1, 1) := by decide +kernel
theorem dX10_itemOf_59 : decode cX10_itemOf 59 = .ok (.bipush 121, 2) := by decide +kernel
theorem dX10_itemOf_61 : decode cX10_itemOf 61 = .ok (.if_icmp .ne 7, 3) := by decide +kernel
theorem dX10_itemOf_64 : decode cX10_itemOf 64 = .ok (.iconst 1, 1) := by decide +kernel
theorem dX10_itemOf_65 : decode cX10_itemOf 65 = .ok (.goto 24, 3) := by decide +kernel
theorem dX10_itemOf_68 : decode cX10_itemOf 68 = .ok (.iload_n 1, 1) := by decide +kernel
theorem dX10_itemOf_69 : decode cX10_itemOf 69 = .ok (.bipush 109, 2) := by decide +kernel
theorem dX10_itemOf_71 : decode cX10_itemOf 71 = .ok (.if_icmp .ne 7, 3) := by decide +kernel
theorem dX10_itemOf_74 : decode cX10_itemOf 74 = .ok (.iconst 2, 1) := by decide +kernel
theorem dX10_itemOf_75 : decode cX10_itemOf 75 = .ok (.goto 14, 3) := by decide +kernel
theorem dX10_itemOf_78 : decode cX10_itemOf 78 = .ok (.iload_n 1, 1) := by decide +kernel
theorem dX10_itemOf_79 : decode cX10_itemOf 79 = .ok (.bipush 108, 2) := by decide +kernel
theorem dX10_itemOf_81 : decode cX10_itemOf 81 = .ok (.if_icmp .ne 7, 3) := by decide +kernel
theorem dX10_itemOf_84 : decode cX10_itemOf 84 = .ok (.iconst 3, 1) := by decide +kernel
theorem dX10_itemOf_85 : decode cX10_itemOf 85 = .ok (.goto 4, 3) := by decide +kernel
theorem dX10_itemOf_88 : decode cX10_itemOf 88 = .ok (.iconst (-1), 1) := by decide +kernel
theorem dX10_itemOf_89 : decode cX10_itemOf 89 = .ok (.ireturn, 1) := by decide +kernel
theorem dX10_highest_0 : decode cX10_highest 0 = .ok (.iload_n 0, 1) := by decide +kernel
theorem dX10_highest_1 : decode cX10_highest 1 = .ok (.bipush 115, 2) := by decide +kernel
theorem dX10_highest_3 : decode cX10_highest 3 = .ok (.if_icmp .ne 34, 3) := by decide +kernel
theorem dX10_highest_6 : decode cX10_highest 6 = .ok (.iload_n 1, 1) := by decide +kernel
theorem dX10_highest_7 : decode cX10_highest 7 = .ok (.ifCond .ne 8, 3) := by decide +kernel
theorem dX10_highest_10 : decode cX10_highest 10 = .ok (.bipush 6, 2) := by decide +kernel
theorem dX10_highest_12 : decode cX10_highest 12 = .ok (.goto 24, 3) := by decide +kernel
theorem dX10_highest_15 : decode cX10_highest 15 = .ok (.iload_n 1, 1) := by decide +kernel
theorem dX10_highest_16 : decode cX10_highest 16 = .ok (.iconst 1, 1) := by decide +kernel
theorem dX10_highest_17 : decode cX10_highest 17 = .ok (.if_icmp .ne 7, 3) := by decide +kernel
theorem dX10_highest_20 : decode cX10_highest 20 = .ok (.iconst 5, 1) := by decide +kernel
theorem dX10_highest_21 : decode cX10_highest 21 = .ok (.goto 15, 3) := by decide +kernel
theorem dX10_highest_24 : decode cX10_highest 24 = .ok (.iload_n 1, 1) := by decide +kernel
theorem dX10_highest_25 : decode cX10_highest 25 = .ok (.iconst 2, 1) := by decide +kernel
theorem dX10_highest_26 : decode cX10_highest 26 = .ok (.if_icmp .ne 8, 3) := by decide +kernel
theorem dX10_highest_29 : decode cX10_highest 29 = .ok (.bipush 99, 2) := by decide +kernel
theorem dX10_highest_31 : decode cX10_highest 31 = .ok (.goto 5, 3) := by decide +kernel
theorem dX10_highest_34 : decode cX10_highest 34 = .ok (.bipush 9, 2) := by decide +kernel
theorem dX10_highest_36 : decode cX10_highest 36 = .ok (.ireturn, 1) := by decide +kernel
theorem dX10_highest_37 : decode cX10_highest 37 = .ok (.iload_n 1, 1) := by decide +kernel
theorem dX10_highest_38 : decode cX10_highest 38 = .ok (.ifCond .ne 7, 3) := by decide +kernel
theorem dX10_highest_41 : decode cX10_highest 41 = .ok (.iconst 5, 1) := by decide +kernel
theorem dX10_highest_42 : decode cX10_highest 42 = .ok (.goto 14, 3) := by decide +kernel
theorem dX10_highest_45 : decode cX10_highest 45 = .ok (.iload_n 1, 1) := by decide +kernel
theorem dX10_highest_46 : decode cX10_highest 46 = .ok (.iconst 1, 1) := by decide +kernel
theorem dX10_highest_47 : decode cX10_highest 47 = .ok (.if_icmp .ne 7, 3) := by decide +kernel
theorem dX10_highest_50 : decode cX10_highest 50 = .ok (.iconst 4, 1) := by decide +kernel
theorem dX10_highest_51 : decode cX10_highest 51 = .ok (.goto 5, 3) := by decide +kernel
theorem dX10_highest_54 : decode cX10_highest 54 = .ok (.bipush 9, 2) := by decide +kernel
theorem dX10_highest_56 : decode cX10_highest 56 = .ok (.ireturn, 1) := by decide +kernel
theorem dX10_usual_0 : decode cX10_usual 0 = .ok (.iload_n 0, 1) := by decide +kernel
theorem dX10_usual_1 : decode cX10_usual 1 = .ok (.bipush 115, 2) := by decide +kernel
theorem dX10_usual_3 : decode cX10_usual 3 = .ok (.if_icmp .ne 32, 3) := by decide +kernel
theorem dX10_usual_6 : decode cX10_usual 6 = .ok (.iload_n 1, 1) := by decide +kernel
theorem dX10_usual_7 : decode cX10_usual 7 = .ok (.ifCond .ne 7, 3) := by decide +kernel
theorem dX10_usual_10 : decode cX10_usual 10 = .ok (.iconst 4, 1) := by decide +kernel
theorem dX10_usual_11 : decode cX10_usual 11 = .ok (.goto 23, 3) := by decide +kernel
theorem dX10_usual_14 : decode cX10_usual 14 = .ok (.iload_n 1, 1) := by decide +kernel
theorem dX10_usual_15 : decode cX10_usual 15 = .ok (.iconst 1, 1) := by decide +kernel
theorem dX10_usual_16 : decode cX10_usual 16 = .ok (.if_icmp .ne 7, 3) := by decide +kernel
theorem dX10_usual_19 : decode cX10_usual 19 = .ok (.iconst 3, 1) := by decide +kernel
theorem dX10_usual_20 : decode cX10_usual 20 = .ok (.goto 14, 3) := by decide +kernel
theorem dX10_usual_23 : decode cX10_usual 23 = .ok (.iload_n 1, 1) := by decide +kernel
theorem dX10_usual_24 : decode cX10_usual 24 = .ok (.iconst 2, 1) := by decide +kernel
theorem dX10_usual_25 : decode cX10_usual 25 = .ok (.if_icmp .ne 8, 3) := by decide +kernel
theorem dX10_usual_28 : decode cX10_usual 28 = .ok (.bipush 20, 2) := by decide +kernel
theorem dX10_usual_30 : decode cX10_usual 30 = .ok (.goto 4, 3) := by decide +kernel
theorem dX10_usual_33 : decode cX10_usual 33 = .ok (.iconst 0, 1) := by decide +kernel
theorem dX10_usual_34 : decode cX10_usual 34 = .ok (.ireturn, 1) := by decide +kernel
theorem dX10_usual_35 : decode cX10_usual 35 = .ok (.iload_n 1, 1) := by decide +kernel
theorem dX10_usual_36 : decode cX10_usual 36 = .ok (.iconst 2, 1) := by decide +kernel
theorem dX10_usual_37 : decode cX10_usual 37 = .ok (.if_icmp .ne 7, 3) := by decide +kernel
theorem dX10_usual_40 : decode cX10_usual 40 = .ok (.iconst 2, 1) := by decide +kernel
theorem dX10_usual_41 : decode cX10_usual 41 = .ok (.goto 14, 3) := by decide +kernel
theorem dX10_usual_44 : decode cX10_usual 44 = .ok (.iload_n 1, 1) := by decide +kernel
theorem dX10_usual_45 : decode cX10_usual 45 = .ok (.iconst 3, 1) := by decide +kernel
theorem dX10_usual_46 : decode cX10_usual 46 = .ok (.if_icmp .ne 8, 3) := by decide +kernel
theorem dX10_usual_49 : decode cX10_usual 49 = .ok (.bipush 9, 2) := by decide +kernel
theorem dX10_usual_51 : decode cX10_usual 51 = .ok (.goto 4, 3) := by decide +kernel
theorem dX10_usual_54 : decode cX10_usual 54 = .ok (.iconst 0, 1) := by decide +kernel
theorem dX10_usual_55 : decode cX10_usual 55 = .ok (.ireturn, 1) := by decide +kernel
theorem dX10_items_0 : decode cX10_items 0 = .ok (.iconst 0, 1) := by decide +kernel
theorem dX10_items_1 : decode cX10_items 1 = .ok (.istore 4, 2) := by decide +kernel
theorem dX10_items_3 : decode cX10_items 3 = .ok (.iload 4, 2) := by decide +kernel
theorem dX10_items_5 : decode cX10_items 5 = .ok (.iconst 4, 1) := by decide +kernel
theorem dX10_items_6 : decode cX10_items 6 = .ok (.if_icmp .ge 21, 3) := by decide +kernel
theorem dX10_items_9 : decode cX10_items 9 = .ok (.aload_n 2, 1) := by decide +kernel
theorem dX10_items_10 : decode cX10_items 10 = .ok (.iload_n 3, 1) := by decide +kernel
theorem dX10_items_11 : decode cX10_items 11 = .ok (.iload 4, 2) := by decide +kernel
theorem dX10_items_13 : decode cX10_items 13 = .ok (.iadd, 1) := by decide +kernel
theorem dX10_items_14 : decode cX10_items 14 = .ok (.iload_n 1, 1) := by decide +kernel
theorem dX10_items_15 : decode cX10_items 15 = .ok (.iload 4, 2) := by decide +kernel
theorem dX10_items_17 : decode cX10_items 17 = .ok (.invokestatic 221, 3) := by decide +kernel
theorem dX10_items_20 : decode cX10_items 20 = .ok (.iastore, 1) := by decide +kernel
theorem dX10_items_21 : decode cX10_items 21 = .ok (.iinc 4 1, 3) := by decide +kernel
theorem dX10_items_24 : decode cX10_items 24 = .ok (.goto (-21), 3) := by decide +kernel
theorem dX10_items_27 : decode cX10_items 27 = .ok (.iconst 0, 1) := by decide +kernel
theorem dX10_items_28 : decode cX10_items 28 = .ok (.istore 4, 2) := by decide +kernel
theorem dX10_items_30 : decode cX10_items 30 = .ok (.iload_n 1, 1) := by decide +kernel
theorem dX10_items_31 : decode cX10_items 31 = .ok (.aload_n 0, 1) := by decide +kernel
theorem dX10_items_32 : decode cX10_items 32 = .ok (.invokevirtual 131, 3) := by decide +kernel
theorem dX10_items_35 : decode cX10_items 35 = .ok (.invokestatic 225, 3) := by decide +kernel
theorem dX10_items_38 : decode cX10_items 38 = .ok (.istore 5, 2) := by decide +kernel
theorem dX10_items_40 : decode cX10_items 40 = .ok (.aload_n 0, 1) := by decide +kernel
theorem dX10_items_41 : decode cX10_items 41 = .ok (.getfield 119, 3) := by decide +kernel
theorem dX10_items_44 : decode cX10_items 44 = .ok (.iconst (-1), 1) := by decide +kernel
theorem dX10_items_45 : decode cX10_items 45 = .ok (.if_icmp .ne 96, 3) := by decide +kernel
theorem dX10_items_48 : decode cX10_items 48 = .ok (.iload 5, 2) := by decide +kernel
theorem dX10_items_50 : decode cX10_items 50 = .ok (.iconst (-1), 1) := by decide +kernel
theorem dX10_items_51 : decode cX10_items 51 = .ok (.if_icmp .eq 90, 3) := by decide +kernel
theorem dX10_items_54 : decode cX10_items 54 = .ok (.iload 4, 2) := by decide +kernel
theorem dX10_items_56 : decode cX10_items 56 = .ok (.iload 5, 2) := by decide +kernel
theorem dX10_items_58 : decode cX10_items 58 = .ok (.invokestatic 228, 3) := by decide +kernel
theorem dX10_items_61 : decode cX10_items 61 = .ok (.ifCond .ne 80, 3) := by decide +kernel
theorem dX10_items_64 : decode cX10_items 64 = .ok (.iload 4, 2) := by decide +kernel
theorem dX10_items_66 : decode cX10_items 66 = .ok (.iconst 1, 1) := by decide +kernel
theorem dX10_items_67 : decode cX10_items 67 = .ok (.iload 5, 2) := by decide +kernel
theorem dX10_items_69 : decode cX10_items 69 = .ok (.ishl, 1) := by decide +kernel
theorem dX10_items_70 : decode cX10_items 70 = .ok (.ior, 1) := by decide +kernel
theorem dX10_items_71 : decode cX10_items 71 = .ok (.istore 4, 2) := by decide +kernel
theorem dX10_items_73 : decode cX10_items 73 = .ok (.aload_n 0, 1) := by decide +kernel
theorem dX10_items_74 : decode cX10_items 74 = .ok (.dup, 1) := by decide +kernel
theorem dX10_items_75 : decode cX10_items 75 = .ok (.getfield 112, 3) := by decide +kernel
theorem dX10_items_78 : decode cX10_items 78 = .ok (.iconst 1, 1) := by decide +kernel
theorem dX10_items_79 : decode cX10_items 79 = .ok (.iadd, 1) := by decide +kernel
theorem dX10_items_80 : decode cX10_items 80 = .ok (.putfield 112, 3) := by decide +kernel
theorem dX10_items_83 : decode cX10_items 83 = .ok (.aload_n 2, 1) := by decide +kernel
theorem dX10_items_84 : decode cX10_items 84 = .ok (.iload_n 3, 1) := by decide +kernel
theorem dX10_items_85 : decode cX10_items 85 = .ok (.iload 5, 2) := by decide +kernel
theorem dX10_items_87 : decode cX10_items 87 = .ok (.iadd, 1) := by decide +kernel
theorem dX10_items_88 : decode cX10_items 88 = .ok (.aload_n 0, 1) := by decide +kernel
theorem dX10_items_89 : decode cX10_items 89 = .ok (.iload_n 1, 1) := by decide +kernel
theorem dX10_items_90 : decode cX10_items 90 = .ok (.bipush 115, 2) := by decide +kernel
theorem dX10_items_92 : decode cX10_items 92 = .ok (.if_icmp .ne 13, 3) := by decide +kernel
theorem dX10_items_95 : decode cX10_items 95 = .ok (.iload 5, 2) := by decide +kernel
theorem dX10_items_97 : decode cX10_items 97 = .ok (.iconst 2, 1) := by decide +kernel
theorem dX10_items_98 : decode cX10_items 98 = .ok (.if_icmp .ge 7, 3) := by decide +kernel
theorem dX10_items_101 : decode cX10_items 101 = .ok (.iconst 2, 1) := by decide +kernel
theorem dX10_items_102 : decode cX10_items 102 = .ok (.goto 4, 3) := by decide +kernel
theorem dX10_items_105 : decode cX10_items 105 = .ok (.iconst 0, 1) := by decide +kernel
theorem dX10_items_106 : decode cX10_items 106 = .ok (.iload_n 1, 1) := by decide +kernel
theorem dX10_items_107 : decode cX10_items 107 = .ok (.iload 5, 2) := by decide +kernel
theorem dX10_items_109 : decode cX10_items 109 = .ok (.invokestatic 232, 3) := by decide +kernel
theorem dX10_items_112 : decode cX10_items 112 = .ok (.invokevirtual 235, 3) := by decide +kernel
theorem dX10_items_115 : decode cX10_items 115 = .ok (.iastore, 1) := by decide +kernel
theorem dX10_items_116 : decode cX10_items 116 = .ok (.aload_n 0, 1) := by decide +kernel
theorem dX10_items_117 : decode cX10_items 117 = .ok (.getfield 119, 3) := by decide +kernel
theorem dX10_items_120 : decode cX10_items 120 = .ok (.iconst (-1), 1) := by decide +kernel
theorem dX10_items_121 : decode cX10_items 121 = .ok (.if_icmp .ne 14, 3) := by decide +kernel
theorem dX10_items_124 : decode cX10_items 124 = .ok (.iload_n 1, 1) := by decide +kernel
theorem dX10_items_125 : decode cX10_items 125 = .ok (.aload_n 0, 1) := by decide +kernel
theorem dX10_items_126 : decode cX10_items 126 = .ok (.invokevirtual 131, 3) := by decide +kernel
theorem dX10_items_129 : decode cX10_items 129 = .ok (.invokestatic 225, 3) := by decide +kernel
theorem dX10_items_132 : decode cX10_items 132 = .ok (.goto 4, 3) := by decide +kernel
theorem dX10_items_135 : decode cX10_items 135 = .ok (.iconst (-1), 1) := by decide +kernel
theorem dX10_items_136 : decode cX10_items 136 = .ok (.istore 5, 2) := by decide +kernel
theorem dX10_items_138 : decode cX10_items 138 = .ok (.goto (-98), 3) := by decide +kernel
theorem dX10_items_141 : decode cX10_items 141 = .ok (.return_, 1) := by decide +kernel
theorem dX10_heightsRead_0 : decode cX10_heightsRead 0 = .ok (.iconst 0, 1) := by decide +kernel
theorem dX10_heightsRead_1 : decode cX10_heightsRead 1 = .ok (.istore_n 1, 1) := by decide +kernel
theorem dX10_heightsRead_2 : decode cX10_heightsRead 2 = .ok (.iconst 0, 1) := by decide +kernel
theorem dX10_heightsRead_3 : decode cX10_heightsRead 3 = .ok (.istore_n 2, 1) := by decide +kernel
theorem dX10_heightsRead_4 : decode cX10_heightsRead 4 = .ok (.iload_n 2, 1) := by decide +kernel
theorem dX10_heightsRead_5 : decode cX10_heightsRead 5 = .ok (.bipush 6, 2) := by decide +kernel
theorem dX10_heightsRead_7 : decode cX10_heightsRead 7 = .ok (.if_icmp .ge 24, 3) := by decide +kernel
theorem dX10_heightsRead_10 : decode cX10_heightsRead 10 = .ok (.aload_n 0, 1) := by decide +kernel
theorem dX10_heightsRead_11 : decode cX10_heightsRead 11 = .ok (.getfield 43, 3) := by decide +kernel
theorem dX10_heightsRead_14 : decode cX10_heightsRead 14 = .ok (.bipush 6, 2) := by decide +kernel
theorem dX10_heightsRead_16 : decode cX10_heightsRead 16 = .ok (.aload_n 0, 1) := by decide +kernel
theorem dX10_heightsRead_17 : decode cX10_heightsRead 17 = .ok (.getfield 238, 3) := by decide +kernel
theorem dX10_heightsRead_20 : decode cX10_heightsRead 20 = .ok (.imul, 1) := by decide +kernel
theorem dX10_heightsRead_21 : decode cX10_heightsRead 21 = .ok (.iload_n 2, 1) := by decide +kernel
theorem dX10_heightsRead_22 : decode cX10_heightsRead 22 = .ok (.iadd, 1) := by decide +kernel
theorem dX10_heightsRead_23 : decode cX10_heightsRead 23 = .ok (.iconst 0, 1) := by decide +kernel
theorem dX10_heightsRead_24 : decode cX10_heightsRead 24 = .ok (.iastore, 1) := by decide +kernel
theorem dX10_heightsRead_25 : decode cX10_heightsRead 25 = .ok (.iinc 2 1, 3) := by decide +kernel
theorem dX10_heightsRead_28 : decode cX10_heightsRead 28 = .ok (.goto (-24), 3) := by decide +kernel
theorem dX10_heightsRead_31 : decode cX10_heightsRead 31 = .ok (.iload_n 1, 1) := by decide +kernel
theorem dX10_heightsRead_32 : decode cX10_heightsRead 32 = .ok (.bipush 6, 2) := by decide +kernel
theorem dX10_heightsRead_34 : decode cX10_heightsRead 34 = .ok (.if_icmp .ge 50, 3) := by decide +kernel
theorem dX10_heightsRead_37 : decode cX10_heightsRead 37 = .ok (.aload_n 0, 1) := by decide +kernel
theorem dX10_heightsRead_38 : decode cX10_heightsRead 38 = .ok (.invokevirtual 131, 3) := by decide +kernel
theorem dX10_heightsRead_41 : decode cX10_heightsRead 41 = .ok (.invokestatic 134, 3) := by decide +kernel
theorem dX10_heightsRead_44 : decode cX10_heightsRead 44 = .ok (.ifCond .eq 40, 3) := by decide +kernel
theorem dX10_heightsRead_47 : decode cX10_heightsRead 47 = .ok (.aload_n 0, 1) := by decide +kernel
theorem dX10_heightsRead_48 : decode cX10_heightsRead 48 = .ok (.getfield 43, 3) := by decide +kernel
theorem dX10_heightsRead_51 : decode cX10_heightsRead 51 = .ok (.bipush 6, 2) := by decide +kernel
theorem dX10_heightsRead_53 : decode cX10_heightsRead 53 = .ok (.aload_n 0, 1) := by decide +kernel
theorem dX10_heightsRead_54 : decode cX10_heightsRead 54 = .ok (.getfield 238, 3) := by decide +kernel
theorem dX10_heightsRead_57 : decode cX10_heightsRead 57 = .ok (.imul, 1) := by decide +kernel
theorem dX10_heightsRead_58 : decode cX10_heightsRead 58 = .ok (.iload_n 1, 1) := by decide +kernel
theorem dX10_heightsRead_59 : decode cX10_heightsRead 59 = .ok (.iadd, 1) := by decide +kernel
theorem dX10_heightsRead_60 : decode cX10_heightsRead 60 = .ok (.aload_n 0, 1) := by decide +kernel
theorem dX10_heightsRead_61 : decode cX10_heightsRead 61 = .ok (.invokevirtual 115, 3) := by decide +kernel
theorem dX10_heightsRead_64 : decode cX10_heightsRead 64 = .ok (.bipush 48, 2) := by decide +kernel
theorem dX10_heightsRead_66 : decode cX10_heightsRead 66 = .ok (.isub, 1) := by decide +kernel
theorem dX10_heightsRead_67 : decode cX10_heightsRead 67 = .ok (.iastore, 1) := by decide +kernel
theorem dX10_heightsRead_68 : decode cX10_heightsRead 68 = .ok (.iinc 1 1, 3) := by decide +kernel
theorem dX10_heightsRead_71 : decode cX10_heightsRead 71 = .ok (.aload_n 0, 1) := by decide +kernel
theorem dX10_heightsRead_72 : decode cX10_heightsRead 72 = .ok (.dup, 1) := by decide +kernel
theorem dX10_heightsRead_73 : decode cX10_heightsRead 73 = .ok (.getfield 112, 3) := by decide +kernel
theorem dX10_heightsRead_76 : decode cX10_heightsRead 76 = .ok (.iconst 1, 1) := by decide +kernel
theorem dX10_heightsRead_77 : decode cX10_heightsRead 77 = .ok (.iadd, 1) := by decide +kernel
theorem dX10_heightsRead_78 : decode cX10_heightsRead 78 = .ok (.putfield 112, 3) := by decide +kernel
theorem dX10_heightsRead_81 : decode cX10_heightsRead 81 = .ok (.goto (-50), 3) := by decide +kernel
theorem dX10_heightsRead_84 : decode cX10_heightsRead 84 = .ok (.aload_n 0, 1) := by decide +kernel
theorem dX10_heightsRead_85 : decode cX10_heightsRead 85 = .ok (.getfield 46, 3) := by decide +kernel
theorem dX10_heightsRead_88 : decode cX10_heightsRead 88 = .ok (.aload_n 0, 1) := by decide +kernel
theorem dX10_heightsRead_89 : decode cX10_heightsRead 89 = .ok (.getfield 238, 3) := by decide +kernel
theorem dX10_heightsRead_92 : decode cX10_heightsRead 92 = .ok (.iload_n 1, 1) := by decide +kernel
theorem dX10_heightsRead_93 : decode cX10_heightsRead 93 = .ok (.iastore, 1) := by decide +kernel
theorem dX10_heightsRead_94 : decode cX10_heightsRead 94 = .ok (.aload_n 0, 1) := by decide +kernel
theorem dX10_heightsRead_95 : decode cX10_heightsRead 95 = .ok (.dup, 1) := by decide +kernel
theorem dX10_heightsRead_96 : decode cX10_heightsRead 96 = .ok (.getfield 238, 3) := by decide +kernel
theorem dX10_heightsRead_99 : decode cX10_heightsRead 99 = .ok (.iconst 1, 1) := by decide +kernel
theorem dX10_heightsRead_100 : decode cX10_heightsRead 100 = .ok (.iadd, 1) := by decide +kernel
theorem dX10_heightsRead_101 : decode cX10_heightsRead 101 = .ok (.putfield 238, 3) := by decide +kernel
theorem dX10_heightsRead_104 : decode cX10_heightsRead 104 = .ok (.return_, 1) := by decide +kernel
theorem dX10_isWhole_0 : decode cX10_isWhole 0 = .ok (.aload_n 0, 1) := by decide +kernel
theorem dX10_isWhole_1 : decode cX10_isWhole 1 = .ok (.getfield 241, 3) := by decide +kernel
theorem dX10_isWhole_4 : decode cX10_isWhole 4 = .ok (.ifCond .le 20, 3) := by decide +kernel
theorem dX10_isWhole_7 : decode cX10_isWhole 7 = .ok (.aload_n 0, 1) := by decide +kernel
theorem dX10_isWhole_8 : decode cX10_isWhole 8 = .ok (.getfield 238, 3) := by decide +kernel
theorem dX10_isWhole_11 : decode cX10_isWhole 11 = .ok (.aload_n 0, 1) := by decide +kernel
theorem dX10_isWhole_12 : decode cX10_isWhole 12 = .ok (.getfield 40, 3) := by decide +kernel
theorem dX10_isWhole_15 : decode cX10_isWhole 15 = .ok (.iconst 1, 1) := by decide +kernel
theorem dX10_isWhole_16 : decode cX10_isWhole 16 = .ok (.iaload, 1) := by decide +kernel
theorem dX10_isWhole_17 : decode cX10_isWhole 17 = .ok (.if_icmp .gt 7, 3) := by decide +kernel
theorem dX10_isWhole_20 : decode cX10_isWhole 20 = .ok (.iconst 1, 1) := by decide +kernel
theorem dX10_isWhole_21 : decode cX10_isWhole 21 = .ok (.goto 4, 3) := by decide +kernel
theorem dX10_isWhole_24 : decode cX10_isWhole 24 = .ok (.iconst 0, 1) := by decide +kernel
theorem dX10_isWhole_25 : decode cX10_isWhole 25 = .ok (.istore_n 1, 1) := by decide +kernel
theorem dX10_isWhole_26 : decode cX10_isWhole 26 = .ok (.iconst 0, 1) := by decide +kernel
theorem dX10_isWhole_27 : decode cX10_isWhole 27 = .ok (.istore_n 2, 1) := by decide +kernel
theorem dX10_isWhole_28 : decode cX10_isWhole 28 = .ok (.iload_n 2, 1) := by decide +kernel
theorem dX10_isWhole_29 : decode cX10_isWhole 29 = .ok (.aload_n 0, 1) := by decide +kernel
theorem dX10_isWhole_30 : decode cX10_isWhole 30 = .ok (.getfield 238, 3) := by decide +kernel
theorem dX10_isWhole_33 : decode cX10_isWhole 33 = .ok (.if_icmp .ge 34, 3) := by decide +kernel
theorem dX10_isWhole_36 : decode cX10_isWhole 36 = .ok (.iload_n 1, 1) := by decide +kernel
theorem dX10_isWhole_37 : decode cX10_isWhole 37 = .ok (.ifCond .eq 22, 3) := by decide +kernel
theorem dX10_isWhole_40 : decode cX10_isWhole 40 = .ok (.aload_n 0, 1) := by decide +kernel
theorem dX10_isWhole_41 : decode cX10_isWhole 41 = .ok (.getfield 46, 3) := by decide +kernel
theorem dX10_isWhole_44 : decode cX10_isWhole 44 = .ok (.iload_n 2, 1) := by decide +kernel
theorem dX10_isWhole_45 : decode cX10_isWhole 45 = .ok (.iaload, 1) := by decide +kernel
theorem dX10_isWhole_46 : decode cX10_isWhole 46 = .ok (.aload_n 0, 1) := by decide +kernel
theorem dX10_isWhole_47 : decode cX10_isWhole 47 = .ok (.getfield 40, 3) := by decide +kernel
theorem dX10_isWhole_50 : decode cX10_isWhole 50 = .ok (.iconst 0, 1) := by decide +kernel
theorem dX10_isWhole_51 : decode cX10_isWhole 51 = .ok (.iaload, 1) := by decide +kernel
theorem dX10_isWhole_52 : decode cX10_isWhole 52 = .ok (.if_icmp .gt 7, 3) := by decide +kernel
theorem dX10_isWhole_55 : decode cX10_isWhole 55 = .ok (.iconst 1, 1) := by decide +kernel
theorem dX10_isWhole_56 : decode cX10_isWhole 56 = .ok (.goto 4, 3) := by decide +kernel
theorem dX10_isWhole_59 : decode cX10_isWhole 59 = .ok (.iconst 0, 1) := by decide +kernel
theorem dX10_isWhole_60 : decode cX10_isWhole 60 = .ok (.istore_n 1, 1) := by decide +kernel
theorem dX10_isWhole_61 : decode cX10_isWhole 61 = .ok (.iinc 2 1, 3) := by decide +kernel
theorem dX10_isWhole_64 : decode cX10_isWhole 64 = .ok (.goto (-36), 3) := by decide +kernel
theorem dX10_isWhole_67 : decode cX10_isWhole 67 = .ok (.iconst 0, 1) := by decide +kernel
theorem dX10_isWhole_68 : decode cX10_isWhole 68 = .ok (.istore_n 2, 1) := by decide +kernel
theorem dX10_isWhole_69 : decode cX10_isWhole 69 = .ok (.iload_n 2, 1) := by decide +kernel
theorem dX10_isWhole_70 : decode cX10_isWhole 70 = .ok (.aload_n 0, 1) := by decide +kernel
theorem dX10_isWhole_71 : decode cX10_isWhole 71 = .ok (.getfield 241, 3) := by decide +kernel
theorem dX10_isWhole_74 : decode cX10_isWhole 74 = .ok (.if_icmp .ge 57, 3) := by decide +kernel
theorem dX10_isWhole_77 : decode cX10_isWhole 77 = .ok (.iload_n 1, 1) := by decide +kernel
theorem dX10_isWhole_78 : decode cX10_isWhole 78 = .ok (.ifCond .eq 45, 3) := by decide +kernel
theorem dX10_isWhole_81 : decode cX10_isWhole 81 = .ok (.aload_n 0, 1) := by decide +kernel
theorem dX10_isWhole_82 : decode cX10_isWhole 82 = .ok (.getfield 49, 3) := by decide +kernel
theorem dX10_isWhole_85 : decode cX10_isWhole 85 = .ok (.iconst 4, 1) := by decide +kernel
theorem dX10_isWhole_86 : decode cX10_isWhole 86 = .ok (.iload_n 2, 1) := by decide +kernel
theorem dX10_isWhole_87 : decode cX10_isWhole 87 = .ok (.imul, 1) := by decide +kernel
theorem dX10_isWhole_88 : decode cX10_isWhole 88 = .ok (.iconst 0, 1) := by decide +kernel
theorem dX10_isWhole_89 : decode cX10_isWhole 89 = .ok (.iadd, 1) := by decide +kernel
theorem dX10_isWhole_90 : decode cX10_isWhole 90 = .ok (.iaload, 1) := by decide +kernel
theorem dX10_isWhole_91 : decode cX10_isWhole 91 = .ok (.aload_n 0, 1) := by decide +kernel
theorem dX10_isWhole_92 : decode cX10_isWhole 92 = .ok (.getfield 40, 3) := by decide +kernel
theorem dX10_isWhole_95 : decode cX10_isWhole 95 = .ok (.iconst 0, 1) := by decide +kernel
theorem dX10_isWhole_96 : decode cX10_isWhole 96 = .ok (.iaload, 1) := by decide +kernel
theorem dX10_isWhole_97 : decode cX10_isWhole 97 = .ok (.if_icmp .ge 26, 3) := by decide +kernel
theorem dX10_isWhole_100 : decode cX10_isWhole 100 = .ok (.aload_n 0, 1) := by decide +kernel
theorem dX10_isWhole_101 : decode cX10_isWhole 101 = .ok (.getfield 49, 3) := by decide +kernel
theorem dX10_isWhole_104 : decode cX10_isWhole 104 = .ok (.iconst 4, 1) := by decide +kernel
theorem dX10_isWhole_105 : decode cX10_isWhole 105 = .ok (.iload_n 2, 1) := by decide +kernel
theorem dX10_isWhole_106 : decode cX10_isWhole 106 = .ok (.imul, 1) := by decide +kernel
theorem dX10_isWhole_107 : decode cX10_isWhole 107 = .ok (.iconst 1, 1) := by decide +kernel
theorem dX10_isWhole_108 : decode cX10_isWhole 108 = .ok (.iadd, 1) := by decide +kernel
theorem dX10_isWhole_109 : decode cX10_isWhole 109 = .ok (.iaload, 1) := by decide +kernel
theorem dX10_isWhole_110 : decode cX10_isWhole 110 = .ok (.aload_n 0, 1) := by decide +kernel
theorem dX10_isWhole_111 : decode cX10_isWhole 111 = .ok (.getfield 40, 3) := by decide +kernel
theorem dX10_isWhole_114 : decode cX10_isWhole 114 = .ok (.iconst 1, 1) := by decide +kernel
theorem dX10_isWhole_115 : decode cX10_isWhole 115 = .ok (.iaload, 1) := by decide +kernel
theorem dX10_isWhole_116 : decode cX10_isWhole 116 = .ok (.if_icmp .ge 7, 3) := by decide +kernel
theorem dX10_isWhole_119 : decode cX10_isWhole 119 = .ok (.iconst 1, 1) := by decide +kernel
theorem dX10_isWhole_120 : decode cX10_isWhole 120 = .ok (.goto 4, 3) := by decide +kernel
theorem dX10_isWhole_123 : decode cX10_isWhole 123 = .ok (.iconst 0, 1) := by decide +kernel
theorem dX10_isWhole_124 : decode cX10_isWhole 124 = .ok (.istore_n 1, 1) := by decide +kernel
theorem dX10_isWhole_125 : decode cX10_isWhole 125 = .ok (.iinc 2 1, 3) := by decide +kernel
theorem dX10_isWhole_128 : decode cX10_isWhole 128 = .ok (.goto (-59), 3) := by decide +kernel
theorem dX10_isWhole_131 : decode cX10_isWhole 131 = .ok (.iload_n 1, 1) := by decide +kernel
theorem dX10_isWhole_132 : decode cX10_isWhole 132 = .ok (.ireturn, 1) := by decide +kernel
theorem dX10_readLand_0 : decode cX10_readLand 0 = .ok (.aload_n 0, 1) := by decide +kernel
theorem dX10_readLand_1 : decode cX10_readLand 1 = .ok (.iconst 0, 1) := by decide +kernel
theorem dX10_readLand_2 : decode cX10_readLand 2 = .ok (.putfield 112, 3) := by decide +kernel
theorem dX10_readLand_5 : decode cX10_readLand 5 = .ok (.aload_n 0, 1) := by decide +kernel
theorem dX10_readLand_6 : decode cX10_readLand 6 = .ok (.iconst (-1), 1) := by decide +kernel
theorem dX10_readLand_7 : decode cX10_readLand 7 = .ok (.putfield 119, 3) := by decide +kernel
theorem dX10_readLand_10 : decode cX10_readLand 10 = .ok (.aload_n 0, 1) := by decide +kernel
theorem dX10_readLand_11 : decode cX10_readLand 11 = .ok (.iconst 0, 1) := by decide +kernel
theorem dX10_readLand_12 : decode cX10_readLand 12 = .ok (.putfield 238, 3) := by decide +kernel
theorem dX10_readLand_15 : decode cX10_readLand 15 = .ok (.aload_n 0, 1) := by decide +kernel
theorem dX10_readLand_16 : decode cX10_readLand 16 = .ok (.iconst 0, 1) := by decide +kernel
theorem dX10_readLand_17 : decode cX10_readLand 17 = .ok (.putfield 241, 3) := by decide +kernel
theorem dX10_readLand_20 : decode cX10_readLand 20 = .ok (.iconst 0, 1) := by decide +kernel
theorem dX10_readLand_21 : decode cX10_readLand 21 = .ok (.istore_n 1, 1) := by decide +kernel
theorem dX10_readLand_22 : decode cX10_readLand 22 = .ok (.iconst 0, 1) := by decide +kernel
theorem dX10_readLand_23 : decode cX10_readLand 23 = .ok (.istore_n 2, 1) := by decide +kernel
theorem dX10_readLand_24 : decode cX10_readLand 24 = .ok (.iload_n 2, 1) := by decide +kernel
theorem dX10_readLand_25 : decode cX10_readLand 25 = .ok (.iconst 4, 1) := by decide +kernel
theorem dX10_readLand_26 : decode cX10_readLand 26 = .ok (.if_icmp .ge 21, 3) := by decide +kernel
theorem dX10_readLand_29 : decode cX10_readLand 29 = .ok (.aload_n 0, 1) := by decide +kernel
theorem dX10_readLand_30 : decode cX10_readLand 30 = .ok (.getfield 40, 3) := by decide +kernel
theorem dX10_readLand_33 : decode cX10_readLand 33 = .ok (.iload_n 2, 1) := by decide +kernel
theorem dX10_readLand_34 : decode cX10_readLand 34 = .ok (.bipush 115, 2) := by decide +kernel
theorem dX10_readLand_36 : decode cX10_readLand 36 = .ok (.iload_n 2, 1) := by decide +kernel
theorem dX10_readLand_37 : decode cX10_readLand 37 = .ok (.invokestatic 221, 3) := by decide +kernel
theorem dX10_readLand_40 : decode cX10_readLand 40 = .ok (.iastore, 1) := by decide +kernel
theorem dX10_readLand_41 : decode cX10_readLand 41 = .ok (.iinc 2 1, 3) := by decide +kernel
theorem dX10_readLand_44 : decode cX10_readLand 44 = .ok (.goto (-20), 3) := by decide +kernel
theorem dX10_readLand_47 : decode cX10_readLand 47 = .ok (.iconst 1, 1) := by decide +kernel
theorem dX10_readLand_48 : decode cX10_readLand 48 = .ok (.istore_n 2, 1) := by decide +kernel
theorem dX10_readLand_49 : decode cX10_readLand 49 = .ok (.iload_n 2, 1) := by decide +kernel
theorem dX10_readLand_50 : decode cX10_readLand 50 = .ok (.ifCond .eq 182, 3) := by decide +kernel
theorem dX10_readLand_53 : decode cX10_readLand 53 = .ok (.aload_n 0, 1) := by decide +kernel
theorem dX10_readLand_54 : decode cX10_readLand 54 = .ok (.getfield 119, 3) := by decide +kernel
theorem dX10_readLand_57 : decode cX10_readLand 57 = .ok (.iconst (-1), 1) := by decide +kernel
theorem dX10_readLand_58 : decode cX10_readLand 58 = .ok (.if_icmp .ne 174, 3) := by decide +kernel
theorem dX10_readLand_61 : decode cX10_readLand 61 = .ok (.aload_n 0, 1) := by decide +kernel
theorem dX10_readLand_62 : decode cX10_readLand 62 = .ok (.invokevirtual 131, 3) := by decide +kernel
theorem dX10_readLand_65 : decode cX10_readLand 65 = .ok (.istore_n 3, 1) := by decide +kernel
theorem dX10_readLand_66 : decode cX10_readLand 66 = .ok (.iload_n 3, 1) := by decide +kernel
theorem dX10_readLand_67 : decode cX10_readLand 67 = .ok (.bipush 115, 2) := by decide +kernel
theorem dX10_readLand_69 : decode cX10_readLand 69 = .ok (.if_icmp .ne 32, 3) := by decide +kernel
theorem dX10_readLand_72 : decode cX10_readLand 72 = .ok (.iload_n 1, 1) := by decide +kernel
theorem dX10_readLand_73 : decode cX10_readLand 73 = .ok (.ifCond .ne 28, 3) := by decide +kernel
theorem dX10_readLand_76 : decode cX10_readLand 76 = .ok (.iconst 1, 1) := by decide +kernel
theorem dX10_readLand_77 : decode cX10_readLand 77 = .ok (.istore_n 1, 1) := by decide +kernel
theorem dX10_readLand_78 : decode cX10_readLand 78 = .ok (.aload_n 0, 1) := by decide +kernel
theorem dX10_readLand_79 : decode cX10_readLand 79 = .ok (.dup, 1) := by decide +kernel
theorem dX10_readLand_80 : decode cX10_readLand 80 = .ok (.getfield 112, 3) := by decide +kernel
theorem dX10_readLand_83 : decode cX10_readLand 83 = .ok (.iconst 1, 1) := by decide +kernel
theorem dX10_readLand_84 : decode cX10_readLand 84 = .ok (.iadd, 1) := by decide +kernel
theorem dX10_readLand_85 : decode cX10_readLand 85 = .ok (.putfield 112, 3) := by decide +kernel
theorem dX10_readLand_88 : decode cX10_readLand 88 = .ok (.aload_n 0, 1) := by decide +kernel
theorem dX10_readLand_89 : decode cX10_readLand 89 = .ok (.iload_n 3, 1) := by decide +kernel
theorem dX10_readLand_90 : decode cX10_readLand 90 = .ok (.aload_n 0, 1) := by decide +kernel
theorem dX10_readLand_91 : decode cX10_readLand 91 = .ok (.getfield 40, 3) := by decide +kernel
theorem dX10_readLand_94 : decode cX10_readLand 94 = .ok (.iconst 0, 1) := by decide +kernel
theorem dX10_readLand_95 : decode cX10_readLand 95 = .ok (.invokevirtual 244, 3) := by decide +kernel
theorem dX10_readLand_98 : decode cX10_readLand 98 = .ok (.goto 90, 3) := by decide +kernel
theorem dX10_readLand_101 : decode cX10_readLand 101 = .ok (.iload_n 3, 1) := by decide +kernel
theorem dX10_readLand_102 : decode cX10_readLand 102 = .ok (.bipush 114, 2) := by decide +kernel
theorem dX10_readLand_104 : decode cX10_readLand 104 = .ok (.if_icmp .ne 28, 3) := by decide +kernel
theorem dX10_readLand_107 : decode cX10_readLand 107 = .ok (.aload_n 0, 1) := by decide +kernel
theorem dX10_readLand_108 : decode cX10_readLand 108 = .ok (.getfield 238, 3) := by decide +kernel
theorem dX10_readLand_111 : decode cX10_readLand 111 = .ok (.iconst 5, 1) := by decide +kernel
theorem dX10_readLand_112 : decode cX10_readLand 112 = .ok (.if_icmp .ge 20, 3) := by decide +kernel
theorem dX10_readLand_115 : decode cX10_readLand 115 = .ok (.aload_n 0, 1) := by decide +kernel
theorem dX10_readLand_116 : decode cX10_readLand 116 = .ok (.dup, 1) := by decide +kernel
theorem dX10_readLand_117 : decode cX10_readLand 117 = .ok (.getfield 112, 3) := by decide +kernel
theorem dX10_readLand_120 : decode cX10_readLand 120 = .ok (.iconst 1, 1) := by decide +kernel
theorem dX10_readLand_121 : decode cX10_readLand 121 = .ok (.iadd, 1) := by decide +kernel
theorem dX10_readLand_122 : decode cX10_readLand 122 = .ok (.putfield 112, 3) := by decide +kernel
theorem dX10_readLand_125 : decode cX10_readLand 125 = .ok (.aload_n 0, 1) := by decide +kernel
theorem dX10_readLand_126 : decode cX10_readLand 126 = .ok (.invokevirtual 248, 3) := by decide +kernel
theorem dX10_readLand_129 : decode cX10_readLand 129 = .ok (.goto 59, 3) := by decide +kernel
theorem dX10_readLand_132 : decode cX10_readLand 132 = .ok (.iload_n 3, 1) := by decide +kernel
theorem dX10_readLand_133 : decode cX10_readLand 133 = .ok (.bipush 116, 2) := by decide +kernel
theorem dX10_readLand_135 : decode cX10_readLand 135 = .ok (.if_icmp .ne 49, 3) := by decide +kernel
theorem dX10_readLand_138 : decode cX10_readLand 138 = .ok (.aload_n 0, 1) := by decide +kernel
theorem dX10_readLand_139 : decode cX10_readLand 139 = .ok (.getfield 241, 3) := by decide +kernel
theorem dX10_readLand_142 : decode cX10_readLand 142 = .ok (.iconst 4, 1) := by decide +kernel
theorem dX10_readLand_143 : decode cX10_readLand 143 = .ok (.if_icmp .ge 41, 3) := by decide +kernel
theorem dX10_readLand_146 : decode cX10_readLand 146 = .ok (.aload_n 0, 1) := by decide +kernel
theorem dX10_readLand_147 : decode cX10_readLand 147 = .ok (.dup, 1) := by decide +kernel
theorem dX10_readLand_148 : decode cX10_readLand 148 = .ok (.getfield 112, 3) := by decide +kernel
theorem dX10_readLand_151 : decode cX10_readLand 151 = .ok (.iconst 1, 1) := by decide +kernel
theorem dX10_readLand_152 : decode cX10_readLand 152 = .ok (.iadd, 1) := by decide +kernel
theorem dX10_readLand_153 : decode cX10_readLand 153 = .ok (.putfield 112, 3) := by decide +kernel
theorem dX10_readLand_156 : decode cX10_readLand 156 = .ok (.aload_n 0, 1) := by decide +kernel
theorem dX10_readLand_157 : decode cX10_readLand 157 = .ok (.iload_n 3, 1) := by decide +kernel
theorem dX10_readLand_158 : decode cX10_readLand 158 = .ok (.aload_n 0, 1) := by decide +kernel
theorem dX10_readLand_159 : decode cX10_readLand 159 = .ok (.getfield 49, 3) := by decide +kernel
theorem dX10_readLand_162 : decode cX10_readLand 162 = .ok (.iconst 4, 1) := by decide +kernel
theorem dX10_readLand_163 : decode cX10_readLand 163 = .ok (.aload_n 0, 1) := by decide +kernel
theorem dX10_readLand_164 : decode cX10_readLand 164 = .ok (.getfield 241, 3) := by decide +kernel
theorem dX10_readLand_167 : decode cX10_readLand 167 = .ok (.imul, 1) := by decide +kernel
theorem dX10_readLand_168 : decode cX10_readLand 168 = .ok (.invokevirtual 244, 3) := by decide +kernel
theorem dX10_readLand_171 : decode cX10_readLand 171 = .ok (.aload_n 0, 1) := by decide +kernel
theorem dX10_readLand_172 : decode cX10_readLand 172 = .ok (.dup, 1) := by decide +kernel
theorem dX10_readLand_173 : decode cX10_readLand 173 = .ok (.getfield 241, 3) := by decide +kernel
theorem dX10_readLand_176 : decode cX10_readLand 176 = .ok (.iconst 1, 1) := by decide +kernel
theorem dX10_readLand_177 : decode cX10_readLand 177 = .ok (.iadd, 1) := by decide +kernel
theorem dX10_readLand_178 : decode cX10_readLand 178 = .ok (.putfield 241, 3) := by decide +kernel
theorem dX10_readLand_181 : decode cX10_readLand 181 = .ok (.goto 7, 3) := by decide +kernel
theorem dX10_readLand_184 : decode cX10_readLand 184 = .ok (.aload_n 0, 1) := by decide +kernel
theorem dX10_readLand_185 : decode cX10_readLand 185 = .ok (.invokevirtual 128, 3) := by decide +kernel
theorem dX10_readLand_188 : decode cX10_readLand 188 = .ok (.aload_n 0, 1) := by decide +kernel
theorem dX10_readLand_189 : decode cX10_readLand 189 = .ok (.getfield 119, 3) := by decide +kernel
theorem dX10_readLand_192 : decode cX10_readLand 192 = .ok (.iconst (-1), 1) := by decide +kernel
theorem dX10_readLand_193 : decode cX10_readLand 193 = .ok (.if_icmp .ne 16, 3) := by decide +kernel
theorem dX10_readLand_196 : decode cX10_readLand 196 = .ok (.aload_n 0, 1) := by decide +kernel
theorem dX10_readLand_197 : decode cX10_readLand 197 = .ok (.invokevirtual 131, 3) := by decide +kernel
theorem dX10_readLand_200 : decode cX10_readLand 200 = .ok (.bipush 59, 2) := by decide +kernel
theorem dX10_readLand_202 : decode cX10_readLand 202 = .ok (.if_icmp .ne 7, 3) := by decide +kernel
theorem dX10_readLand_205 : decode cX10_readLand 205 = .ok (.iconst 1, 1) := by decide +kernel
theorem dX10_readLand_206 : decode cX10_readLand 206 = .ok (.goto 4, 3) := by decide +kernel
theorem dX10_readLand_209 : decode cX10_readLand 209 = .ok (.iconst 0, 1) := by decide +kernel
theorem dX10_readLand_210 : decode cX10_readLand 210 = .ok (.istore_n 2, 1) := by decide +kernel
theorem dX10_readLand_211 : decode cX10_readLand 211 = .ok (.aload_n 0, 1) := by decide +kernel
theorem dX10_readLand_212 : decode cX10_readLand 212 = .ok (.dup, 1) := by decide +kernel
theorem dX10_readLand_213 : decode cX10_readLand 213 = .ok (.getfield 112, 3) := by decide +kernel
theorem dX10_readLand_216 : decode cX10_readLand 216 = .ok (.iload_n 2, 1) := by decide +kernel
theorem dX10_readLand_217 : decode cX10_readLand 217 = .ok (.ifCond .eq 7, 3) := by decide +kernel
theorem dX10_readLand_220 : decode cX10_readLand 220 = .ok (.iconst 1, 1) := by decide +kernel
theorem dX10_readLand_221 : decode cX10_readLand 221 = .ok (.goto 4, 3) := by decide +kernel
theorem dX10_readLand_224 : decode cX10_readLand 224 = .ok (.iconst 0, 1) := by decide +kernel
theorem dX10_readLand_225 : decode cX10_readLand 225 = .ok (.iadd, 1) := by decide +kernel
theorem dX10_readLand_226 : decode cX10_readLand 226 = .ok (.putfield 112, 3) := by decide +kernel
theorem dX10_readLand_229 : decode cX10_readLand 229 = .ok (.goto (-180), 3) := by decide +kernel
theorem dX10_readLand_232 : decode cX10_readLand 232 = .ok (.aload_n 0, 1) := by decide +kernel
theorem dX10_readLand_233 : decode cX10_readLand 233 = .ok (.getfield 119, 3) := by decide +kernel
theorem dX10_readLand_236 : decode cX10_readLand 236 = .ok (.iconst (-1), 1) := by decide +kernel
theorem dX10_readLand_237 : decode cX10_readLand 237 = .ok (.if_icmp .ne 22, 3) := by decide +kernel
theorem dX10_readLand_240 : decode cX10_readLand 240 = .ok (.aload_n 0, 1) := by decide +kernel
theorem dX10_readLand_241 : decode cX10_readLand 241 = .ok (.invokevirtual 131, 3) := by decide +kernel
theorem dX10_readLand_244 : decode cX10_readLand 244 = .ok (.iconst (-1), 1) := by decide +kernel
theorem dX10_readLand_245 : decode cX10_readLand 245 = .ok (.if_icmp .ne 10, 3) := by decide +kernel
theorem dX10_readLand_248 : decode cX10_readLand 248 = .ok (.aload_n 0, 1) := by decide +kernel
theorem dX10_readLand_249 : decode cX10_readLand 249 = .ok (.invokevirtual 251, 3) := by decide +kernel
theorem dX10_readLand_252 : decode cX10_readLand 252 = .ok (.ifCond .ne 7, 3) := by decide +kernel
theorem dX10_readLand_255 : decode cX10_readLand 255 = .ok (.aload_n 0, 1) := by decide +kernel
theorem dX10_readLand_256 : decode cX10_readLand 256 = .ok (.invokevirtual 128, 3) := by decide +kernel
theorem dX10_readLand_259 : decode cX10_readLand 259 = .ok (.aload_n 0, 1) := by decide +kernel
theorem dX10_readLand_260 : decode cX10_readLand 260 = .ok (.getfield 119, 3) := by decide +kernel
theorem dX10_readLand_263 : decode cX10_readLand 263 = .ok (.ireturn, 1) := by decide +kernel
theorem dX10_fault_0 : decode cX10_fault 0 = .ok (.iload_n 1, 1) := by decide +kernel
theorem dX10_fault_1 : decode cX10_fault 1 = .ok (.ifCond .ne 10, 3) := by decide +kernel
theorem dX10_fault_4 : decode cX10_fault 4 = .ok (.aload_n 0, 1) := by decide +kernel
theorem dX10_fault_5 : decode cX10_fault 5 = .ok (.invokevirtual 255, 3) := by decide +kernel
theorem dX10_fault_8 : decode cX10_fault 8 = .ok (.goto 18, 3) := by decide +kernel
theorem dX10_fault_11 : decode cX10_fault 11 = .ok (.iload_n 1, 1) := by decide +kernel
theorem dX10_fault_12 : decode cX10_fault 12 = .ok (.iconst 1, 1) := by decide +kernel
theorem dX10_fault_13 : decode cX10_fault 13 = .ok (.if_icmp .ne 11, 3) := by decide +kernel
theorem dX10_fault_16 : decode cX10_fault 16 = .ok (.aload_n 0, 1) := by decide +kernel
theorem dX10_fault_17 : decode cX10_fault 17 = .ok (.iconst 4, 1) := by decide +kernel
theorem dX10_fault_18 : decode cX10_fault 18 = .ok (.invokevirtual 258, 3) := by decide +kernel
theorem dX10_fault_21 : decode cX10_fault 21 = .ok (.goto 5, 3) := by decide +kernel
theorem dX10_fault_24 : decode cX10_fault 24 = .ok (.bipush (-2), 2) := by decide +kernel
theorem dX10_fault_26 : decode cX10_fault 26 = .ok (.ireturn, 1) := by decide +kernel
theorem dX10_takeLand_0 : decode cX10_takeLand 0 = .ok (.aload_n 0, 1) := by decide +kernel
theorem dX10_takeLand_1 : decode cX10_takeLand 1 = .ok (.aload_n 0, 1) := by decide +kernel
theorem dX10_takeLand_2 : decode cX10_takeLand 2 = .ok (.getfield 241, 3) := by decide +kernel
theorem dX10_takeLand_5 : decode cX10_takeLand 5 = .ok (.putfield 261, 3) := by decide +kernel
theorem dX10_takeLand_8 : decode cX10_takeLand 8 = .ok (.iconst 0, 1) := by decide +kernel
theorem dX10_takeLand_9 : decode cX10_takeLand 9 = .ok (.istore_n 1, 1) := by decide +kernel
theorem dX10_takeLand_10 : decode cX10_takeLand 10 = .ok (.iload_n 1, 1) := by decide +kernel
theorem dX10_takeLand_11 : decode cX10_takeLand 11 = .ok (.iconst 4, 1) := by decide +kernel
theorem dX10_takeLand_12 : decode cX10_takeLand 12 = .ok (.if_icmp .ge 21, 3) := by decide +kernel
theorem dX10_takeLand_15 : decode cX10_takeLand 15 = .ok (.aload_n 0, 1) := by decide +kernel
theorem dX10_takeLand_16 : decode cX10_takeLand 16 = .ok (.getfield 52, 3) := by decide +kernel
theorem dX10_takeLand_19 : decode cX10_takeLand 19 = .ok (.iload_n 1, 1) := by decide +kernel
theorem dX10_takeLand_20 : decode cX10_takeLand 20 = .ok (.aload_n 0, 1) := by decide +kernel
theorem dX10_takeLand_21 : decode cX10_takeLand 21 = .ok (.getfield 40, 3) := by decide +kernel
theorem dX10_takeLand_24 : decode cX10_takeLand 24 = .ok (.iload_n 1, 1) := by decide +kernel
theorem dX10_takeLand_25 : decode cX10_takeLand 25 = .ok (.iaload, 1) := by decide +kernel
theorem dX10_takeLand_26 : decode cX10_takeLand 26 = .ok (.iastore, 1) := by decide +kernel
theorem dX10_takeLand_27 : decode cX10_takeLand 27 = .ok (.iinc 1 1, 3) := by decide +kernel
theorem dX10_takeLand_30 : decode cX10_takeLand 30 = .ok (.goto (-20), 3) := by decide +kernel
theorem dX10_takeLand_33 : decode cX10_takeLand 33 = .ok (.aload_n 0, 1) := by decide +kernel
theorem dX10_takeLand_34 : decode cX10_takeLand 34 = .ok (.aload_n 0, 1) := by decide +kernel
theorem dX10_takeLand_35 : decode cX10_takeLand 35 = .ok (.getfield 52, 3) := by decide +kernel
theorem dX10_takeLand_38 : decode cX10_takeLand 38 = .ok (.iconst 0, 1) := by decide +kernel
theorem dX10_takeLand_39 : decode cX10_takeLand 39 = .ok (.iaload, 1) := by decide +kernel
theorem dX10_takeLand_40 : decode cX10_takeLand 40 = .ok (.aload_n 0, 1) := by decide +kernel
theorem dX10_takeLand_41 : decode cX10_takeLand 41 = .ok (.getfield 52, 3) := by decide +kernel
theorem dX10_takeLand_44 : decode cX10_takeLand 44 = .ok (.iconst 1, 1) := by decide +kernel
theorem dX10_takeLand_45 : decode cX10_takeLand 45 = .ok (.iaload, 1) := by decide +kernel
theorem dX10_takeLand_46 : decode cX10_takeLand 46 = .ok (.imul, 1) := by decide +kernel
theorem dX10_takeLand_47 : decode cX10_takeLand 47 = .ok (.putfield 264, 3) := by decide +kernel
theorem dX10_takeLand_50 : decode cX10_takeLand 50 = .ok (.iconst 0, 1) := by decide +kernel
theorem dX10_takeLand_51 : decode cX10_takeLand 51 = .ok (.istore_n 1, 1) := by decide +kernel
theorem dX10_takeLand_52 : decode cX10_takeLand 52 = .ok (.iload_n 1, 1) := by decide +kernel
theorem dX10_takeLand_53 : decode cX10_takeLand 53 = .ok (.bipush 16, 2) := by decide +kernel
theorem dX10_takeLand_55 : decode cX10_takeLand 55 = .ok (.if_icmp .ge 21, 3) := by decide +kernel
theorem dX10_takeLand_58 : decode cX10_takeLand 58 = .ok (.aload_n 0, 1) := by decide +kernel
