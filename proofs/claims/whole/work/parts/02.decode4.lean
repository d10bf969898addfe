theorem dX10_falseOnes_9 : decode cX10_falseOnes 9 = .ok (.if_icmp .ge 43, 3) := by decide +kernel
theorem dX10_falseOnes_12 : decode cX10_falseOnes 12 = .ok (.iload_n 1, 1) := by decide +kernel
theorem dX10_falseOnes_13 : decode cX10_falseOnes 13 = .ok (.aload_n 0, 1) := by decide +kernel
theorem dX10_falseOnes_14 : decode cX10_falseOnes 14 = .ok (.getfield 96, 3) := by decide +kernel
theorem dX10_falseOnes_17 : decode cX10_falseOnes 17 = .ok (.iload_n 2, 1) := by decide +kernel
theorem dX10_falseOnes_18 : decode cX10_falseOnes 18 = .ok (.iaload, 1) := by decide +kernel
theorem dX10_falseOnes_19 : decode cX10_falseOnes 19 = .ok (.aload_n 0, 1) := by decide +kernel
theorem dX10_falseOnes_20 : decode cX10_falseOnes 20 = .ok (.aload_n 0, 1) := by decide +kernel
theorem dX10_falseOnes_21 : decode cX10_falseOnes 21 = .ok (.getfield 93, 3) := by decide +kernel
theorem dX10_falseOnes_24 : decode cX10_falseOnes 24 = .ok (.iload_n 2, 1) := by decide +kernel
theorem dX10_falseOnes_25 : decode cX10_falseOnes 25 = .ok (.iaload, 1) := by decide +kernel
theorem dX10_falseOnes_26 : decode cX10_falseOnes 26 = .ok (.invokevirtual 380, 3) := by decide +kernel
theorem dX10_falseOnes_29 : decode cX10_falseOnes 29 = .ok (.if_icmp .ne 7, 3) := by decide +kernel
theorem dX10_falseOnes_32 : decode cX10_falseOnes 32 = .ok (.iconst 0, 1) := by decide +kernel
theorem dX10_falseOnes_33 : decode cX10_falseOnes 33 = .ok (.goto 11, 3) := by decide +kernel
theorem dX10_falseOnes_36 : decode cX10_falseOnes 36 = .ok (.iconst 1, 1) := by decide +kernel
theorem dX10_falseOnes_37 : decode cX10_falseOnes 37 = .ok (.aload_n 0, 1) := by decide +kernel
theorem dX10_falseOnes_38 : decode cX10_falseOnes 38 = .ok (.getfield 93, 3) := by decide +kernel
theorem dX10_falseOnes_41 : decode cX10_falseOnes 41 = .ok (.iload_n 2, 1) := by decide +kernel
theorem dX10_falseOnes_42 : decode cX10_falseOnes 42 = .ok (.iaload, 1) := by decide +kernel
theorem dX10_falseOnes_43 : decode cX10_falseOnes 43 = .ok (.ishl, 1) := by decide +kernel
theorem dX10_falseOnes_44 : decode cX10_falseOnes 44 = .ok (.ior, 1) := by decide +kernel
theorem dX10_falseOnes_45 : decode cX10_falseOnes 45 = .ok (.istore_n 1, 1) := by decide +kernel
theorem dX10_falseOnes_46 : decode cX10_falseOnes 46 = .ok (.iinc 2 1, 3) := by decide +kernel
theorem dX10_falseOnes_49 : decode cX10_falseOnes 49 = .ok (.goto (-45), 3) := by decide +kernel
theorem dX10_falseOnes_52 : decode cX10_falseOnes 52 = .ok (.iload_n 1, 1) := by decide +kernel
theorem dX10_falseOnes_53 : decode cX10_falseOnes 53 = .ok (.ireturn, 1) := by decide +kernel
theorem dX10_gameOf_0 : decode cX10_gameOf 0 = .ok (.aload_n 0, 1) := by decide +kernel
theorem dX10_gameOf_1 : decode cX10_gameOf 1 = .ok (.getfield 61, 3) := by decide +kernel
theorem dX10_gameOf_4 : decode cX10_gameOf 4 = .ok (.bipush 34, 2) := by decide +kernel
theorem dX10_gameOf_6 : decode cX10_gameOf 6 = .ok (.iload_n 1, 1) := by decide +kernel
theorem dX10_gameOf_7 : decode cX10_gameOf 7 = .ok (.iadd, 1) := by decide +kernel
theorem dX10_gameOf_8 : decode cX10_gameOf 8 = .ok (.iaload, 1) := by decide +kernel
theorem dX10_gameOf_9 : decode cX10_gameOf 9 = .ok (.istore 5, 2) := by decide +kernel
theorem dX10_gameOf_11 : decode cX10_gameOf 11 = .ok (.aload_n 0, 1) := by decide +kernel
theorem dX10_gameOf_12 : decode cX10_gameOf 12 = .ok (.getfield 61, 3) := by decide +kernel
theorem dX10_gameOf_15 : decode cX10_gameOf 15 = .ok (.bipush 34, 2) := by decide +kernel
theorem dX10_gameOf_17 : decode cX10_gameOf 17 = .ok (.iload_n 2, 1) := by decide +kernel
theorem dX10_gameOf_18 : decode cX10_gameOf 18 = .ok (.iadd, 1) := by decide +kernel
theorem dX10_gameOf_19 : decode cX10_gameOf 19 = .ok (.iaload, 1) := by decide +kernel
theorem dX10_gameOf_20 : decode cX10_gameOf 20 = .ok (.istore 6, 2) := by decide +kernel
theorem dX10_gameOf_22 : decode cX10_gameOf 22 = .ok (.aload_n 0, 1) := by decide +kernel
theorem dX10_gameOf_23 : decode cX10_gameOf 23 = .ok (.getfield 61, 3) := by decide +kernel
theorem dX10_gameOf_26 : decode cX10_gameOf 26 = .ok (.bipush 34, 2) := by decide +kernel
theorem dX10_gameOf_28 : decode cX10_gameOf 28 = .ok (.iload_n 1, 1) := by decide +kernel
theorem dX10_gameOf_29 : decode cX10_gameOf 29 = .ok (.iadd, 1) := by decide +kernel
theorem dX10_gameOf_30 : decode cX10_gameOf 30 = .ok (.bipush 9, 2) := by decide +kernel
theorem dX10_gameOf_32 : decode cX10_gameOf 32 = .ok (.iload 5, 2) := by decide +kernel
theorem dX10_gameOf_34 : decode cX10_gameOf 34 = .ok (.iload_n 3, 1) := by decide +kernel
theorem dX10_gameOf_35 : decode cX10_gameOf 35 = .ok (.iadd, 1) := by decide +kernel
theorem dX10_gameOf_36 : decode cX10_gameOf 36 = .ok (.invokestatic 309, 3) := by decide +kernel
theorem dX10_gameOf_39 : decode cX10_gameOf 39 = .ok (.iastore, 1) := by decide +kernel
theorem dX10_gameOf_40 : decode cX10_gameOf 40 = .ok (.aload_n 0, 1) := by decide +kernel
theorem dX10_gameOf_41 : decode cX10_gameOf 41 = .ok (.getfield 61, 3) := by decide +kernel
theorem dX10_gameOf_44 : decode cX10_gameOf 44 = .ok (.bipush 34, 2) := by decide +kernel
theorem dX10_gameOf_46 : decode cX10_gameOf 46 = .ok (.iload_n 2, 1) := by decide +kernel
theorem dX10_gameOf_47 : decode cX10_gameOf 47 = .ok (.iadd, 1) := by decide +kernel
theorem dX10_gameOf_48 : decode cX10_gameOf 48 = .ok (.bipush 9, 2) := by decide +kernel
theorem dX10_gameOf_50 : decode cX10_gameOf 50 = .ok (.iload 6, 2) := by decide +kernel
theorem dX10_gameOf_52 : decode cX10_gameOf 52 = .ok (.iload 4, 2) := by decide +kernel
theorem dX10_gameOf_54 : decode cX10_gameOf 54 = .ok (.iadd, 1) := by decide +kernel
theorem dX10_gameOf_55 : decode cX10_gameOf 55 = .ok (.invokestatic 309, 3) := by decide +kernel
theorem dX10_gameOf_58 : decode cX10_gameOf 58 = .ok (.iastore, 1) := by decide +kernel
theorem dX10_gameOf_59 : decode cX10_gameOf 59 = .ok (.aload_n 0, 1) := by decide +kernel
theorem dX10_gameOf_60 : decode cX10_gameOf 60 = .ok (.iload_n 1, 1) := by decide +kernel
theorem dX10_gameOf_61 : decode cX10_gameOf 61 = .ok (.invokevirtual 328, 3) := by decide +kernel
theorem dX10_gameOf_64 : decode cX10_gameOf 64 = .ok (.aload_n 0, 1) := by decide +kernel
theorem dX10_gameOf_65 : decode cX10_gameOf 65 = .ok (.iload_n 2, 1) := by decide +kernel
theorem dX10_gameOf_66 : decode cX10_gameOf 66 = .ok (.invokevirtual 328, 3) := by decide +kernel
theorem dX10_gameOf_69 : decode cX10_gameOf 69 = .ok (.iconst (-1), 1) := by decide +kernel
theorem dX10_gameOf_70 : decode cX10_gameOf 70 = .ok (.ixor, 1) := by decide +kernel
theorem dX10_gameOf_71 : decode cX10_gameOf 71 = .ok (.iand, 1) := by decide +kernel
theorem dX10_gameOf_72 : decode cX10_gameOf 72 = .ok (.invokestatic 343, 3) := by decide +kernel
theorem dX10_gameOf_75 : decode cX10_gameOf 75 = .ok (.istore 7, 2) := by decide +kernel
theorem dX10_gameOf_77 : decode cX10_gameOf 77 = .ok (.aload_n 0, 1) := by decide +kernel
theorem dX10_gameOf_78 : decode cX10_gameOf 78 = .ok (.getfield 61, 3) := by decide +kernel
theorem dX10_gameOf_81 : decode cX10_gameOf 81 = .ok (.bipush 34, 2) := by decide +kernel
theorem dX10_gameOf_83 : decode cX10_gameOf 83 = .ok (.iload_n 1, 1) := by decide +kernel
theorem dX10_gameOf_84 : decode cX10_gameOf 84 = .ok (.iadd, 1) := by decide +kernel
theorem dX10_gameOf_85 : decode cX10_gameOf 85 = .ok (.iload 5, 2) := by decide +kernel
theorem dX10_gameOf_87 : decode cX10_gameOf 87 = .ok (.iastore, 1) := by decide +kernel
theorem dX10_gameOf_88 : decode cX10_gameOf 88 = .ok (.aload_n 0, 1) := by decide +kernel
theorem dX10_gameOf_89 : decode cX10_gameOf 89 = .ok (.getfield 61, 3) := by decide +kernel
theorem dX10_gameOf_92 : decode cX10_gameOf 92 = .ok (.bipush 34, 2) := by decide +kernel
theorem dX10_gameOf_94 : decode cX10_gameOf 94 = .ok (.iload_n 2, 1) := by decide +kernel
theorem dX10_gameOf_95 : decode cX10_gameOf 95 = .ok (.iadd, 1) := by decide +kernel
theorem dX10_gameOf_96 : decode cX10_gameOf 96 = .ok (.iload 6, 2) := by decide +kernel
theorem dX10_gameOf_98 : decode cX10_gameOf 98 = .ok (.iastore, 1) := by decide +kernel
theorem dX10_gameOf_99 : decode cX10_gameOf 99 = .ok (.iload 7, 2) := by decide +kernel
theorem dX10_gameOf_101 : decode cX10_gameOf 101 = .ok (.iload_n 3, 1) := by decide +kernel
theorem dX10_gameOf_102 : decode cX10_gameOf 102 = .ok (.isub, 1) := by decide +kernel
theorem dX10_gameOf_103 : decode cX10_gameOf 103 = .ok (.ireturn, 1) := by decide +kernel
theorem dX10_areTwo_0 : decode cX10_areTwo 0 = .ok (.aload_n 0, 1) := by decide +kernel
theorem dX10_areTwo_1 : decode cX10_areTwo 1 = .ok (.iload_n 1, 1) := by decide +kernel
theorem dX10_areTwo_2 : decode cX10_areTwo 2 = .ok (.invokevirtual 340, 3) := by decide +kernel
theorem dX10_areTwo_5 : decode cX10_areTwo 5 = .ok (.ifCond .eq 20, 3) := by decide +kernel
theorem dX10_areTwo_8 : decode cX10_areTwo 8 = .ok (.aload_n 0, 1) := by decide +kernel
theorem dX10_areTwo_9 : decode cX10_areTwo 9 = .ok (.iload_n 2, 1) := by decide +kernel
theorem dX10_areTwo_10 : decode cX10_areTwo 10 = .ok (.invokevirtual 340, 3) := by decide +kernel
theorem dX10_areTwo_13 : decode cX10_areTwo 13 = .ok (.ifCond .eq 12, 3) := by decide +kernel
theorem dX10_areTwo_16 : decode cX10_areTwo 16 = .ok (.iload_n 1, 1) := by decide +kernel
theorem dX10_areTwo_17 : decode cX10_areTwo 17 = .ok (.iload_n 2, 1) := by decide +kernel
theorem dX10_areTwo_18 : decode cX10_areTwo 18 = .ok (.if_icmp .eq 7, 3) := by decide +kernel
theorem dX10_areTwo_21 : decode cX10_areTwo 21 = .ok (.iconst 1, 1) := by decide +kernel
theorem dX10_areTwo_22 : decode cX10_areTwo 22 = .ok (.goto 4, 3) := by decide +kernel
theorem dX10_areTwo_25 : decode cX10_areTwo 25 = .ok (.iconst 0, 1) := by decide +kernel
theorem dX10_areTwo_26 : decode cX10_areTwo 26 = .ok (.ireturn, 1) := by decide +kernel
theorem dX10_game_0 : decode cX10_game 0 = .ok (.aload_n 0, 1) := by decide +kernel
theorem dX10_game_1 : decode cX10_game 1 = .ok (.iload_n 1, 1) := by decide +kernel
theorem dX10_game_2 : decode cX10_game 2 = .ok (.iload_n 2, 1) := by decide +kernel
theorem dX10_game_3 : decode cX10_game 3 = .ok (.invokevirtual 401, 3) := by decide +kernel
theorem dX10_game_6 : decode cX10_game 6 = .ok (.ifCond .eq 32, 3) := by decide +kernel
theorem dX10_game_9 : decode cX10_game 9 = .ok (.iload_n 3, 1) := by decide +kernel
theorem dX10_game_10 : decode cX10_game 10 = .ok (.iconst 0, 1) := by decide +kernel
theorem dX10_game_11 : decode cX10_game 11 = .ok (.iconst 3, 1) := by decide +kernel
theorem dX10_game_12 : decode cX10_game 12 = .ok (.invokestatic 217, 3) := by decide +kernel
theorem dX10_game_15 : decode cX10_game 15 = .ok (.ifCond .eq 23, 3) := by decide +kernel
theorem dX10_game_18 : decode cX10_game 18 = .ok (.iload 4, 2) := by decide +kernel
theorem dX10_game_20 : decode cX10_game 20 = .ok (.iconst 0, 1) := by decide +kernel
theorem dX10_game_21 : decode cX10_game 21 = .ok (.iconst 3, 1) := by decide +kernel
theorem dX10_game_22 : decode cX10_game 22 = .ok (.invokestatic 217, 3) := by decide +kernel
theorem dX10_game_25 : decode cX10_game 25 = .ok (.ifCond .eq 13, 3) := by decide +kernel
theorem dX10_game_28 : decode cX10_game 28 = .ok (.iload 5, 2) := by decide +kernel
theorem dX10_game_30 : decode cX10_game 30 = .ok (.iconst 0, 1) := by decide +kernel
theorem dX10_game_31 : decode cX10_game 31 = .ok (.iconst 1, 1) := by decide +kernel
theorem dX10_game_32 : decode cX10_game 32 = .ok (.invokestatic 217, 3) := by decide +kernel
theorem dX10_game_35 : decode cX10_game 35 = .ok (.ifCond .ne 7, 3) := by decide +kernel
theorem dX10_game_38 : decode cX10_game 38 = .ok (.ldc_w 404, 3) := by decide +kernel
theorem dX10_game_41 : decode cX10_game 41 = .ok (.ireturn, 1) := by decide +kernel
theorem dX10_game_42 : decode cX10_game 42 = .ok (.iload 5, 2) := by decide +kernel
theorem dX10_game_44 : decode cX10_game 44 = .ok (.ifCond .ne 15, 3) := by decide +kernel
theorem dX10_game_47 : decode cX10_game 47 = .ok (.aload_n 0, 1) := by decide +kernel
theorem dX10_game_48 : decode cX10_game 48 = .ok (.iload_n 1, 1) := by decide +kernel
theorem dX10_game_49 : decode cX10_game 49 = .ok (.iload_n 2, 1) := by decide +kernel
theorem dX10_game_50 : decode cX10_game 50 = .ok (.iload_n 3, 1) := by decide +kernel
theorem dX10_game_51 : decode cX10_game 51 = .ok (.iload 4, 2) := by decide +kernel
theorem dX10_game_53 : decode cX10_game 53 = .ok (.invokevirtual 405, 3) := by decide +kernel
theorem dX10_game_56 : decode cX10_game 56 = .ok (.goto 12, 3) := by decide +kernel
theorem dX10_game_59 : decode cX10_game 59 = .ok (.aload_n 0, 1) := by decide +kernel
theorem dX10_game_60 : decode cX10_game 60 = .ok (.iload_n 2, 1) := by decide +kernel
theorem dX10_game_61 : decode cX10_game 61 = .ok (.iload_n 1, 1) := by decide +kernel
theorem dX10_game_62 : decode cX10_game 62 = .ok (.iload 4, 2) := by decide +kernel
theorem dX10_game_64 : decode cX10_game 64 = .ok (.iload_n 3, 1) := by decide +kernel
theorem dX10_game_65 : decode cX10_game 65 = .ok (.invokevirtual 405, 3) := by decide +kernel
theorem dX10_game_68 : decode cX10_game 68 = .ok (.ireturn, 1) := by decide +kernel
theorem dX10_isRest_0 : decode cX10_isRest 0 = .ok (.iconst 0, 1) := by decide +kernel
theorem dX10_isRest_1 : decode cX10_isRest 1 = .ok (.istore 5, 2) := by decide +kernel
theorem dX10_isRest_3 : decode cX10_isRest 3 = .ok (.iload 5, 2) := by decide +kernel
theorem dX10_isRest_5 : decode cX10_isRest 5 = .ok (.iconst 4, 1) := by decide +kernel
theorem dX10_isRest_6 : decode cX10_isRest 6 = .ok (.if_icmp .ge 54, 3) := by decide +kernel
theorem dX10_isRest_9 : decode cX10_isRest 9 = .ok (.aload_n 0, 1) := by decide +kernel
theorem dX10_isRest_10 : decode cX10_isRest 10 = .ok (.iload_n 1, 1) := by decide +kernel
theorem dX10_isRest_11 : decode cX10_isRest 11 = .ok (.iload_n 2, 1) := by decide +kernel
theorem dX10_isRest_12 : decode cX10_isRest 12 = .ok (.iload 5, 2) := by decide +kernel
theorem dX10_isRest_14 : decode cX10_isRest 14 = .ok (.iload 4, 2) := by decide +kernel
theorem dX10_isRest_16 : decode cX10_isRest 16 = .ok (.invokevirtual 405, 3) := by decide +kernel
theorem dX10_isRest_19 : decode cX10_isRest 19 = .ok (.aload_n 0, 1) := by decide +kernel
theorem dX10_isRest_20 : decode cX10_isRest 20 = .ok (.iload_n 1, 1) := by decide +kernel
theorem dX10_isRest_21 : decode cX10_isRest 21 = .ok (.iload_n 2, 1) := by decide +kernel
theorem dX10_isRest_22 : decode cX10_isRest 22 = .ok (.iload_n 3, 1) := by decide +kernel
theorem dX10_isRest_23 : decode cX10_isRest 23 = .ok (.iload 4, 2) := by decide +kernel
theorem dX10_isRest_25 : decode cX10_isRest 25 = .ok (.invokevirtual 405, 3) := by decide +kernel
theorem dX10_isRest_28 : decode cX10_isRest 28 = .ok (.if_icmp .gt 24, 3) := by decide +kernel
theorem dX10_isRest_31 : decode cX10_isRest 31 = .ok (.aload_n 0, 1) := by decide +kernel
theorem dX10_isRest_32 : decode cX10_isRest 32 = .ok (.iload_n 2, 1) := by decide +kernel
theorem dX10_isRest_33 : decode cX10_isRest 33 = .ok (.iload_n 1, 1) := by decide +kernel
theorem dX10_isRest_34 : decode cX10_isRest 34 = .ok (.iload 5, 2) := by decide +kernel
theorem dX10_isRest_36 : decode cX10_isRest 36 = .ok (.iload_n 3, 1) := by decide +kernel
theorem dX10_isRest_37 : decode cX10_isRest 37 = .ok (.invokevirtual 405, 3) := by decide +kernel
theorem dX10_isRest_40 : decode cX10_isRest 40 = .ok (.aload_n 0, 1) := by decide +kernel
theorem dX10_isRest_41 : decode cX10_isRest 41 = .ok (.iload_n 2, 1) := by decide +kernel
theorem dX10_isRest_42 : decode cX10_isRest 42 = .ok (.iload_n 1, 1) := by decide +kernel
theorem dX10_isRest_43 : decode cX10_isRest 43 = .ok (.iload 4, 2) := by decide +kernel
theorem dX10_isRest_45 : decode cX10_isRest 45 = .ok (.iload_n 3, 1) := by decide +kernel
theorem dX10_isRest_46 : decode cX10_isRest 46 = .ok (.invokevirtual 405, 3) := by decide +kernel
theorem dX10_isRest_49 : decode cX10_isRest 49 = .ok (.if_icmp .le 5, 3) := by decide +kernel
theorem dX10_isRest_52 : decode cX10_isRest 52 = .ok (.iconst 0, 1) := by decide +kernel
theorem dX10_isRest_53 : decode cX10_isRest 53 = .ok (.ireturn, 1) := by decide +kernel
theorem dX10_isRest_54 : decode cX10_isRest 54 = .ok (.iinc 5 1, 3) := by decide +kernel
theorem dX10_isRest_57 : decode cX10_isRest 57 = .ok (.goto (-54), 3) := by decide +kernel
theorem dX10_isRest_60 : decode cX10_isRest 60 = .ok (.iconst 1, 1) := by decide +kernel
theorem dX10_isRest_61 : decode cX10_isRest 61 = .ok (.ireturn, 1) := by decide +kernel
theorem dX10_rests_0 : decode cX10_rests 0 = .ok (.aload_n 0, 1) := by decide +kernel
theorem dX10_rests_1 : decode cX10_rests 1 = .ok (.iload_n 1, 1) := by decide +kernel
theorem dX10_rests_2 : decode cX10_rests 2 = .ok (.iload_n 2, 1) := by decide +kernel
theorem dX10_rests_3 : decode cX10_rests 3 = .ok (.invokevirtual 401, 3) := by decide +kernel
theorem dX10_rests_6 : decode cX10_rests 6 = .ok (.ifCond .eq 8, 3) := by decide +kernel
theorem dX10_rests_9 : decode cX10_rests 9 = .ok (.iload_n 3, 1) := by decide +kernel
theorem dX10_rests_10 : decode cX10_rests 10 = .ok (.iconst (-1), 1) := by decide +kernel
theorem dX10_rests_11 : decode cX10_rests 11 = .ok (.if_icmp .ge 5, 3) := by decide +kernel
theorem dX10_rests_14 : decode cX10_rests 14 = .ok (.iconst (-1), 1) := by decide +kernel
theorem dX10_rests_15 : decode cX10_rests 15 = .ok (.ireturn, 1) := by decide +kernel
theorem dX10_rests_16 : decode cX10_rests 16 = .ok (.iconst 0, 1) := by decide +kernel
theorem dX10_rests_17 : decode cX10_rests 17 = .ok (.istore 4, 2) := by decide +kernel
theorem dX10_rests_19 : decode cX10_rests 19 = .ok (.iconst 0, 1) := by decide +kernel
theorem dX10_rests_20 : decode cX10_rests 20 = .ok (.istore 5, 2) := by decide +kernel
theorem dX10_rests_22 : decode cX10_rests 22 = .ok (.iload 5, 2) := by decide +kernel
theorem dX10_rests_24 : decode cX10_rests 24 = .ok (.bipush 16, 2) := by decide +kernel
theorem dX10_rests_26 : decode cX10_rests 26 = .ok (.if_icmp .ge 48, 3) := by decide +kernel
theorem dX10_rests_29 : decode cX10_rests 29 = .ok (.aload_n 0, 1) := by decide +kernel
theorem dX10_rests_30 : decode cX10_rests 30 = .ok (.iload_n 1, 1) := by decide +kernel
theorem dX10_rests_31 : decode cX10_rests 31 = .ok (.iload_n 2, 1) := by decide +kernel
theorem dX10_rests_32 : decode cX10_rests 32 = .ok (.iload 5, 2) := by decide +kernel
theorem dX10_rests_34 : decode cX10_rests 34 = .ok (.iconst 4, 1) := by decide +kernel
theorem dX10_rests_35 : decode cX10_rests 35 = .ok (.idiv, 1) := by decide +kernel
theorem dX10_rests_36 : decode cX10_rests 36 = .ok (.iload 5, 2) := by decide +kernel
theorem dX10_rests_38 : decode cX10_rests 38 = .ok (.iconst 4, 1) := by decide +kernel
theorem dX10_rests_39 : decode cX10_rests 39 = .ok (.irem, 1) := by decide +kernel
theorem dX10_rests_40 : decode cX10_rests 40 = .ok (.invokevirtual 409, 3) := by decide +kernel
theorem dX10_rests_43 : decode cX10_rests 43 = .ok (.ifCond .eq 25, 3) := by decide +kernel
theorem dX10_rests_46 : decode cX10_rests 46 = .ok (.iload 4, 2) := by decide +kernel
theorem dX10_rests_48 : decode cX10_rests 48 = .ok (.iload_n 3, 1) := by decide +kernel
theorem dX10_rests_49 : decode cX10_rests 49 = .ok (.if_icmp .ne 16, 3) := by decide +kernel
theorem dX10_rests_52 : decode cX10_rests 52 = .ok (.bipush 10, 2) := by decide +kernel
theorem dX10_rests_54 : decode cX10_rests 54 = .ok (.iload 5, 2) := by decide +kernel
theorem dX10_rests_56 : decode cX10_rests 56 = .ok (.iconst 4, 1) := by decide +kernel
theorem dX10_rests_57 : decode cX10_rests 57 = .ok (.idiv, 1) := by decide +kernel
theorem dX10_rests_58 : decode cX10_rests 58 = .ok (.imul, 1) := by decide +kernel
theorem dX10_rests_59 : decode cX10_rests 59 = .ok (.iload 5, 2) := by decide +kernel
theorem dX10_rests_61 : decode cX10_rests 61 = .ok (.iconst 4, 1) := by decide +kernel
theorem dX10_rests_62 : decode cX10_rests 62 = .ok (.irem, 1) := by decide +kernel
theorem dX10_rests_63 : decode cX10_rests 63 = .ok (.iadd, 1) := by decide +kernel
theorem dX10_rests_64 : decode cX10_rests 64 = .ok (.ireturn, 1) := by decide +kernel
theorem dX10_rests_65 : decode cX10_rests 65 = .ok (.iinc 4 1, 3) := by decide +kernel
theorem dX10_rests_68 : decode cX10_rests 68 = .ok (.iinc 5 1, 3) := by decide +kernel
theorem dX10_rests_71 : decode cX10_rests 71 = .ok (.goto (-49), 3) := by decide +kernel
theorem dX10_rests_74 : decode cX10_rests 74 = .ok (.iload_n 3, 1) := by decide +kernel
theorem dX10_rests_75 : decode cX10_rests 75 = .ok (.iconst (-1), 1) := by decide +kernel
theorem dX10_rests_76 : decode cX10_rests 76 = .ok (.if_icmp .ne 8, 3) := by decide +kernel
theorem dX10_rests_79 : decode cX10_rests 79 = .ok (.iload 4, 2) := by decide +kernel
theorem dX10_rests_81 : decode cX10_rests 81 = .ok (.goto 4, 3) := by decide +kernel
theorem dX10_rests_84 : decode cX10_rests 84 = .ok (.iconst (-1), 1) := by decide +kernel
theorem dX10_rests_85 : decode cX10_rests 85 = .ok (.ireturn, 1) := by decide +kernel
theorem dX10_isHidNow_0 : decode cX10_isHidNow 0 = .ok (.iconst 0, 1) := by decide +kernel
theorem dX10_isHidNow_1 : decode cX10_isHidNow 1 = .ok (.istore_n 2, 1) := by decide +kernel
theorem dX10_isHidNow_2 : decode cX10_isHidNow 2 = .ok (.iload_n 2, 1) := by decide +kernel
theorem dX10_isHidNow_3 : decode cX10_isHidNow 3 = .ok (.aload_n 0, 1) := by decide +kernel
theorem dX10_isHidNow_4 : decode cX10_isHidNow 4 = .ok (.getfield 261, 3) := by decide +kernel
theorem dX10_isHidNow_7 : decode cX10_isHidNow 7 = .ok (.if_icmp .ge 20, 3) := by decide +kernel
theorem dX10_isHidNow_10 : decode cX10_isHidNow 10 = .ok (.aload_n 0, 1) := by decide +kernel
theorem dX10_isHidNow_11 : decode cX10_isHidNow 11 = .ok (.iload_n 2, 1) := by decide +kernel
theorem dX10_isHidNow_12 : decode cX10_isHidNow 12 = .ok (.iload_n 1, 1) := by decide +kernel
theorem dX10_isHidNow_13 : decode cX10_isHidNow 13 = .ok (.invokevirtual 325, 3) := by decide +kernel
theorem dX10_isHidNow_16 : decode cX10_isHidNow 16 = .ok (.ifCond .eq 5, 3) := by decide +kernel
theorem dX10_isHidNow_19 : decode cX10_isHidNow 19 = .ok (.iconst 0, 1) := by decide +kernel
theorem dX10_isHidNow_20 : decode cX10_isHidNow 20 = .ok (.ireturn, 1) := by decide +kernel
theorem dX10_isHidNow_21 : decode cX10_isHidNow 21 = .ok (.iinc 2 1, 3) := by decide +kernel
theorem dX10_isHidNow_24 : decode cX10_isHidNow 24 = .ok (.goto (-22), 3) := by decide +kernel
theorem dX10_isHidNow_27 : decode cX10_isHidNow 27 = .ok (.iconst 1, 1) := by decide +kernel
theorem dX10_isHidNow_28 : decode cX10_isHidNow 28 = .ok (.ireturn, 1) := by decide +kernel
theorem dX10_oddsFrom_0 : decode cX10_oddsFrom 0 = .ok (.iload_n 2, 1) := by decide +kernel
theorem dX10_oddsFrom_1 : decode cX10_oddsFrom 1 = .ok (.ifCond .ne 18, 3) := by decide +kernel
theorem dX10_oddsFrom_4 : decode cX10_oddsFrom 4 = .ok (.aload_n 0, 1) := by decide +kernel
theorem dX10_oddsFrom_5 : decode cX10_oddsFrom 5 = .ok (.iload_n 1, 1) := by decide +kernel
theorem dX10_oddsFrom_6 : decode cX10_oddsFrom 6 = .ok (.invokevirtual 413, 3) := by decide +kernel
theorem dX10_oddsFrom_9 : decode cX10_oddsFrom 9 = .ok (.ifCond .eq 8, 3) := by decide +kernel
theorem dX10_oddsFrom_12 : decode cX10_oddsFrom 12 = .ok (.iload 4, 2) := by decide +kernel
theorem dX10_oddsFrom_14 : decode cX10_oddsFrom 14 = .ok (.goto 4, 3) := by decide +kernel
theorem dX10_oddsFrom_17 : decode cX10_oddsFrom 17 = .ok (.iconst 0, 1) := by decide +kernel
theorem dX10_oddsFrom_18 : decode cX10_oddsFrom 18 = .ok (.ireturn, 1) := by decide +kernel
theorem dX10_oddsFrom_19 : decode cX10_oddsFrom 19 = .ok (.aload_n 0, 1) := by decide +kernel
theorem dX10_oddsFrom_20 : decode cX10_oddsFrom 20 = .ok (.getfield 61, 3) := by decide +kernel
theorem dX10_oddsFrom_23 : decode cX10_oddsFrom 23 = .ok (.bipush 39, 2) := by decide +kernel
theorem dX10_oddsFrom_25 : decode cX10_oddsFrom 25 = .ok (.iaload, 1) := by decide +kernel
theorem dX10_oddsFrom_26 : decode cX10_oddsFrom 26 = .ok (.istore 5, 2) := by decide +kernel
theorem dX10_oddsFrom_28 : decode cX10_oddsFrom 28 = .ok (.iload 4, 2) := by decide +kernel
theorem dX10_oddsFrom_30 : decode cX10_oddsFrom 30 = .ok (.i2l, 1) := by decide +kernel
theorem dX10_oddsFrom_31 : decode cX10_oddsFrom 31 = .ok (.iload_n 3, 1) := by decide +kernel
theorem dX10_oddsFrom_32 : decode cX10_oddsFrom 32 = .ok (.i2l, 1) := by decide +kernel
theorem dX10_oddsFrom_33 : decode cX10_oddsFrom 33 = .ok (.lmul, 1) := by decide +kernel
theorem dX10_oddsFrom_34 : decode cX10_oddsFrom 34 = .ok (.ldc2_w 416, 3) := by decide +kernel
theorem dX10_oddsFrom_37 : decode cX10_oddsFrom 37 = .ok (.ldiv, 1) := by decide +kernel
theorem dX10_oddsFrom_38 : decode cX10_oddsFrom 38 = .ok (.l2i, 1) := by decide +kernel
theorem dX10_oddsFrom_39 : decode cX10_oddsFrom 39 = .ok (.istore 6, 2) := by decide +kernel
theorem dX10_oddsFrom_41 : decode cX10_oddsFrom 41 = .ok (.aload_n 0, 1) := by decide +kernel
theorem dX10_oddsFrom_42 : decode cX10_oddsFrom 42 = .ok (.getfield 61, 3) := by decide +kernel
theorem dX10_oddsFrom_45 : decode cX10_oddsFrom 45 = .ok (.bipush 41, 2) := by decide +kernel
theorem dX10_oddsFrom_47 : decode cX10_oddsFrom 47 = .ok (.dup2, 1) := by decide +kernel
theorem dX10_oddsFrom_48 : decode cX10_oddsFrom 48 = .ok (.iaload, 1) := by decide +kernel
theorem dX10_oddsFrom_49 : decode cX10_oddsFrom 49 = .ok (.iconst 1, 1) := by decide +kernel
theorem dX10_oddsFrom_50 : decode cX10_oddsFrom 50 = .ok (.iadd, 1) := by decide +kernel
theorem dX10_oddsFrom_51 : decode cX10_oddsFrom 51 = .ok (.iastore, 1) := by decide +kernel
theorem dX10_oddsFrom_52 : decode cX10_oddsFrom 52 = .ok (.aload_n 0, 1) := by decide +kernel
theorem dX10_oddsFrom_53 : decode cX10_oddsFrom 53 = .ok (.getfield 61, 3) := by decide +kernel
theorem dX10_oddsFrom_56 : decode cX10_oddsFrom 56 = .ok (.bipush 39, 2) := by decide +kernel
theorem dX10_oddsFrom_58 : decode cX10_oddsFrom 58 = .ok (.bipush 9, 2) := by decide +kernel
theorem dX10_oddsFrom_60 : decode cX10_oddsFrom 60 = .ok (.iload 5, 2) := by decide +kernel
theorem dX10_oddsFrom_62 : decode cX10_oddsFrom 62 = .ok (.iconst 1, 1) := by decide +kernel
theorem dX10_oddsFrom_63 : decode cX10_oddsFrom 63 = .ok (.iadd, 1) := by decide +kernel
theorem dX10_oddsFrom_64 : decode cX10_oddsFrom 64 = .ok (.invokestatic 309, 3) := by decide +kernel
theorem dX10_oddsFrom_67 : decode cX10_oddsFrom 67 = .ok (.iastore, 1) := by decide +kernel
theorem dX10_oddsFrom_68 : decode cX10_oddsFrom 68 = .ok (.aload_n 0, 1) := by decide +kernel
theorem dX10_oddsFrom_69 : decode cX10_oddsFrom 69 = .ok (.iload_n 1, 1) := by decide +kernel
theorem dX10_oddsFrom_70 : decode cX10_oddsFrom 70 = .ok (.iload_n 2, 1) := by decide +kernel
theorem dX10_oddsFrom_71 : decode cX10_oddsFrom 71 = .ok (.iconst 1, 1) := by decide +kernel
theorem dX10_oddsFrom_72 : decode cX10_oddsFrom 72 = .ok (.isub, 1) := by decide +kernel
theorem dX10_oddsFrom_73 : decode cX10_oddsFrom 73 = .ok (.iload_n 3, 1) := by decide +kernel
theorem dX10_oddsFrom_74 : decode cX10_oddsFrom 74 = .ok (.iload 6, 2) := by decide +kernel
theorem dX10_oddsFrom_76 : decode cX10_oddsFrom 76 = .ok (.invokevirtual 418, 3) := by decide +kernel
theorem dX10_oddsFrom_79 : decode cX10_oddsFrom 79 = .ok (.istore 7, 2) := by decide +kernel
theorem dX10_oddsFrom_81 : decode cX10_oddsFrom 81 = .ok (.aload_n 0, 1) := by decide +kernel
theorem dX10_oddsFrom_82 : decode cX10_oddsFrom 82 = .ok (.getfield 61, 3) := by decide +kernel
theorem dX10_oddsFrom_85 : decode cX10_oddsFrom 85 = .ok (.bipush 39, 2) := by decide +kernel
theorem dX10_oddsFrom_87 : decode cX10_oddsFrom 87 = .ok (.iconst 0, 1) := by decide +kernel
theorem dX10_oddsFrom_88 : decode cX10_oddsFrom 88 = .ok (.iload 5, 2) := by decide +kernel
theorem dX10_oddsFrom_90 : decode cX10_oddsFrom 90 = .ok (.iconst 1, 1) := by decide +kernel
theorem dX10_oddsFrom_91 : decode cX10_oddsFrom 91 = .ok (.isub, 1) := by decide +kernel
theorem dX10_oddsFrom_92 : decode cX10_oddsFrom 92 = .ok (.invokestatic 301, 3) := by decide +kernel
theorem dX10_oddsFrom_95 : decode cX10_oddsFrom 95 = .ok (.iastore, 1) := by decide +kernel
theorem dX10_oddsFrom_96 : decode cX10_oddsFrom 96 = .ok (.iload 7, 2) := by decide +kernel
theorem dX10_oddsFrom_98 : decode cX10_oddsFrom 98 = .ok (.aload_n 0, 1) := by decide +kernel
theorem dX10_oddsFrom_99 : decode cX10_oddsFrom 99 = .ok (.iload_n 1, 1) := by decide +kernel
theorem dX10_oddsFrom_100 : decode cX10_oddsFrom 100 = .ok (.iload_n 2, 1) := by decide +kernel
theorem dX10_oddsFrom_101 : decode cX10_oddsFrom 101 = .ok (.iconst 1, 1) := by decide +kernel
theorem dX10_oddsFrom_102 : decode cX10_oddsFrom 102 = .ok (.isub, 1) := by decide +kernel
theorem dX10_oddsFrom_103 : decode cX10_oddsFrom 103 = .ok (.iload_n 3, 1) := by decide +kernel
theorem dX10_oddsFrom_104 : decode cX10_oddsFrom 104 = .ok (.iload 4, 2) := by decide +kernel
theorem dX10_oddsFrom_106 : decode cX10_oddsFrom 106 = .ok (.iload 6, 2) := by decide +kernel
theorem dX10_oddsFrom_108 : decode cX10_oddsFrom 108 = .ok (.isub, 1) := by decide +kernel
theorem dX10_oddsFrom_109 : decode cX10_oddsFrom 109 = .ok (.invokevirtual 418, 3) := by decide +kernel
theorem dX10_oddsFrom_112 : decode cX10_oddsFrom 112 = .ok (.iadd, 1) := by decide +kernel
theorem dX10_oddsFrom_113 : decode cX10_oddsFrom 113 = .ok (.istore 7, 2) := by decide +kernel
theorem dX10_oddsFrom_115 : decode cX10_oddsFrom 115 = .ok (.aload_n 0, 1) := by decide +kernel
theorem dX10_oddsFrom_116 : decode cX10_oddsFrom 116 = .ok (.getfield 61, 3) := by decide +kernel
theorem dX10_oddsFrom_119 : decode cX10_oddsFrom 119 = .ok (.bipush 39, 2) := by decide +kernel
theorem dX10_oddsFrom_121 : decode cX10_oddsFrom 121 = .ok (.iload 5, 2) := by decide +kernel
theorem dX10_oddsFrom_123 : decode cX10_oddsFrom 123 = .ok (.iastore, 1) := by decide +kernel
theorem dX10_oddsFrom_124 : decode cX10_oddsFrom 124 = .ok (.aload_n 0, 1) := by decide +kernel
theorem dX10_oddsFrom_125 : decode cX10_oddsFrom 125 = .ok (.getfield 61, 3) := by decide +kernel
theorem dX10_oddsFrom_128 : decode cX10_oddsFrom 128 = .ok (.bipush 41, 2) := by decide +kernel
theorem dX10_oddsFrom_130 : decode cX10_oddsFrom 130 = .ok (.dup2, 1) := by decide +kernel
theorem dX10_oddsFrom_131 : decode cX10_oddsFrom 131 = .ok (.iaload, 1) := by decide +kernel
theorem dX10_oddsFrom_132 : decode cX10_oddsFrom 132 = .ok (.iconst 1, 1) := by decide +kernel
theorem dX10_oddsFrom_133 : decode cX10_oddsFrom 133 = .ok (.isub, 1) := by decide +kernel
theorem dX10_oddsFrom_134 : decode cX10_oddsFrom 134 = .ok (.iastore, 1) := by decide +kernel
theorem dX10_oddsFrom_135 : decode cX10_oddsFrom 135 = .ok (.iload 7, 2) := by decide +kernel
theorem dX10_oddsFrom_137 : decode cX10_oddsFrom 137 = .ok (.ireturn, 1) := by decide +kernel
theorem dX10_odds_0 : decode cX10_odds 0 = .ok (.aload_n 0, 1) := by decide +kernel
theorem dX10_odds_1 : decode cX10_odds 1 = .ok (.iload_n 1, 1) := by decide +kernel
theorem dX10_odds_2 : decode cX10_odds 2 = .ok (.invokevirtual 337, 3) := by decide +kernel
theorem dX10_odds_5 : decode cX10_odds 5 = .ok (.ifCond .eq 23, 3) := by decide +kernel
theorem dX10_odds_8 : decode cX10_odds 8 = .ok (.iload_n 2, 1) := by decide +kernel
theorem dX10_odds_9 : decode cX10_odds 9 = .ok (.iconst 0, 1) := by decide +kernel
theorem dX10_odds_10 : decode cX10_odds 10 = .ok (.bipush 8, 2) := by decide +kernel
theorem dX10_odds_12 : decode cX10_odds 12 = .ok (.invokestatic 217, 3) := by decide +kernel
theorem dX10_odds_15 : decode cX10_odds 15 = .ok (.ifCond .eq 13, 3) := by decide +kernel
theorem dX10_odds_18 : decode cX10_odds 18 = .ok (.iload_n 3, 1) := by decide +kernel
theorem dX10_odds_19 : decode cX10_odds 19 = .ok (.iconst 0, 1) := by decide +kernel
theorem dX10_odds_20 : decode cX10_odds 20 = .ok (.bipush 100, 2) := by decide +kernel
theorem dX10_odds_22 : decode cX10_odds 22 = .ok (.invokestatic 217, 3) := by decide +kernel
theorem dX10_odds_25 : decode cX10_odds 25 = .ok (.ifCond .ne 5, 3) := by decide +kernel
theorem dX10_odds_28 : decode cX10_odds 28 = .ok (.iconst (-1), 1) := by decide +kernel
theorem dX10_odds_29 : decode cX10_odds 29 = .ok (.ireturn, 1) := by decide +kernel
theorem dX10_odds_30 : decode cX10_odds 30 = .ok (.aload_n 0, 1) := by decide +kernel
theorem dX10_odds_31 : decode cX10_odds 31 = .ok (.iload_n 1, 1) := by decide +kernel
theorem dX10_odds_32 : decode cX10_odds 32 = .ok (.iload_n 2, 1) := by decide +kernel
theorem dX10_odds_33 : decode cX10_odds 33 = .ok (.iload_n 3, 1) := by decide +kernel
theorem dX10_odds_34 : decode cX10_odds 34 = .ok (.ldc_w 421, 3) := by decide +kernel
theorem dX10_odds_37 : decode cX10_odds 37 = .ok (.invokevirtual 418, 3) := by decide +kernel
theorem dX10_odds_40 : decode cX10_odds 40 = .ok (.ireturn, 1) := by decide +kernel
theorem dX10_shares_0 : decode cX10_shares 0 = .ok (.aload_n 0, 1) := by decide +kernel
theorem dX10_shares_1 : decode cX10_shares 1 = .ok (.iload_n 1, 1) := by decide +kernel
theorem dX10_shares_2 : decode cX10_shares 2 = .ok (.invokevirtual 340, 3) := by decide +kernel
theorem dX10_shares_5 : decode cX10_shares 5 = .ok (.ifCond .eq 14, 3) := by decide +kernel
theorem dX10_shares_8 : decode cX10_shares 8 = .ok (.iload_n 2, 1) := by decide +kernel
theorem dX10_shares_9 : decode cX10_shares 9 = .ok (.iconst 0, 1) := by decide +kernel
theorem dX10_shares_10 : decode cX10_shares 10 = .ok (.sipush 999, 3) := by decide +kernel
theorem dX10_shares_13 : decode cX10_shares 13 = .ok (.invokestatic 217, 3) := by decide +kernel
theorem dX10_shares_16 : decode cX10_shares 16 = .ok (.ifCond .ne 5, 3) := by decide +kernel
theorem dX10_shares_19 : decode cX10_shares 19 = .ok (.iconst (-1), 1) := by decide +kernel
theorem dX10_shares_20 : decode cX10_shares 20 = .ok (.ireturn, 1) := by decide +kernel
theorem dX10_shares_21 : decode cX10_shares 21 = .ok (.iconst 0, 1) := by decide +kernel
theorem dX10_shares_22 : decode cX10_shares 22 = .ok (.istore_n 3, 1) := by decide +kernel
theorem dX10_shares_23 : decode cX10_shares 23 = .ok (.iconst 0, 1) := by decide +kernel
theorem dX10_shares_24 : decode cX10_shares 24 = .ok (.istore 4, 2) := by decide +kernel
theorem dX10_shares_26 : decode cX10_shares 26 = .ok (.iload 4, 2) := by decide +kernel
theorem dX10_shares_28 : decode cX10_shares 28 = .ok (.aload_n 0, 1) := by decide +kernel
theorem dX10_shares_29 : decode cX10_shares 29 = .ok (.getfield 261, 3) := by decide +kernel
theorem dX10_shares_32 : decode cX10_shares 32 = .ok (.if_icmp .ge 21, 3) := by decide +kernel
theorem dX10_shares_35 : decode cX10_shares 35 = .ok (.iload_n 3, 1) := by decide +kernel
theorem dX10_shares_36 : decode cX10_shares 36 = .ok (.aload_n 0, 1) := by decide +kernel
theorem dX10_shares_37 : decode cX10_shares 37 = .ok (.iload 4, 2) := by decide +kernel
theorem dX10_shares_39 : decode cX10_shares 39 = .ok (.invokevirtual 328, 3) := by decide +kernel
theorem dX10_shares_42 : decode cX10_shares 42 = .ok (.invokestatic 343, 3) := by decide +kernel
theorem dX10_shares_45 : decode cX10_shares 45 = .ok (.iadd, 1) := by decide +kernel
theorem dX10_shares_46 : decode cX10_shares 46 = .ok (.istore_n 3, 1) := by decide +kernel
theorem dX10_shares_47 : decode cX10_shares 47 = .ok (.iinc 4 1, 3) := by decide +kernel
theorem dX10_shares_50 : decode cX10_shares 50 = .ok (.goto (-24), 3) := by decide +kernel
theorem dX10_shares_53 : decode cX10_shares 53 = .ok (.iload_n 3, 1) := by decide +kernel
theorem dX10_shares_54 : decode cX10_shares 54 = .ok (.ifCond .ne 7, 3) := by decide +kernel
theorem dX10_shares_57 : decode cX10_shares 57 = .ok (.iconst 0, 1) := by decide +kernel
theorem dX10_shares_58 : decode cX10_shares 58 = .ok (.goto 15, 3) := by decide +kernel
theorem dX10_shares_61 : decode cX10_shares 61 = .ok (.iload_n 2, 1) := by decide +kernel
theorem dX10_shares_62 : decode cX10_shares 62 = .ok (.aload_n 0, 1) := by decide +kernel
theorem dX10_shares_63 : decode cX10_shares 63 = .ok (.iload_n 1, 1) := by decide +kernel
theorem dX10_shares_64 : decode cX10_shares 64 = .ok (.invokevirtual 328, 3) := by decide +kernel
theorem dX10_shares_67 : decode cX10_shares 67 = .ok (.invokestatic 343, 3) := by decide +kernel
theorem dX10_shares_70 : decode cX10_shares 70 = .ok (.imul, 1) := by decide +kernel
theorem dX10_shares_71 : decode cX10_shares 71 = .ok (.iload_n 3, 1) := by decide +kernel
theorem dX10_shares_72 : decode cX10_shares 72 = .ok (.idiv, 1) := by decide +kernel
theorem dX10_shares_73 : decode cX10_shares 73 = .ok (.ireturn, 1) := by decide +kernel
theorem dX10_topCell_0 : decode cX10_topCell 0 = .ok (.iconst 0, 1) := by decide +kernel
theorem dX10_topCell_1 : decode cX10_topCell 1 = .ok (.istore_n 2, 1) := by decide +kernel
theorem dX10_topCell_2 : decode cX10_topCell 2 = .ok (.iconst 1, 1) := by decide +kernel
theorem dX10_topCell_3 : decode cX10_topCell 3 = .ok (.istore_n 3, 1) := by decide +kernel
theorem dX10_topCell_4 : decode cX10_topCell 4 = .ok (.iload_n 3, 1) := by decide +kernel
theorem dX10_topCell_5 : decode cX10_topCell 5 = .ok (.aload_n 0, 1) := by decide +kernel
theorem dX10_topCell_6 : decode cX10_topCell 6 = .ok (.getfield 264, 3) := by decide +kernel
theorem dX10_topCell_9 : decode cX10_topCell 9 = .ok (.if_icmp .ge 38, 3) := by decide +kernel
theorem dX10_topCell_12 : decode cX10_topCell 12 = .ok (.iload_n 1, 1) := by decide +kernel
theorem dX10_topCell_13 : decode cX10_topCell 13 = .ok (.aload_n 0, 1) := by decide +kernel
theorem dX10_topCell_14 : decode cX10_topCell 14 = .ok (.getfield 61, 3) := by decide +kernel
theorem dX10_topCell_17 : decode cX10_topCell 17 = .ok (.iconst 0, 1) := by decide +kernel
theorem dX10_topCell_18 : decode cX10_topCell 18 = .ok (.iload_n 3, 1) := by decide +kernel
theorem dX10_topCell_19 : decode cX10_topCell 19 = .ok (.iadd, 1) := by decide +kernel
theorem dX10_topCell_20 : decode cX10_topCell 20 = .ok (.iaload, 1) := by decide +kernel
theorem dX10_topCell_21 : decode cX10_topCell 21 = .ok (.imul, 1) := by decide +kernel
theorem dX10_topCell_22 : decode cX10_topCell 22 = .ok (.iload_n 1, 1) := by decide +kernel
theorem dX10_topCell_23 : decode cX10_topCell 23 = .ok (.aload_n 0, 1) := by decide +kernel
theorem dX10_topCell_24 : decode cX10_topCell 24 = .ok (.getfield 61, 3) := by decide +kernel
theorem dX10_topCell_27 : decode cX10_topCell 27 = .ok (.iconst 0, 1) := by decide +kernel
theorem dX10_topCell_28 : decode cX10_topCell 28 = .ok (.iload_n 2, 1) := by decide +kernel
theorem dX10_topCell_29 : decode cX10_topCell 29 = .ok (.iadd, 1) := by decide +kernel
theorem dX10_topCell_30 : decode cX10_topCell 30 = .ok (.iaload, 1) := by decide +kernel
theorem dX10_topCell_31 : decode cX10_topCell 31 = .ok (.imul, 1) := by decide +kernel
theorem dX10_topCell_32 : decode cX10_topCell 32 = .ok (.if_icmp .le 7, 3) := by decide +kernel
theorem dX10_topCell_35 : decode cX10_topCell 35 = .ok (.iload_n 3, 1) := by decide +kernel
theorem dX10_topCell_36 : decode cX10_topCell 36 = .ok (.goto 4, 3) := by decide +kernel
theorem dX10_topCell_39 : decode cX10_topCell 39 = .ok (.iload_n 2, 1) := by decide +kernel
theorem dX10_topCell_40 : decode cX10_topCell 40 = .ok (.istore_n 2, 1) := by decide +kernel
theorem dX10_topCell_41 : decode cX10_topCell 41 = .ok (.iinc 3 1, 3) := by decide +kernel
theorem dX10_topCell_44 : decode cX10_topCell 44 = .ok (.goto (-40), 3) := by decide +kernel
theorem dX10_topCell_47 : decode cX10_topCell 47 = .ok (.iload_n 2, 1) := by decide +kernel
theorem dX10_topCell_48 : decode cX10_topCell 48 = .ok (.ireturn, 1) := by decide +kernel
theorem dX10_topTower_0 : decode cX10_topTower 0 = .ok (.iconst 0, 1) := by decide +kernel
theorem dX10_topTower_1 : decode cX10_topTower 1 = .ok (.istore_n 2, 1) := by decide +kernel
theorem dX10_topTower_2 : decode cX10_topTower 2 = .ok (.iconst 1, 1) := by decide +kernel
theorem dX10_topTower_3 : decode cX10_topTower 3 = .ok (.istore_n 3, 1) := by decide +kernel
theorem dX10_topTower_4 : decode cX10_topTower 4 = .ok (.iload_n 3, 1) := by decide +kernel
theorem dX10_topTower_5 : decode cX10_topTower 5 = .ok (.aload_n 0, 1) := by decide +kernel
theorem dX10_topTower_6 : decode cX10_topTower 6 = .ok (.getfield 261, 3) := by decide +kernel
theorem dX10_topTower_9 : decode cX10_topTower 9 = .ok (.if_icmp .ge 38, 3) := by decide +kernel
theorem dX10_topTower_12 : decode cX10_topTower 12 = .ok (.iload_n 1, 1) := by decide +kernel
theorem dX10_topTower_13 : decode cX10_topTower 13 = .ok (.aload_n 0, 1) := by decide +kernel
theorem dX10_topTower_14 : decode cX10_topTower 14 = .ok (.iload_n 3, 1) := by decide +kernel
theorem dX10_topTower_15 : decode cX10_topTower 15 = .ok (.invokevirtual 328, 3) := by decide +kernel
theorem dX10_topTower_18 : decode cX10_topTower 18 = .ok (.invokestatic 343, 3) := by decide +kernel
theorem dX10_topTower_21 : decode cX10_topTower 21 = .ok (.imul, 1) := by decide +kernel
theorem dX10_topTower_22 : decode cX10_topTower 22 = .ok (.iload_n 1, 1) := by decide +kernel
theorem dX10_topTower_23 : decode cX10_topTower 23 = .ok (.aload_n 0, 1) := by decide +kernel
theorem dX10_topTower_24 : decode cX10_topTower 24 = .ok (.iload_n 2, 1) := by decide +kernel
theorem dX10_topTower_25 : decode cX10_topTower 25 = .ok (.invokevirtual 328, 3) := by decide +kernel
theorem dX10_topTower_28 : decode cX10_topTower 28 = .ok (.invokestatic 343, 3) := by decide +kernel
theorem dX10_topTower_31 : decode cX10_topTower 31 = .ok (.imul, 1) := by decide +kernel
theorem dX10_topTower_32 : decode cX10_topTower 32 = .ok (.if_icmp .le 7, 3) := by decide +kernel
theorem dX10_topTower_35 : decode cX10_topTower 35 = .ok (.iload_n 3, 1) := by decide +kernel
theorem dX10_topTower_36 : decode cX10_topTower 36 = .ok (.goto 4, 3) := by decide +kernel
theorem dX10_topTower_39 : decode cX10_topTower 39 = .ok (.iload_n 2, 1) := by decide +kernel
theorem dX10_topTower_40 : decode cX10_topTower 40 = .ok (.istore_n 2, 1) := by decide +kernel
theorem dX10_topTower_41 : decode cX10_topTower 41 = .ok (.iinc 3 1, 3) := by decide +kernel
theorem dX10_topTower_44 : decode cX10_topTower 44 = .ok (.goto (-40), 3) := by decide +kernel
theorem dX10_topTower_47 : decode cX10_topTower 47 = .ok (.iload_n 2, 1) := by decide +kernel
theorem dX10_topTower_48 : decode cX10_topTower 48 = .ok (.ireturn, 1) := by decide +kernel
theorem dX10_flat_0 : decode cX10_flat 0 = .ok (.iconst 0, 1) := by decide +kernel
theorem dX10_flat_1 : decode cX10_flat 1 = .ok (.istore_n 1, 1) := by decide +kernel
theorem dX10_flat_2 : decode cX10_flat 2 = .ok (.iconst 0, 1) := by decide +kernel
theorem dX10_flat_3 : decode cX10_flat 3 = .ok (.istore_n 2, 1) := by decide +kernel
theorem dX10_flat_4 : decode cX10_flat 4 = .ok (.iload_n 2, 1) := by decide +kernel
theorem dX10_flat_5 : decode cX10_flat 5 = .ok (.aload_n 0, 1) := by decide +kernel
theorem dX10_flat_6 : decode cX10_flat 6 = .ok (.getfield 264, 3) := by decide +kernel
theorem dX10_flat_9 : decode cX10_flat 9 = .ok (.if_icmp .ge 81, 3) := by decide +kernel
theorem dX10_flat_12 : decode cX10_flat 12 = .ok (.iconst 0, 1) := by decide +kernel
theorem dX10_flat_13 : decode cX10_flat 13 = .ok (.istore_n 3, 1) := by decide +kernel
theorem dX10_flat_14 : decode cX10_flat 14 = .ok (.iconst 0, 1) := by decide +kernel
theorem dX10_flat_15 : decode cX10_flat 15 = .ok (.istore 4, 2) := by decide +kernel
theorem dX10_flat_17 : decode cX10_flat 17 = .ok (.iload 4, 2) := by decide +kernel
theorem dX10_flat_19 : decode cX10_flat 19 = .ok (.aload_n 0, 1) := by decide +kernel
theorem dX10_flat_20 : decode cX10_flat 20 = .ok (.getfield 264, 3) := by decide +kernel
theorem dX10_flat_23 : decode cX10_flat 23 = .ok (.if_icmp .ge 49, 3) := by decide +kernel
theorem dX10_flat_26 : decode cX10_flat 26 = .ok (.iload_n 3, 1) := by decide +kernel
theorem dX10_flat_27 : decode cX10_flat 27 = .ok (.ifCond .ne 33, 3) := by decide +kernel
theorem dX10_flat_30 : decode cX10_flat 30 = .ok (.aload_n 0, 1) := by decide +kernel
theorem dX10_flat_31 : decode cX10_flat 31 = .ok (.iload_n 2, 1) := by decide +kernel
theorem dX10_flat_32 : decode cX10_flat 32 = .ok (.iload 4, 2) := by decide +kernel
theorem dX10_flat_34 : decode cX10_flat 34 = .ok (.invokevirtual 386, 3) := by decide +kernel
theorem dX10_flat_37 : decode cX10_flat 37 = .ok (.ifCond .eq 27, 3) := by decide +kernel
theorem dX10_flat_40 : decode cX10_flat 40 = .ok (.aload_n 0, 1) := by decide +kernel
theorem dX10_flat_41 : decode cX10_flat 41 = .ok (.getfield 61, 3) := by decide +kernel
theorem dX10_flat_44 : decode cX10_flat 44 = .ok (.iconst 0, 1) := by decide +kernel
theorem dX10_flat_45 : decode cX10_flat 45 = .ok (.iload_n 2, 1) := by decide +kernel
theorem dX10_flat_46 : decode cX10_flat 46 = .ok (.iadd, 1) := by decide +kernel
theorem dX10_flat_47 : decode cX10_flat 47 = .ok (.iaload, 1) := by decide +kernel
theorem dX10_flat_48 : decode cX10_flat 48 = .ok (.aload_n 0, 1) := by decide +kernel
theorem dX10_flat_49 : decode cX10_flat 49 = .ok (.getfield 61, 3) := by decide +kernel
theorem dX10_flat_52 : decode cX10_flat 52 = .ok (.iconst 0, 1) := by decide +kernel
theorem dX10_flat_53 : decode cX10_flat 53 = .ok (.iload 4, 2) := by decide +kernel
theorem dX10_flat_55 : decode cX10_flat 55 = .ok (.iadd, 1) := by decide +kernel
theorem dX10_flat_56 : decode cX10_flat 56 = .ok (.iaload, 1) := by decide +kernel
theorem dX10_flat_57 : decode cX10_flat 57 = .ok (.if_icmp .ne 7, 3) := by decide +kernel
theorem dX10_flat_60 : decode cX10_flat 60 = .ok (.iconst 1, 1) := by decide +kernel
theorem dX10_flat_61 : decode cX10_flat 61 = .ok (.goto 4, 3) := by decide +kernel
theorem dX10_flat_64 : decode cX10_flat 64 = .ok (.iconst 0, 1) := by decide +kernel
theorem dX10_flat_65 : decode cX10_flat 65 = .ok (.istore_n 3, 1) := by decide +kernel
theorem dX10_flat_66 : decode cX10_flat 66 = .ok (.iinc 4 1, 3) := by decide +kernel
theorem dX10_flat_69 : decode cX10_flat 69 = .ok (.goto (-52), 3) := by decide +kernel
theorem dX10_flat_72 : decode cX10_flat 72 = .ok (.iload_n 1, 1) := by decide +kernel
theorem dX10_flat_73 : decode cX10_flat 73 = .ok (.iload_n 3, 1) := by decide +kernel
theorem dX10_flat_74 : decode cX10_flat 74 = .ok (.ifCond .eq 7, 3) := by decide +kernel
theorem dX10_flat_77 : decode cX10_flat 77 = .ok (.iconst 1, 1) := by decide +kernel
theorem dX10_flat_78 : decode cX10_flat 78 = .ok (.goto 4, 3) := by decide +kernel
theorem dX10_flat_81 : decode cX10_flat 81 = .ok (.iconst 0, 1) := by decide +kernel
theorem dX10_flat_82 : decode cX10_flat 82 = .ok (.iadd, 1) := by decide +kernel
theorem dX10_flat_83 : decode cX10_flat 83 = .ok (.istore_n 1, 1) := by decide +kernel
theorem dX10_flat_84 : decode cX10_flat 84 = .ok (.iinc 2 1, 3) := by decide +kernel
theorem dX10_flat_87 : decode cX10_flat 87 = .ok (.goto (-83), 3) := by decide +kernel
theorem dX10_flat_90 : decode cX10_flat 90 = .ok (.iload_n 1, 1) := by decide +kernel
theorem dX10_flat_91 : decode cX10_flat 91 = .ok (.ireturn, 1) := by decide +kernel
theorem dX10_lost_0 : decode cX10_lost 0 = .ok (.iconst 0, 1) := by decide +kernel
theorem dX10_lost_1 : decode cX10_lost 1 = .ok (.istore_n 1, 1) := by decide +kernel
theorem dX10_lost_2 : decode cX10_lost 2 = .ok (.iconst 0, 1) := by decide +kernel
theorem dX10_lost_3 : decode cX10_lost 3 = .ok (.istore_n 2, 1) := by decide +kernel
theorem dX10_lost_4 : decode cX10_lost 4 = .ok (.iload_n 2, 1) := by decide +kernel
theorem dX10_lost_5 : decode cX10_lost 5 = .ok (.aload_n 0, 1) := by decide +kernel
theorem dX10_lost_6 : decode cX10_lost 6 = .ok (.getfield 264, 3) := by decide +kernel
theorem dX10_lost_9 : decode cX10_lost 9 = .ok (.if_icmp .ge 37, 3) := by decide +kernel
theorem dX10_lost_12 : decode cX10_lost 12 = .ok (.iload_n 1, 1) := by decide +kernel
theorem dX10_lost_13 : decode cX10_lost 13 = .ok (.aload_n 0, 1) := by decide +kernel
theorem dX10_lost_14 : decode cX10_lost 14 = .ok (.getfield 61, 3) := by decide +kernel
theorem dX10_lost_17 : decode cX10_lost 17 = .ok (.iconst 0, 1) := by decide +kernel
theorem dX10_lost_18 : decode cX10_lost 18 = .ok (.iload_n 2, 1) := by decide +kernel
theorem dX10_lost_19 : decode cX10_lost 19 = .ok (.iadd, 1) := by decide +kernel
theorem dX10_lost_20 : decode cX10_lost 20 = .ok (.iaload, 1) := by decide +kernel
theorem dX10_lost_21 : decode cX10_lost 21 = .ok (.aload_n 0, 1) := by decide +kernel
theorem dX10_lost_22 : decode cX10_lost 22 = .ok (.getfield 61, 3) := by decide +kernel
theorem dX10_lost_25 : decode cX10_lost 25 = .ok (.bipush 39, 2) := by decide +kernel
theorem dX10_lost_27 : decode cX10_lost 27 = .ok (.iaload, 1) := by decide +kernel
theorem dX10_lost_28 : decode cX10_lost 28 = .ok (.if_icmp .ge 9, 3) := by decide +kernel
theorem dX10_lost_31 : decode cX10_lost 31 = .ok (.iconst 1, 1) := by decide +kernel
theorem dX10_lost_32 : decode cX10_lost 32 = .ok (.iload_n 2, 1) := by decide +kernel
theorem dX10_lost_33 : decode cX10_lost 33 = .ok (.ishl, 1) := by decide +kernel
theorem dX10_lost_34 : decode cX10_lost 34 = .ok (.goto 4, 3) := by decide +kernel
theorem dX10_lost_37 : decode cX10_lost 37 = .ok (.iconst 0, 1) := by decide +kernel
theorem dX10_lost_38 : decode cX10_lost 38 = .ok (.ior, 1) := by decide +kernel
theorem dX10_lost_39 : decode cX10_lost 39 = .ok (.istore_n 1, 1) := by decide +kernel
theorem dX10_lost_40 : decode cX10_lost 40 = .ok (.iinc 2 1, 3) := by decide +kernel
theorem dX10_lost_43 : decode cX10_lost 43 = .ok (.goto (-39), 3) := by decide +kernel
theorem dX10_lost_46 : decode cX10_lost 46 = .ok (.iload_n 1, 1) := by decide +kernel
theorem dX10_lost_47 : decode cX10_lost 47 = .ok (.ireturn, 1) := by decide +kernel
theorem dX10_mutual_0 : decode cX10_mutual 0 = .ok (.iconst 0, 1) := by decide +kernel
theorem dX10_mutual_1 : decode cX10_mutual 1 = .ok (.istore_n 1, 1) := by decide +kernel
theorem dX10_mutual_2 : decode cX10_mutual 2 = .ok (.iconst 0, 1) := by decide +kernel
theorem dX10_mutual_3 : decode cX10_mutual 3 = .ok (.istore_n 2, 1) := by decide +kernel
theorem dX10_mutual_4 : decode cX10_mutual 4 = .ok (.iload_n 2, 1) := by decide +kernel
theorem dX10_mutual_5 : decode cX10_mutual 5 = .ok (.aload_n 0, 1) := by decide +kernel
theorem dX10_mutual_6 : decode cX10_mutual 6 = .ok (.getfield 261, 3) := by decide +kernel
theorem dX10_mutual_9 : decode cX10_mutual 9 = .ok (.if_icmp .ge 64, 3) := by decide +kernel
theorem dX10_mutual_12 : decode cX10_mutual 12 = .ok (.iconst 0, 1) := by decide +kernel
theorem dX10_mutual_13 : decode cX10_mutual 13 = .ok (.istore_n 3, 1) := by decide +kernel
theorem dX10_mutual_14 : decode cX10_mutual 14 = .ok (.iload_n 3, 1) := by decide +kernel
theorem dX10_mutual_15 : decode cX10_mutual 15 = .ok (.iload_n 2, 1) := by decide +kernel
theorem dX10_mutual_16 : decode cX10_mutual 16 = .ok (.if_icmp .ge 51, 3) := by decide +kernel
theorem dX10_mutual_19 : decode cX10_mutual 19 = .ok (.iload_n 1, 1) := by decide +kernel
theorem dX10_mutual_20 : decode cX10_mutual 20 = .ok (.aload_n 0, 1) := by decide +kernel
theorem dX10_mutual_21 : decode cX10_mutual 21 = .ok (.iload_n 2, 1) := by decide +kernel
theorem dX10_mutual_22 : decode cX10_mutual 22 = .ok (.aload_n 0, 1) := by decide +kernel
theorem dX10_mutual_23 : decode cX10_mutual 23 = .ok (.getfield 61, 3) := by decide +kernel
theorem dX10_mutual_26 : decode cX10_mutual 26 = .ok (.bipush 30, 2) := by decide +kernel
theorem dX10_mutual_28 : decode cX10_mutual 28 = .ok (.iload_n 3, 1) := by decide +kernel
theorem dX10_mutual_29 : decode cX10_mutual 29 = .ok (.iadd, 1) := by decide +kernel
theorem dX10_mutual_30 : decode cX10_mutual 30 = .ok (.iaload, 1) := by decide +kernel
theorem dX10_mutual_31 : decode cX10_mutual 31 = .ok (.invokevirtual 325, 3) := by decide +kernel
theorem dX10_mutual_34 : decode cX10_mutual 34 = .ok (.ifCond .eq 24, 3) := by decide +kernel
theorem dX10_mutual_37 : decode cX10_mutual 37 = .ok (.aload_n 0, 1) := by decide +kernel
theorem dX10_mutual_38 : decode cX10_mutual 38 = .ok (.iload_n 3, 1) := by decide +kernel
theorem dX10_mutual_39 : decode cX10_mutual 39 = .ok (.aload_n 0, 1) := by decide +kernel
theorem dX10_mutual_40 : decode cX10_mutual 40 = .ok (.getfield 61, 3) := by decide +kernel
theorem dX10_mutual_43 : decode cX10_mutual 43 = .ok (.bipush 30, 2) := by decide +kernel
theorem dX10_mutual_45 : decode cX10_mutual 45 = .ok (.iload_n 2, 1) := by decide +kernel
theorem dX10_mutual_46 : decode cX10_mutual 46 = .ok (.iadd, 1) := by decide +kernel
theorem dX10_mutual_47 : decode cX10_mutual 47 = .ok (.iaload, 1) := by decide +kernel
theorem dX10_mutual_48 : decode cX10_mutual 48 = .ok (.invokevirtual 325, 3) := by decide +kernel
theorem dX10_mutual_51 : decode cX10_mutual 51 = .ok (.ifCond .eq 7, 3) := by decide +kernel
theorem dX10_mutual_54 : decode cX10_mutual 54 = .ok (.iconst 1, 1) := by decide +kernel
theorem dX10_mutual_55 : decode cX10_mutual 55 = .ok (.goto 4, 3) := by decide +kernel
theorem dX10_mutual_58 : decode cX10_mutual 58 = .ok (.iconst 0, 1) := by decide +kernel
theorem dX10_mutual_59 : decode cX10_mutual 59 = .ok (.iadd, 1) := by decide +kernel
theorem dX10_mutual_60 : decode cX10_mutual 60 = .ok (.istore_n 1, 1) := by decide +kernel
theorem dX10_mutual_61 : decode cX10_mutual 61 = .ok (.iinc 3 1, 3) := by decide +kernel
theorem dX10_mutual_64 : decode cX10_mutual 64 = .ok (.goto (-50), 3) := by decide +kernel
theorem dX10_mutual_67 : decode cX10_mutual 67 = .ok (.iinc 2 1, 3) := by decide +kernel
theorem dX10_mutual_70 : decode cX10_mutual 70 = .ok (.goto (-66), 3) := by decide +kernel
theorem dX10_mutual_73 : decode cX10_mutual 73 = .ok (.iload_n 1, 1) := by decide +kernel
theorem dX10_mutual_74 : decode cX10_mutual 74 = .ok (.ireturn, 1) := by decide +kernel
theorem dX10_most_0 : decode cX10_most 0 = .ok (.aload_n 0, 1) := by decide +kernel
theorem dX10_most_1 : decode cX10_most 1 = .ok (.getfield 264, 3) := by decide +kernel
theorem dX10_most_4 : decode cX10_most 4 = .ok (.ifCond .ne 5, 3) := by decide +kernel
theorem dX10_most_7 : decode cX10_most 7 = .ok (.iconst (-1), 1) := by decide +kernel
theorem dX10_most_8 : decode cX10_most 8 = .ok (.ireturn, 1) := by decide +kernel
theorem dX10_most_9 : decode cX10_most 9 = .ok (.iload_n 1, 1) := by decide +kernel
theorem dX10_most_10 : decode cX10_most 10 = .ok (.tableswitch 111 0 9 #[54, 60, 66, 72, 78, 86, 91, 96, 101, 106], 54) := by decide +kernel
theorem dX10_most_64 : decode cX10_most 64 = .ok (.aload_n 0, 1) := by decide +kernel
theorem dX10_most_65 : decode cX10_most 65 = .ok (.iconst 1, 1) := by decide +kernel
theorem dX10_most_66 : decode cX10_most 66 = .ok (.invokevirtual 422, 3) := by decide +kernel
theorem dX10_most_69 : decode cX10_most 69 = .ok (.ireturn, 1) := by decide +kernel
theorem dX10_most_70 : decode cX10_most 70 = .ok (.aload_n 0, 1) := by decide +kernel
theorem dX10_most_71 : decode cX10_most 71 = .ok (.iconst (-1), 1) := by decide +kernel
theorem dX10_most_72 : decode cX10_most 72 = .ok (.invokevirtual 422, 3) := by decide +kernel
theorem dX10_most_75 : decode cX10_most 75 = .ok (.ireturn, 1) := by decide +kernel
theorem dX10_most_76 : decode cX10_most 76 = .ok (.aload_n 0, 1) := by decide +kernel
theorem dX10_most_77 : decode cX10_most 77 = .ok (.iconst 1, 1) := by decide +kernel
theorem dX10_most_78 : decode cX10_most 78 = .ok (.invokevirtual 425, 3) := by decide +kernel
theorem dX10_most_81 : decode cX10_most 81 = .ok (.ireturn, 1) := by decide +kernel
theorem dX10_most_82 : decode cX10_most 82 = .ok (.aload_n 0, 1) := by decide +kernel
theorem dX10_most_83 : decode cX10_most 83 = .ok (.iconst (-1), 1) := by decide +kernel
theorem dX10_most_84 : decode cX10_most 84 = .ok (.invokevirtual 425, 3) := by decide +kernel
theorem dX10_most_87 : decode cX10_most 87 = .ok (.ireturn, 1) := by decide +kernel
theorem dX10_most_88 : decode cX10_most 88 = .ok (.aload_n 0, 1) := by decide +kernel
theorem dX10_most_89 : decode cX10_most 89 = .ok (.getfield 61, 3) := by decide +kernel
theorem dX10_most_92 : decode cX10_most 92 = .ok (.bipush 38, 2) := by decide +kernel
theorem dX10_most_94 : decode cX10_most 94 = .ok (.iaload, 1) := by decide +kernel
theorem dX10_most_95 : decode cX10_most 95 = .ok (.ireturn, 1) := by decide +kernel
theorem dX10_most_96 : decode cX10_most 96 = .ok (.aload_n 0, 1) := by decide +kernel
theorem dX10_most_97 : decode cX10_most 97 = .ok (.invokevirtual 428, 3) := by decide +kernel
theorem dX10_most_100 : decode cX10_most 100 = .ok (.ireturn, 1) := by decide +kernel
theorem dX10_most_101 : decode cX10_most 101 = .ok (.aload_n 0, 1) := by decide +kernel
theorem dX10_most_102 : decode cX10_most 102 = .ok (.invokevirtual 431, 3) := by decide +kernel
theorem dX10_most_105 : decode cX10_most 105 = .ok (.ireturn, 1) := by decide +kernel
theorem dX10_most_106 : decode cX10_most 106 = .ok (.aload_n 0, 1) := by decide +kernel
theorem dX10_most_107 : decode cX10_most 107 = .ok (.invokevirtual 434, 3) := by decide +kernel
theorem dX10_most_110 : decode cX10_most 110 = .ok (.ireturn, 1) := by decide +kernel
theorem dX10_most_111 : decode cX10_most 111 = .ok (.aload_n 0, 1) := by decide +kernel
theorem dX10_most_112 : decode cX10_most 112 = .ok (.invokevirtual 348, 3) := by decide +kernel
theorem dX10_most_115 : decode cX10_most 115 = .ok (.ireturn, 1) := by decide +kernel
theorem dX10_most_116 : decode cX10_most 116 = .ok (.aload_n 0, 1) := by decide +kernel
theorem dX10_most_117 : decode cX10_most 117 = .ok (.invokevirtual 437, 3) := by decide +kernel
theorem dX10_most_120 : decode cX10_most 120 = .ok (.ireturn, 1) := by decide +kernel
theorem dX10_most_121 : decode cX10_most 121 = .ok (.iconst (-1), 1) := by decide +kernel
theorem dX10_most_122 : decode cX10_most 122 = .ok (.ireturn, 1) := by decide +kernel
theorem dX10_image_0 : decode cX10_image 0 = .ok (.aload_n 0, 1) := by decide +kernel
theorem dX10_image_1 : decode cX10_image 1 = .ok (.getfield 264, 3) := by decide +kernel
theorem dX10_image_4 : decode cX10_image 4 = .ok (.ifCond .ne 5, 3) := by decide +kernel
theorem dX10_image_7 : decode cX10_image 7 = .ok (.iconst (-1), 1) := by decide +kernel
theorem dX10_image_8 : decode cX10_image 8 = .ok (.ireturn, 1) := by decide +kernel
theorem dX10_image_9 : decode cX10_image 9 = .ok (.iconst 0, 1) := by decide +kernel
theorem dX10_image_10 : decode cX10_image 10 = .ok (.istore_n 1, 1) := by decide +kernel
theorem dX10_image_11 : decode cX10_image 11 = .ok (.iload_n 1, 1) := by decide +kernel
theorem dX10_image_12 : decode cX10_image 12 = .ok (.sipush 223, 3) := by decide +kernel
theorem dX10_image_15 : decode cX10_image 15 = .ok (.if_icmp .ge 21, 3) := by decide +kernel
theorem dX10_image_18 : decode cX10_image 18 = .ok (.aload_n 0, 1) := by decide +kernel
theorem dX10_image_19 : decode cX10_image 19 = .ok (.getfield 99, 3) := by decide +kernel
theorem dX10_image_22 : decode cX10_image 22 = .ok (.iload_n 1, 1) := by decide +kernel
theorem dX10_image_23 : decode cX10_image 23 = .ok (.aload_n 0, 1) := by decide +kernel
theorem dX10_image_24 : decode cX10_image 24 = .ok (.getfield 61, 3) := by decide +kernel
theorem dX10_image_27 : decode cX10_image 27 = .ok (.iload_n 1, 1) := by decide +kernel
theorem dX10_image_28 : decode cX10_image 28 = .ok (.iaload, 1) := by decide +kernel
theorem dX10_image_29 : decode cX10_image 29 = .ok (.iastore, 1) := by decide +kernel
theorem dX10_image_30 : decode cX10_image 30 = .ok (.iinc 1 1, 3) := by decide +kernel
theorem dX10_image_33 : decode cX10_image 33 = .ok (.goto (-22), 3) := by decide +kernel
theorem dX10_image_36 : decode cX10_image 36 = .ok (.aload_n 0, 1) := by decide +kernel
theorem dX10_image_37 : decode cX10_image 37 = .ok (.iconst 1, 1) := by decide +kernel
theorem dX10_image_38 : decode cX10_image 38 = .ok (.putfield 279, 3) := by decide +kernel
theorem dX10_image_41 : decode cX10_image 41 = .ok (.aload_n 0, 1) := by decide +kernel
theorem dX10_image_42 : decode cX10_image 42 = .ok (.getfield 61, 3) := by decide +kernel
theorem dX10_image_45 : decode cX10_image 45 = .ok (.bipush 41, 2) := by decide +kernel
theorem dX10_image_47 : decode cX10_image 47 = .ok (.iaload, 1) := by decide +kernel
theorem dX10_image_48 : decode cX10_image 48 = .ok (.ireturn, 1) := by decide +kernel
theorem dX10_back_0 : decode cX10_back 0 = .ok (.aload_n 0, 1) := by decide +kernel
theorem dX10_back_1 : decode cX10_back 1 = .ok (.getfield 279, 3) := by decide +kernel
theorem dX10_back_4 : decode cX10_back 4 = .ok (.ifCond .ne 5, 3) := by decide +kernel
theorem dX10_back_7 : decode cX10_back 7 = .ok (.iconst (-1), 1) := by decide +kernel
theorem dX10_back_8 : decode cX10_back 8 = .ok (.ireturn, 1) := by decide +kernel
theorem dX10_back_9 : decode cX10_back 9 = .ok (.iconst 0, 1) := by decide +kernel
theorem dX10_back_10 : decode cX10_back 10 = .ok (.istore_n 1, 1) := by decide +kernel
theorem dX10_back_11 : decode cX10_back 11 = .ok (.iload_n 1, 1) := by decide +kernel
theorem dX10_back_12 : decode cX10_back 12 = .ok (.sipush 223, 3) := by decide +kernel
theorem dX10_back_15 : decode cX10_back 15 = .ok (.if_icmp .ge 21, 3) := by decide +kernel
theorem dX10_back_18 : decode cX10_back 18 = .ok (.aload_n 0, 1) := by decide +kernel
theorem dX10_back_19 : decode cX10_back 19 = .ok (.getfield 61, 3) := by decide +kernel
theorem dX10_back_22 : decode cX10_back 22 = .ok (.iload_n 1, 1) := by decide +kernel
theorem dX10_back_23 : decode cX10_back 23 = .ok (.aload_n 0, 1) := by decide +kernel
theorem dX10_back_24 : decode cX10_back 24 = .ok (.getfield 99, 3) := by decide +kernel
theorem dX10_back_27 : decode cX10_back 27 = .ok (.iload_n 1, 1) := by decide +kernel
theorem dX10_back_28 : decode cX10_back 28 = .ok (.iaload, 1) := by decide +kernel
theorem dX10_back_29 : decode cX10_back 29 = .ok (.iastore, 1) := by decide +kernel
theorem dX10_back_30 : decode cX10_back 30 = .ok (.iinc 1 1, 3) := by decide +kernel
theorem dX10_back_33 : decode cX10_back 33 = .ok (.goto (-22), 3) := by decide +kernel
theorem dX10_back_36 : decode cX10_back 36 = .ok (.aload_n 0, 1) := by decide +kernel
theorem dX10_back_37 : decode cX10_back 37 = .ok (.iconst 0, 1) := by decide +kernel
theorem dX10_back_38 : decode cX10_back 38 = .ok (.putfield 276, 3) := by decide +kernel
theorem dX10_back_41 : decode cX10_back 41 = .ok (.aload_n 0, 1) := by decide +kernel
theorem dX10_back_42 : decode cX10_back 42 = .ok (.getfield 61, 3) := by decide +kernel
theorem dX10_back_45 : decode cX10_back 45 = .ok (.bipush 41, 2) := by decide +kernel
theorem dX10_back_47 : decode cX10_back 47 = .ok (.iaload, 1) := by decide +kernel
theorem dX10_back_48 : decode cX10_back 48 = .ok (.ireturn, 1) := by decide +kernel
theorem dX10_count_0 : decode cX10_count 0 = .ok (.iload_n 1, 1) := by decide +kernel
theorem dX10_count_1 : decode cX10_count 1 = .ok (.tableswitch 120 0 10 #[59, 64, 69, 74, 79, 84, 92, 97, 102, 107, 115], 59) := by decide +kernel
theorem dX10_count_60 : decode cX10_count 60 = .ok (.aload_n 0, 1) := by decide +kernel
theorem dX10_count_61 : decode cX10_count 61 = .ok (.getfield 264, 3) := by decide +kernel
theorem dX10_count_64 : decode cX10_count 64 = .ok (.ireturn, 1) := by decide +kernel
theorem dX10_count_65 : decode cX10_count 65 = .ok (.aload_n 0, 1) := by decide +kernel
theorem dX10_count_66 : decode cX10_count 66 = .ok (.getfield 261, 3) := by decide +kernel
theorem dX10_count_69 : decode cX10_count 69 = .ok (.ireturn, 1) := by decide +kernel
theorem dX10_count_70 : decode cX10_count 70 = .ok (.aload_n 0, 1) := by decide +kernel
theorem dX10_count_71 : decode cX10_count 71 = .ok (.getfield 286, 3) := by decide +kernel
theorem dX10_count_74 : decode cX10_count 74 = .ok (.ireturn, 1) := by decide +kernel
theorem dX10_count_75 : decode cX10_count 75 = .ok (.aload_n 0, 1) := by decide +kernel
theorem dX10_count_76 : decode cX10_count 76 = .ok (.getfield 109, 3) := by decide +kernel
theorem dX10_count_79 : decode cX10_count 79 = .ok (.ireturn, 1) := by decide +kernel
theorem dX10_count_80 : decode cX10_count 80 = .ok (.aload_n 0, 1) := by decide +kernel
theorem dX10_count_81 : decode cX10_count 81 = .ok (.getfield 67, 3) := by decide +kernel
theorem dX10_count_84 : decode cX10_count 84 = .ok (.ireturn, 1) := by decide +kernel
theorem dX10_count_85 : decode cX10_count 85 = .ok (.aload_n 0, 1) := by decide +kernel
theorem dX10_count_86 : decode cX10_count 86 = .ok (.getfield 61, 3) := by decide +kernel
theorem dX10_count_89 : decode cX10_count 89 = .ok (.bipush 41, 2) := by decide +kernel
theorem dX10_count_91 : decode cX10_count 91 = .ok (.iaload, 1) := by decide +kernel
theorem dX10_count_92 : decode cX10_count 92 = .ok (.ireturn, 1) := by decide +kernel
theorem dX10_count_93 : decode cX10_count 93 = .ok (.aload_n 0, 1) := by decide +kernel
theorem dX10_count_94 : decode cX10_count 94 = .ok (.getfield 71, 3) := by decide +kernel
theorem dX10_count_97 : decode cX10_count 97 = .ok (.ireturn, 1) := by decide +kernel
theorem dX10_count_98 : decode cX10_count 98 = .ok (.aload_n 0, 1) := by decide +kernel
theorem dX10_count_99 : decode cX10_count 99 = .ok (.getfield 270, 3) := by decide +kernel
theorem dX10_count_102 : decode cX10_count 102 = .ok (.ireturn, 1) := by decide +kernel
theorem dX10_count_103 : decode cX10_count 103 = .ok (.aload_n 0, 1) := by decide +kernel
theorem dX10_count_104 : decode cX10_count 104 = .ok (.getfield 273, 3) := by decide +kernel
theorem dX10_count_107 : decode cX10_count 107 = .ok (.ireturn, 1) := by decide +kernel
theorem dX10_count_108 : decode cX10_count 108 = .ok (.aload_n 0, 1) := by decide +kernel
theorem dX10_count_109 : decode cX10_count 109 = .ok (.getfield 61, 3) := by decide +kernel
theorem dX10_count_112 : decode cX10_count 112 = .ok (.bipush 42, 2) := by decide +kernel
theorem dX10_count_114 : decode cX10_count 114 = .ok (.iaload, 1) := by decide +kernel
theorem dX10_count_115 : decode cX10_count 115 = .ok (.ireturn, 1) := by decide +kernel
theorem dX10_count_116 : decode cX10_count 116 = .ok (.aload_n 0, 1) := by decide +kernel
theorem dX10_count_117 : decode cX10_count 117 = .ok (.getfield 276, 3) := by decide +kernel
theorem dX10_count_120 : decode cX10_count 120 = .ok (.ireturn, 1) := by decide +kernel
theorem dX10_count_121 : decode cX10_count 121 = .ok (.ldc_w 404, 3) := by decide +kernel
theorem dX10_count_124 : decode cX10_count 124 = .ok (.ireturn, 1) := by decide +kernel
theorem dJ6_bitCount_0f7a4_0 : decode cJ6_bitCount_0f7a4 0 = .ok (.iload_n 0, 1) := by decide +kernel
theorem dJ6_bitCount_0f7a4_1 : decode cJ6_bitCount_0f7a4 1 = .ok (.iload_n 0, 1) := by decide +kernel
theorem dJ6_bitCount_0f7a4_2 : decode cJ6_bitCount_0f7a4 2 = .ok (.iconst 1, 1) := by decide +kernel
theorem dJ6_bitCount_0f7a4_3 : decode cJ6_bitCount_0f7a4 3 = .ok (.iushr, 1) := by decide +kernel
theorem dJ6_bitCount_0f7a4_4 : decode cJ6_bitCount_0f7a4 4 = .ok (.ldc_w 265, 3) := by decide +kernel
theorem dJ6_bitCount_0f7a4_7 : decode cJ6_bitCount_0f7a4 7 = .ok (.iand, 1) := by decide +kernel
theorem dJ6_bitCount_0f7a4_8 : decode cJ6_bitCount_0f7a4 8 = .ok (.isub, 1) := by decide +kernel
theorem dJ6_bitCount_0f7a4_9 : decode cJ6_bitCount_0f7a4 9 = .ok (.istore_n 0, 1) := by decide +kernel
theorem dJ6_bitCount_0f7a4_10 : decode cJ6_bitCount_0f7a4 10 = .ok (.iload_n 0, 1) := by decide +kernel
theorem dJ6_bitCount_0f7a4_11 : decode cJ6_bitCount_0f7a4 11 = .ok (.ldc_w 266, 3) := by decide +kernel
theorem dJ6_bitCount_0f7a4_14 : decode cJ6_bitCount_0f7a4 14 = .ok (.iand, 1) := by decide +kernel
theorem dJ6_bitCount_0f7a4_15 : decode cJ6_bitCount_0f7a4 15 = .ok (.iload_n 0, 1) := by decide +kernel
theorem dJ6_bitCount_0f7a4_16 : decode cJ6_bitCount_0f7a4 16 = .ok (.iconst 2, 1) := by decide +kernel
theorem dJ6_bitCount_0f7a4_17 : decode cJ6_bitCount_0f7a4 17 = .ok (.iushr, 1) := by decide +kernel
theorem dJ6_bitCount_0f7a4_18 : decode cJ6_bitCount_0f7a4 18 = .ok (.ldc_w 266, 3) := by decide +kernel
theorem dJ6_bitCount_0f7a4_21 : decode cJ6_bitCount_0f7a4 21 = .ok (.iand, 1) := by decide +kernel
theorem dJ6_bitCount_0f7a4_22 : decode cJ6_bitCount_0f7a4 22 = .ok (.iadd, 1) := by decide +kernel
theorem dJ6_bitCount_0f7a4_23 : decode cJ6_bitCount_0f7a4 23 = .ok (.istore_n 0, 1) := by decide +kernel
theorem dJ6_bitCount_0f7a4_24 : decode cJ6_bitCount_0f7a4 24 = .ok (.iload_n 0, 1) := by decide +kernel
theorem dJ6_bitCount_0f7a4_25 : decode cJ6_bitCount_0f7a4 25 = .ok (.iload_n 0, 1) := by decide +kernel
theorem dJ6_bitCount_0f7a4_26 : decode cJ6_bitCount_0f7a4 26 = .ok (.iconst 4, 1) := by decide +kernel
theorem dJ6_bitCount_0f7a4_27 : decode cJ6_bitCount_0f7a4 27 = .ok (.iushr, 1) := by decide +kernel
theorem dJ6_bitCount_0f7a4_28 : decode cJ6_bitCount_0f7a4 28 = .ok (.iadd, 1) := by decide +kernel
theorem dJ6_bitCount_0f7a4_29 : decode cJ6_bitCount_0f7a4 29 = .ok (.ldc_w 267, 3) := by decide +kernel
theorem dJ6_bitCount_0f7a4_32 : decode cJ6_bitCount_0f7a4 32 = .ok (.iand, 1) := by decide +kernel
theorem dJ6_bitCount_0f7a4_33 : decode cJ6_bitCount_0f7a4 33 = .ok (.istore_n 0, 1) := by decide +kernel
theorem dJ6_bitCount_0f7a4_34 : decode cJ6_bitCount_0f7a4 34 = .ok (.iload_n 0, 1) := by decide +kernel
theorem dJ6_bitCount_0f7a4_35 : decode cJ6_bitCount_0f7a4 35 = .ok (.iload_n 0, 1) := by decide +kernel
theorem dJ6_bitCount_0f7a4_36 : decode cJ6_bitCount_0f7a4 36 = .ok (.bipush 8, 2) := by decide +kernel
theorem dJ6_bitCount_0f7a4_38 : decode cJ6_bitCount_0f7a4 38 = .ok (.iushr, 1) := by decide +kernel
theorem dJ6_bitCount_0f7a4_39 : decode cJ6_bitCount_0f7a4 39 = .ok (.iadd, 1) := by decide +kernel
theorem dJ6_bitCount_0f7a4_40 : decode cJ6_bitCount_0f7a4 40 = .ok (.istore_n 0, 1) := by decide +kernel
theorem dJ6_bitCount_0f7a4_41 : decode cJ6_bitCount_0f7a4 41 = .ok (.iload_n 0, 1) := by decide +kernel
theorem dJ6_bitCount_0f7a4_42 : decode cJ6_bitCount_0f7a4 42 = .ok (.iload_n 0, 1) := by decide +kernel
theorem dJ6_bitCount_0f7a4_43 : decode cJ6_bitCount_0f7a4 43 = .ok (.bipush 16, 2) := by decide +kernel
theorem dJ6_bitCount_0f7a4_45 : decode cJ6_bitCount_0f7a4 45 = .ok (.iushr, 1) := by decide +kernel
theorem dJ6_bitCount_0f7a4_46 : decode cJ6_bitCount_0f7a4 46 = .ok (.iadd, 1) := by decide +kernel
theorem dJ6_bitCount_0f7a4_47 : decode cJ6_bitCount_0f7a4 47 = .ok (.istore_n 0, 1) := by decide +kernel
theorem dJ6_bitCount_0f7a4_48 : decode cJ6_bitCount_0f7a4 48 = .ok (.iload_n 0, 1) := by decide +kernel
theorem dJ6_bitCount_0f7a4_49 : decode cJ6_bitCount_0f7a4 49 = .ok (.bipush 63, 2) := by decide +kernel
theorem dJ6_bitCount_0f7a4_51 : decode cJ6_bitCount_0f7a4 51 = .ok (.iand, 1) := by decide +kernel
theorem dJ6_bitCount_0f7a4_52 : decode cJ6_bitCount_0f7a4 52 = .ok (.ireturn, 1) := by decide +kernel
theorem dJ9_floorDiv_7cf53_0 : decode cJ9_floorDiv_7cf53 0 = .ok (.iload_n 0, 1) := by decide +kernel
theorem dJ9_floorDiv_7cf53_1 : decode cJ9_floorDiv_7cf53 1 = .ok (.iload_n 1, 1) := by decide +kernel
theorem dJ9_floorDiv_7cf53_2 : decode cJ9_floorDiv_7cf53 2 = .ok (.idiv, 1) := by decide +kernel
theorem dJ9_floorDiv_7cf53_3 : decode cJ9_floorDiv_7cf53 3 = .ok (.istore_n 2, 1) := by decide +kernel
theorem dJ9_floorDiv_7cf53_4 : decode cJ9_floorDiv_7cf53 4 = .ok (.iload_n 0, 1) := by decide +kernel
theorem dJ9_floorDiv_7cf53_5 : decode cJ9_floorDiv_7cf53 5 = .ok (.iload_n 1, 1) := by decide +kernel
theorem dJ9_floorDiv_7cf53_6 : decode cJ9_floorDiv_7cf53 6 = .ok (.ixor, 1) := by decide +kernel
theorem dJ9_floorDiv_7cf53_7 : decode cJ9_floorDiv_7cf53 7 = .ok (.ifCond .ge 14, 3) := by decide +kernel
theorem dJ9_floorDiv_7cf53_10 : decode cJ9_floorDiv_7cf53 10 = .ok (.iload_n 2, 1) := by decide +kernel
theorem dJ9_floorDiv_7cf53_11 : decode cJ9_floorDiv_7cf53 11 = .ok (.iload_n 1, 1) := by decide +kernel
theorem dJ9_floorDiv_7cf53_12 : decode cJ9_floorDiv_7cf53 12 = .ok (.imul, 1) := by decide +kernel
theorem dJ9_floorDiv_7cf53_13 : decode cJ9_floorDiv_7cf53 13 = .ok (.iload_n 0, 1) := by decide +kernel
theorem dJ9_floorDiv_7cf53_14 : decode cJ9_floorDiv_7cf53 14 = .ok (.if_icmp .eq 7, 3) := by decide +kernel
theorem dJ9_floorDiv_7cf53_17 : decode cJ9_floorDiv_7cf53 17 = .ok (.iload_n 2, 1) := by decide +kernel
theorem dJ9_floorDiv_7cf53_18 : decode cJ9_floorDiv_7cf53 18 = .ok (.iconst 1, 1) := by decide +kernel
theorem dJ9_floorDiv_7cf53_19 : decode cJ9_floorDiv_7cf53 19 = .ok (.isub, 1) := by decide +kernel
theorem dJ9_floorDiv_7cf53_20 : decode cJ9_floorDiv_7cf53 20 = .ok (.ireturn, 1) := by decide +kernel
theorem dJ9_floorDiv_7cf53_21 : decode cJ9_floorDiv_7cf53 21 = .ok (.iload_n 2, 1) := by decide +kernel
theorem dJ9_floorDiv_7cf53_22 : decode cJ9_floorDiv_7cf53 22 = .ok (.ireturn, 1) := by decide +kernel
theorem dJ9_abs_0f7a4_0 : decode cJ9_abs_0f7a4 0 = .ok (.iload_n 0, 1) := by decide +kernel
theorem dJ9_abs_0f7a4_1 : decode cJ9_abs_0f7a4 1 = .ok (.ifCond .ge 8, 3) := by decide +kernel
theorem dJ9_abs_0f7a4_4 : decode cJ9_abs_0f7a4 4 = .ok (.iload_n 0, 1) := by decide +kernel
theorem dJ9_abs_0f7a4_5 : decode cJ9_abs_0f7a4 5 = .ok (.ineg, 1) := by decide +kernel
theorem dJ9_abs_0f7a4_6 : decode cJ9_abs_0f7a4 6 = .ok (.goto 4, 3) := by decide +kernel
theorem dJ9_abs_0f7a4_9 : decode cJ9_abs_0f7a4 9 = .ok (.iload_n 0, 1) := by decide +kernel
theorem dJ9_abs_0f7a4_10 : decode cJ9_abs_0f7a4 10 = .ok (.ireturn, 1) := by decide +kernel
theorem dJ9_max_7cf53_0 : decode cJ9_max_7cf53 0 = .ok (.iload_n 0, 1) := by decide +kernel
theorem dJ9_max_7cf53_1 : decode cJ9_max_7cf53 1 = .ok (.iload_n 1, 1) := by decide +kernel
theorem dJ9_max_7cf53_2 : decode cJ9_max_7cf53 2 = .ok (.if_icmp .lt 7, 3) := by decide +kernel
theorem dJ9_max_7cf53_5 : decode cJ9_max_7cf53 5 = .ok (.iload_n 0, 1) := by decide +kernel
theorem dJ9_max_7cf53_6 : decode cJ9_max_7cf53 6 = .ok (.goto 4, 3) := by decide +kernel
theorem dJ9_max_7cf53_9 : decode cJ9_max_7cf53 9 = .ok (.iload_n 1, 1) := by decide +kernel
theorem dJ9_max_7cf53_10 : decode cJ9_max_7cf53 10 = .ok (.ireturn, 1) := by decide +kernel
theorem dJ9_max_f86c9_0 : decode cJ9_max_f86c9 0 = .ok (.lload_n 0, 1) := by decide +kernel
theorem dJ9_max_f86c9_1 : decode cJ9_max_f86c9 1 = .ok (.lload_n 2, 1) := by decide +kernel
theorem dJ9_max_f86c9_2 : decode cJ9_max_f86c9 2 = .ok (.lcmp, 1) := by decide +kernel
theorem dJ9_max_f86c9_3 : decode cJ9_max_f86c9 3 = .ok (.ifCond .lt 7, 3) := by decide +kernel
theorem dJ9_max_f86c9_6 : decode cJ9_max_f86c9 6 = .ok (.lload_n 0, 1) := by decide +kernel
theorem dJ9_max_f86c9_7 : decode cJ9_max_f86c9 7 = .ok (.goto 4, 3) := by decide +kernel
theorem dJ9_max_f86c9_10 : decode cJ9_max_f86c9 10 = .ok (.lload_n 2, 1) := by decide +kernel
theorem dJ9_max_f86c9_11 : decode cJ9_max_f86c9 11 = .ok (.lreturn, 1) := by decide +kernel
theorem dJ9_min_7cf53_0 : decode cJ9_min_7cf53 0 = .ok (.iload_n 0, 1) := by decide +kernel
theorem dJ9_min_7cf53_1 : decode cJ9_min_7cf53 1 = .ok (.iload_n 1, 1) := by decide +kernel
theorem dJ9_min_7cf53_2 : decode cJ9_min_7cf53 2 = .ok (.if_icmp .gt 7, 3) := by decide +kernel
theorem dJ9_min_7cf53_5 : decode cJ9_min_7cf53 5 = .ok (.iload_n 0, 1) := by decide +kernel
theorem dJ9_min_7cf53_6 : decode cJ9_min_7cf53 6 = .ok (.goto 4, 3) := by decide +kernel
theorem dJ9_min_7cf53_9 : decode cJ9_min_7cf53 9 = .ok (.iload_n 1, 1) := by decide +kernel
theorem dJ9_min_7cf53_10 : decode cJ9_min_7cf53 10 = .ok (.ireturn, 1) := by decide +kernel
theorem dJ9_min_f86c9_0 : decode cJ9_min_f86c9 0 = .ok (.lload_n 0, 1) := by decide +kernel
theorem dJ9_min_f86c9_1 : decode cJ9_min_f86c9 1 = .ok (.lload_n 2, 1) := by decide +kernel
theorem dJ9_min_f86c9_2 : decode cJ9_min_f86c9 2 = .ok (.lcmp, 1) := by decide +kernel
theorem dJ9_min_f86c9_3 : decode cJ9_min_f86c9 3 = .ok (.ifCond .gt 7, 3) := by decide +kernel
theorem dJ9_min_f86c9_6 : decode cJ9_min_f86c9 6 = .ok (.lload_n 0, 1) := by decide +kernel
theorem dJ9_min_f86c9_7 : decode cJ9_min_f86c9 7 = .ok (.goto 4, 3) := by decide +kernel
theorem dJ9_min_f86c9_10 : decode cJ9_min_f86c9 10 = .ok (.lload_n 2, 1) := by decide +kernel
theorem dJ9_min_f86c9_11 : decode cJ9_min_f86c9 11 = .ok (.lreturn, 1) := by decide +kernel
theorem dJ7_fill_53178_0 : decode cJ7_fill_53178 0 = .ok (.iconst 0, 1) := by decide +kernel
theorem dJ7_fill_53178_1 : decode cJ7_fill_53178 1 = .ok (.istore_n 2, 1) := by decide +kernel
theorem dJ7_fill_53178_2 : decode cJ7_fill_53178 2 = .ok (.aload_n 0, 1) := by decide +kernel
theorem dJ7_fill_53178_3 : decode cJ7_fill_53178 3 = .ok (.arraylength, 1) := by decide +kernel
theorem dJ7_fill_53178_4 : decode cJ7_fill_53178 4 = .ok (.istore_n 3, 1) := by decide +kernel
theorem dJ7_fill_53178_5 : decode cJ7_fill_53178 5 = .ok (.iload_n 2, 1) := by decide +kernel
theorem dJ7_fill_53178_6 : decode cJ7_fill_53178 6 = .ok (.iload_n 3, 1) := by decide +kernel
theorem dJ7_fill_53178_7 : decode cJ7_fill_53178 7 = .ok (.if_icmp .ge 13, 3) := by decide +kernel
theorem dJ7_fill_53178_10 : decode cJ7_fill_53178 10 = .ok (.aload_n 0, 1) := by decide +kernel
theorem dJ7_fill_53178_11 : decode cJ7_fill_53178 11 = .ok (.iload_n 2, 1) := by decide +kernel
theorem dJ7_fill_53178_12 : decode cJ7_fill_53178 12 = .ok (.iload_n 1, 1) := by decide +kernel
theorem dJ7_fill_53178_13 : decode cJ7_fill_53178 13 = .ok (.iastore, 1) := by decide +kernel
theorem dJ7_fill_53178_14 : decode cJ7_fill_53178 14 = .ok (.iinc 2 1, 3) := by decide +kernel
theorem dJ7_fill_53178_17 : decode cJ7_fill_53178 17 = .ok (.goto (-12), 3) := by decide +kernel
theorem dJ7_fill_53178_20 : decode cJ7_fill_53178 20 = .ok (.return_, 1) := by decide +kernel
theorem dJ7_copyOf_59c91_0 : decode cJ7_copyOf_59c91 0 = .ok (.iload_n 1, 1) := by decide +kernel
theorem dJ7_copyOf_59c91_1 : decode cJ7_copyOf_59c91 1 = .ok (.aload_n 0, 1) := by decide +kernel
theorem dJ7_copyOf_59c91_2 : decode cJ7_copyOf_59c91 2 = .ok (.arraylength, 1) := by decide +kernel
theorem dJ7_copyOf_59c91_3 : decode cJ7_copyOf_59c91 3 = .ok (.if_icmp .ne 11, 3) := by decide +kernel
theorem dJ7_copyOf_59c91_6 : decode cJ7_copyOf_59c91 6 = .ok (.aload_n 0, 1) := by decide +kernel
theorem dJ7_copyOf_59c91_7 : decode cJ7_copyOf_59c91 7 = .ok (.invokevirtual 316, 3) := by decide +kernel
theorem dJ7_copyOf_59c91_10 : decode cJ7_copyOf_59c91 10 = .ok (.checkcast 317, 3) := by decide +kernel
theorem dJ7_copyOf_59c91_13 : decode cJ7_copyOf_59c91 13 = .ok (.areturn, 1) := by decide +kernel
theorem dJ7_copyOf_59c91_14 : decode cJ7_copyOf_59c91 14 = .ok (.iload_n 1, 1) := by decide +kernel
theorem dJ7_copyOf_59c91_15 : decode cJ7_copyOf_59c91 15 = .ok (.newarray .int, 2) := by decide +kernel
theorem dJ7_copyOf_59c91_17 : decode cJ7_copyOf_59c91 17 = .ok (.astore_n 2, 1) := by decide +kernel
theorem dJ7_copyOf_59c91_18 : decode cJ7_copyOf_59c91 18 = .ok (.aload_n 0, 1) := by decide +kernel
theorem dJ7_copyOf_59c91_19 : decode cJ7_copyOf_59c91 19 = .ok (.iconst 0, 1) := by decide +kernel
theorem dJ7_copyOf_59c91_20 : decode cJ7_copyOf_59c91 20 = .ok (.aload_n 2, 1) := by decide +kernel
theorem dJ7_copyOf_59c91_21 : decode cJ7_copyOf_59c91 21 = .ok (.iconst 0, 1) := by decide +kernel
theorem dJ7_copyOf_59c91_22 : decode cJ7_copyOf_59c91 22 = .ok (.aload_n 0, 1) := by decide +kernel
theorem dJ7_copyOf_59c91_23 : decode cJ7_copyOf_59c91 23 = .ok (.arraylength, 1) := by decide +kernel
theorem dJ7_copyOf_59c91_24 : decode cJ7_copyOf_59c91 24 = .ok (.iload_n 1, 1) := by decide +kernel
theorem dJ7_copyOf_59c91_25 : decode cJ7_copyOf_59c91 25 = .ok (.invokestatic 304, 3) := by decide +kernel
theorem dJ7_copyOf_59c91_28 : decode cJ7_copyOf_59c91 28 = .ok (.invokestatic 150, 3) := by decide +kernel
theorem dJ7_copyOf_59c91_31 : decode cJ7_copyOf_59c91 31 = .ok (.aload_n 2, 1) := by decide +kernel
theorem dJ7_copyOf_59c91_32 : decode cJ7_copyOf_59c91 32 = .ok (.areturn, 1) := by decide +kernel
theorem dL_tower_0 : decode cL_tower 0 = .ok (.aload_n 3, 1) := by decide +kernel
theorem dL_tower_1 : decode cL_tower 1 = .ok (.iconst 0, 1) := by decide +kernel
theorem dL_tower_2 : decode cL_tower 2 = .ok (.aload_n 0, 1) := by decide +kernel
theorem dL_tower_3 : decode cL_tower 3 = .ok (.iload_n 1, 1) := by decide +kernel
theorem dL_tower_4 : decode cL_tower 4 = .ok (.iload_n 2, 1) := by decide +kernel
theorem dL_tower_5 : decode cL_tower 5 = .ok (.invokevirtual 7, 3) := by decide +kernel
theorem dL_tower_8 : decode cL_tower 8 = .ok (.i2l, 1) := by decide +kernel
theorem dL_tower_9 : decode cL_tower 9 = .ok (.lastore, 1) := by decide +kernel
theorem dL_tower_10 : decode cL_tower 10 = .ok (.goto 7, 3) := by decide +kernel
theorem dL_tower_13 : decode cL_tower 13 = .ok (.astore 4, 2) := by decide +kernel
theorem dL_tower_15 : decode cL_tower 15 = .ok (.iconst 1, 1) := by decide +kernel
theorem dL_tower_16 : decode cL_tower 16 = .ok (.ireturn, 1) := by decide +kernel
theorem dL_tower_17 : decode cL_tower 17 = .ok (.iconst 0, 1) := by decide +kernel
theorem dL_tower_18 : decode cL_tower 18 = .ok (.ireturn, 1) := by decide +kernel
theorem dL_law_0 : decode cL_law 0 = .ok (.new 8, 3) := by decide +kernel
theorem dL_law_3 : decode cL_law 3 = .ok (.dup, 1) := by decide +kernel
theorem dL_law_4 : decode cL_law 4 = .ok (.invokespecial 15, 3) := by decide +kernel
theorem dL_law_7 : decode cL_law 7 = .ok (.astore_n 1, 1) := by decide +kernel
theorem dL_law_8 : decode cL_law 8 = .ok (.new 16, 3) := by decide +kernel
theorem dL_law_11 : decode cL_law 11 = .ok (.dup, 1) := by decide +kernel
theorem dL_law_12 : decode cL_law 12 = .ok (.invokespecial 18, 3) := by decide +kernel
theorem dL_law_15 : decode cL_law 15 = .ok (.astore_n 2, 1) := by decide +kernel
theorem dL_law_16 : decode cL_law 16 = .ok (.iconst 1, 1) := by decide +kernel
theorem dL_law_17 : decode cL_law 17 = .ok (.newarray .long, 2) := by decide +kernel
theorem dL_law_19 : decode cL_law 19 = .ok (.astore_n 3, 1) := by decide +kernel
theorem dL_law_20 : decode cL_law 20 = .ok (.iconst 0, 1) := by decide +kernel
theorem dL_law_21 : decode cL_law 21 = .ok (.istore 4, 2) := by decide +kernel
theorem dL_law_23 : decode cL_law 23 = .ok (.iload 4, 2) := by decide +kernel
theorem dL_law_25 : decode cL_law 25 = .ok (.aload_n 0, 1) := by decide +kernel
theorem dL_law_26 : decode cL_law 26 = .ok (.arraylength, 1) := by decide +kernel
theorem dL_law_27 : decode cL_law 27 = .ok (.bipush 6, 2) := by decide +kernel
theorem dL_law_29 : decode cL_law 29 = .ok (.isub, 1) := by decide +kernel
theorem dL_law_30 : decode cL_law 30 = .ok (.if_icmp .gt 1559, 3) := by decide +kernel
theorem dL_law_33 : decode cL_law 33 = .ok (.aload_n 0, 1) := by decide +kernel
theorem dL_law_34 : decode cL_law 34 = .ok (.iload 4, 2) := by decide +kernel
theorem dL_law_36 : decode cL_law 36 = .ok (.iaload, 1) := by decide +kernel
theorem dL_law_37 : decode cL_law 37 = .ok (.bipush 63, 2) := by decide +kernel
theorem dL_law_39 : decode cL_law 39 = .ok (.iand, 1) := by decide +kernel
theorem dL_law_40 : decode cL_law 40 = .ok (.tableswitch 1543 0 39 #[176, 249, 274, 299, 324, 349, 374, 442, 467, 492, 517, 542, 567, 604, 629, 654, 679, 704, 773, 798, 811, 848, 885, 922, 971, 1008, 1021, 1070, 1095, 1160, 1197, 1222, 1259, 1332, 1381, 1430, 1467, 1492, 1505, 1518], 176) := by decide +kernel
theorem dL_law_216 : decode cL_law 216 = .ok (.aload_n 1, 1) := by decide +kernel
theorem dL_law_217 : decode cL_law 217 = .ok (.aload_n 0, 1) := by decide +kernel
theorem dL_law_218 : decode cL_law 218 = .ok (.iload 4, 2) := by decide +kernel
theorem dL_law_220 : decode cL_law 220 = .ok (.iconst 1, 1) := by decide +kernel
theorem dL_law_221 : decode cL_law 221 = .ok (.iadd, 1) := by decide +kernel
theorem dL_law_222 : decode cL_law 222 = .ok (.iaload, 1) := by decide +kernel
theorem dL_law_223 : decode cL_law 223 = .ok (.aload_n 0, 1) := by decide +kernel
theorem dL_law_224 : decode cL_law 224 = .ok (.iload 4, 2) := by decide +kernel
theorem dL_law_226 : decode cL_law 226 = .ok (.iconst 2, 1) := by decide +kernel
theorem dL_law_227 : decode cL_law 227 = .ok (.iadd, 1) := by decide +kernel
theorem dL_law_228 : decode cL_law 228 = .ok (.iaload, 1) := by decide +kernel
theorem dL_law_229 : decode cL_law 229 = .ok (.aload_n 0, 1) := by decide +kernel
theorem dL_law_230 : decode cL_law 230 = .ok (.iload 4, 2) := by decide +kernel
theorem dL_law_232 : decode cL_law 232 = .ok (.iconst 3, 1) := by decide +kernel
theorem dL_law_233 : decode cL_law 233 = .ok (.iadd, 1) := by decide +kernel
theorem dL_law_234 : decode cL_law 234 = .ok (.iaload, 1) := by decide +kernel
theorem dL_law_235 : decode cL_law 235 = .ok (.aload_n 0, 1) := by decide +kernel
theorem dL_law_236 : decode cL_law 236 = .ok (.iload 4, 2) := by decide +kernel
theorem dL_law_238 : decode cL_law 238 = .ok (.iconst 4, 1) := by decide +kernel
theorem dL_law_239 : decode cL_law 239 = .ok (.iadd, 1) := by decide +kernel
theorem dL_law_240 : decode cL_law 240 = .ok (.iaload, 1) := by decide +kernel
theorem dL_law_241 : decode cL_law 241 = .ok (.aload_n 0, 1) := by decide +kernel
theorem dL_law_242 : decode cL_law 242 = .ok (.iload 4, 2) := by decide +kernel
theorem dL_law_244 : decode cL_law 244 = .ok (.iconst 5, 1) := by decide +kernel
theorem dL_law_245 : decode cL_law 245 = .ok (.iadd, 1) := by decide +kernel
theorem dL_law_246 : decode cL_law 246 = .ok (.iaload, 1) := by decide +kernel
theorem dL_law_247 : decode cL_law 247 = .ok (.invokevirtual 19, 3) := by decide +kernel
theorem dL_law_250 : decode cL_law 250 = .ok (.aload_n 2, 1) := by decide +kernel
theorem dL_law_251 : decode cL_law 251 = .ok (.aload_n 0, 1) := by decide +kernel
theorem dL_law_252 : decode cL_law 252 = .ok (.iload 4, 2) := by decide +kernel
theorem dL_law_254 : decode cL_law 254 = .ok (.iconst 1, 1) := by decide +kernel
theorem dL_law_255 : decode cL_law 255 = .ok (.iadd, 1) := by decide +kernel
theorem dL_law_256 : decode cL_law 256 = .ok (.iaload, 1) := by decide +kernel
theorem dL_law_257 : decode cL_law 257 = .ok (.aload_n 0, 1) := by decide +kernel
theorem dL_law_258 : decode cL_law 258 = .ok (.iload 4, 2) := by decide +kernel
theorem dL_law_260 : decode cL_law 260 = .ok (.iconst 2, 1) := by decide +kernel
theorem dL_law_261 : decode cL_law 261 = .ok (.iadd, 1) := by decide +kernel
theorem dL_law_262 : decode cL_law 262 = .ok (.iaload, 1) := by decide +kernel
theorem dL_law_263 : decode cL_law 263 = .ok (.aload_n 0, 1) := by decide +kernel
theorem dL_law_264 : decode cL_law 264 = .ok (.iload 4, 2) := by decide +kernel
theorem dL_law_266 : decode cL_law 266 = .ok (.iconst 3, 1) := by decide +kernel
theorem dL_law_267 : decode cL_law 267 = .ok (.iadd, 1) := by decide +kernel
theorem dL_law_268 : decode cL_law 268 = .ok (.iaload, 1) := by decide +kernel
theorem dL_law_269 : decode cL_law 269 = .ok (.aload_n 0, 1) := by decide +kernel
theorem dL_law_270 : decode cL_law 270 = .ok (.iload 4, 2) := by decide +kernel
theorem dL_law_272 : decode cL_law 272 = .ok (.iconst 4, 1) := by decide +kernel
theorem dL_law_273 : decode cL_law 273 = .ok (.iadd, 1) := by decide +kernel
theorem dL_law_274 : decode cL_law 274 = .ok (.iaload, 1) := by decide +kernel
theorem dL_law_275 : decode cL_law 275 = .ok (.aload_n 0, 1) := by decide +kernel
theorem dL_law_276 : decode cL_law 276 = .ok (.iload 4, 2) := by decide +kernel
theorem dL_law_278 : decode cL_law 278 = .ok (.iconst 5, 1) := by decide +kernel
theorem dL_law_279 : decode cL_law 279 = .ok (.iadd, 1) := by decide +kernel
theorem dL_law_280 : decode cL_law 280 = .ok (.iaload, 1) := by decide +kernel
theorem dL_law_281 : decode cL_law 281 = .ok (.invokevirtual 23, 3) := by decide +kernel
theorem dL_law_284 : decode cL_law 284 = .ok (.if_icmp .eq 1299, 3) := by decide +kernel
theorem dL_law_287 : decode cL_law 287 = .ok (.iconst 0, 1) := by decide +kernel
theorem dL_law_288 : decode cL_law 288 = .ok (.ireturn, 1) := by decide +kernel
theorem dL_law_289 : decode cL_law 289 = .ok (.aload_n 1, 1) := by decide +kernel
theorem dL_law_290 : decode cL_law 290 = .ok (.aload_n 0, 1) := by decide +kernel
theorem dL_law_291 : decode cL_law 291 = .ok (.iload 4, 2) := by decide +kernel
theorem dL_law_293 : decode cL_law 293 = .ok (.iconst 1, 1) := by decide +kernel
theorem dL_law_294 : decode cL_law 294 = .ok (.iadd, 1) := by decide +kernel
theorem dL_law_295 : decode cL_law 295 = .ok (.iaload, 1) := by decide +kernel
theorem dL_law_296 : decode cL_law 296 = .ok (.invokevirtual 24, 3) := by decide +kernel
theorem dL_law_299 : decode cL_law 299 = .ok (.aload_n 2, 1) := by decide +kernel
theorem dL_law_300 : decode cL_law 300 = .ok (.aload_n 0, 1) := by decide +kernel
theorem dL_law_301 : decode cL_law 301 = .ok (.iload 4, 2) := by decide +kernel
theorem dL_law_303 : decode cL_law 303 = .ok (.iconst 1, 1) := by decide +kernel
theorem dL_law_304 : decode cL_law 304 = .ok (.iadd, 1) := by decide +kernel
theorem dL_law_305 : decode cL_law 305 = .ok (.iaload, 1) := by decide +kernel
theorem dL_law_306 : decode cL_law 306 = .ok (.invokevirtual 28, 3) := by decide +kernel
theorem dL_law_309 : decode cL_law 309 = .ok (.if_icmp .eq 1274, 3) := by decide +kernel
theorem dL_law_312 : decode cL_law 312 = .ok (.iconst 0, 1) := by decide +kernel
theorem dL_law_313 : decode cL_law 313 = .ok (.ireturn, 1) := by decide +kernel
theorem dL_law_314 : decode cL_law 314 = .ok (.aload_n 1, 1) := by decide +kernel
theorem dL_law_315 : decode cL_law 315 = .ok (.aload_n 0, 1) := by decide +kernel
theorem dL_law_316 : decode cL_law 316 = .ok (.iload 4, 2) := by decide +kernel
theorem dL_law_318 : decode cL_law 318 = .ok (.iconst 1, 1) := by decide +kernel
theorem dL_law_319 : decode cL_law 319 = .ok (.iadd, 1) := by decide +kernel
theorem dL_law_320 : decode cL_law 320 = .ok (.iaload, 1) := by decide +kernel
theorem dL_law_321 : decode cL_law 321 = .ok (.invokevirtual 29, 3) := by decide +kernel
theorem dL_law_324 : decode cL_law 324 = .ok (.aload_n 2, 1) := by decide +kernel
theorem dL_law_325 : decode cL_law 325 = .ok (.aload_n 0, 1) := by decide +kernel
theorem dL_law_326 : decode cL_law 326 = .ok (.iload 4, 2) := by decide +kernel
theorem dL_law_328 : decode cL_law 328 = .ok (.iconst 1, 1) := by decide +kernel
theorem dL_law_329 : decode cL_law 329 = .ok (.iadd, 1) := by decide +kernel
theorem dL_law_330 : decode cL_law 330 = .ok (.iaload, 1) := by decide +kernel
theorem dL_law_331 : decode cL_law 331 = .ok (.invokevirtual 33, 3) := by decide +kernel
theorem dL_law_334 : decode cL_law 334 = .ok (.if_icmp .eq 1249, 3) := by decide +kernel
theorem dL_law_337 : decode cL_law 337 = .ok (.iconst 0, 1) := by decide +kernel
theorem dL_law_338 : decode cL_law 338 = .ok (.ireturn, 1) := by decide +kernel
theorem dL_law_339 : decode cL_law 339 = .ok (.aload_n 1, 1) := by decide +kernel
theorem dL_law_340 : decode cL_law 340 = .ok (.aload_n 0, 1) := by decide +kernel
theorem dL_law_341 : decode cL_law 341 = .ok (.iload 4, 2) := by decide +kernel
theorem dL_law_343 : decode cL_law 343 = .ok (.iconst 1, 1) := by decide +kernel
theorem dL_law_344 : decode cL_law 344 = .ok (.iadd, 1) := by decide +kernel
theorem dL_law_345 : decode cL_law 345 = .ok (.iaload, 1) := by decide +kernel
theorem dL_law_346 : decode cL_law 346 = .ok (.invokevirtual 34, 3) := by decide +kernel
theorem dL_law_349 : decode cL_law 349 = .ok (.aload_n 2, 1) := by decide +kernel
theorem dL_law_350 : decode cL_law 350 = .ok (.aload_n 0, 1) := by decide +kernel
theorem dL_law_351 : decode cL_law 351 = .ok (.iload 4, 2) := by decide +kernel
theorem dL_law_353 : decode cL_law 353 = .ok (.iconst 1, 1) := by decide +kernel
theorem dL_law_354 : decode cL_law 354 = .ok (.iadd, 1) := by decide +kernel
theorem dL_law_355 : decode cL_law 355 = .ok (.iaload, 1) := by decide +kernel
theorem dL_law_356 : decode cL_law 356 = .ok (.invokevirtual 37, 3) := by decide +kernel
theorem dL_law_359 : decode cL_law 359 = .ok (.if_icmp .eq 1224, 3) := by decide +kernel
theorem dL_law_362 : decode cL_law 362 = .ok (.iconst 0, 1) := by decide +kernel
theorem dL_law_363 : decode cL_law 363 = .ok (.ireturn, 1) := by decide +kernel
theorem dL_law_364 : decode cL_law 364 = .ok (.aload_n 1, 1) := by decide +kernel
theorem dL_law_365 : decode cL_law 365 = .ok (.aload_n 0, 1) := by decide +kernel
theorem dL_law_366 : decode cL_law 366 = .ok (.iload 4, 2) := by decide +kernel
theorem dL_law_368 : decode cL_law 368 = .ok (.iconst 1, 1) := by decide +kernel
theorem dL_law_369 : decode cL_law 369 = .ok (.iadd, 1) := by decide +kernel
theorem dL_law_370 : decode cL_law 370 = .ok (.iaload, 1) := by decide +kernel
theorem dL_law_371 : decode cL_law 371 = .ok (.invokevirtual 38, 3) := by decide +kernel
theorem dL_law_374 : decode cL_law 374 = .ok (.aload_n 2, 1) := by decide +kernel
theorem dL_law_375 : decode cL_law 375 = .ok (.aload_n 0, 1) := by decide +kernel
theorem dL_law_376 : decode cL_law 376 = .ok (.iload 4, 2) := by decide +kernel
theorem dL_law_378 : decode cL_law 378 = .ok (.iconst 1, 1) := by decide +kernel
theorem dL_law_379 : decode cL_law 379 = .ok (.iadd, 1) := by decide +kernel
theorem dL_law_380 : decode cL_law 380 = .ok (.iaload, 1) := by decide +kernel
theorem dL_law_381 : decode cL_law 381 = .ok (.invokevirtual 41, 3) := by decide +kernel
theorem dL_law_384 : decode cL_law 384 = .ok (.if_icmp .eq 1199, 3) := by decide +kernel
theorem dL_law_387 : decode cL_law 387 = .ok (.iconst 0, 1) := by decide +kernel
theorem dL_law_388 : decode cL_law 388 = .ok (.ireturn, 1) := by decide +kernel
theorem dL_law_389 : decode cL_law 389 = .ok (.aload_n 1, 1) := by decide +kernel
theorem dL_law_390 : decode cL_law 390 = .ok (.aload_n 0, 1) := by decide +kernel
theorem dL_law_391 : decode cL_law 391 = .ok (.iload 4, 2) := by decide +kernel
theorem dL_law_393 : decode cL_law 393 = .ok (.iconst 1, 1) := by decide +kernel
theorem dL_law_394 : decode cL_law 394 = .ok (.iadd, 1) := by decide +kernel
theorem dL_law_395 : decode cL_law 395 = .ok (.iaload, 1) := by decide +kernel
theorem dL_law_396 : decode cL_law 396 = .ok (.invokevirtual 42, 3) := by decide +kernel
theorem dL_law_399 : decode cL_law 399 = .ok (.aload_n 2, 1) := by decide +kernel
theorem dL_law_400 : decode cL_law 400 = .ok (.aload_n 0, 1) := by decide +kernel
theorem dL_law_401 : decode cL_law 401 = .ok (.iload 4, 2) := by decide +kernel
theorem dL_law_403 : decode cL_law 403 = .ok (.iconst 1, 1) := by decide +kernel
theorem dL_law_404 : decode cL_law 404 = .ok (.iadd, 1) := by decide +kernel
theorem dL_law_405 : decode cL_law 405 = .ok (.iaload, 1) := by decide +kernel
theorem dL_law_406 : decode cL_law 406 = .ok (.invokevirtual 45, 3) := by decide +kernel
theorem dL_law_409 : decode cL_law 409 = .ok (.if_icmp .eq 1174, 3) := by decide +kernel
theorem dL_law_412 : decode cL_law 412 = .ok (.iconst 0, 1) := by decide +kernel
theorem dL_law_413 : decode cL_law 413 = .ok (.ireturn, 1) := by decide +kernel
theorem dL_law_414 : decode cL_law 414 = .ok (.aload_n 1, 1) := by decide +kernel
theorem dL_law_415 : decode cL_law 415 = .ok (.aload_n 0, 1) := by decide +kernel
theorem dL_law_416 : decode cL_law 416 = .ok (.iload 4, 2) := by decide +kernel
theorem dL_law_418 : decode cL_law 418 = .ok (.iconst 1, 1) := by decide +kernel
theorem dL_law_419 : decode cL_law 419 = .ok (.iadd, 1) := by decide +kernel
theorem dL_law_420 : decode cL_law 420 = .ok (.iaload, 1) := by decide +kernel
theorem dL_law_421 : decode cL_law 421 = .ok (.aload_n 0, 1) := by decide +kernel
theorem dL_law_422 : decode cL_law 422 = .ok (.iload 4, 2) := by decide +kernel
theorem dL_law_424 : decode cL_law 424 = .ok (.iconst 2, 1) := by decide +kernel
theorem dL_law_425 : decode cL_law 425 = .ok (.iadd, 1) := by decide +kernel
theorem dL_law_426 : decode cL_law 426 = .ok (.iaload, 1) := by decide +kernel
theorem dL_law_427 : decode cL_law 427 = .ok (.aload_n 3, 1) := by decide +kernel
theorem dL_law_428 : decode cL_law 428 = .ok (.invokestatic 46, 3) := by decide +kernel
theorem dL_law_431 : decode cL_law 431 = .ok (.istore 5, 2) := by decide +kernel
theorem dL_law_433 : decode cL_law 433 = .ok (.aload_n 2, 1) := by decide +kernel
theorem dL_law_434 : decode cL_law 434 = .ok (.aload_n 0, 1) := by decide +kernel
theorem dL_law_435 : decode cL_law 435 = .ok (.iload 4, 2) := by decide +kernel
theorem dL_law_437 : decode cL_law 437 = .ok (.iconst 1, 1) := by decide +kernel
theorem dL_law_438 : decode cL_law 438 = .ok (.iadd, 1) := by decide +kernel
theorem dL_law_439 : decode cL_law 439 = .ok (.iaload, 1) := by decide +kernel
theorem dL_law_440 : decode cL_law 440 = .ok (.aload_n 0, 1) := by decide +kernel
theorem dL_law_441 : decode cL_law 441 = .ok (.iload 4, 2) := by decide +kernel
theorem dL_law_443 : decode cL_law 443 = .ok (.iconst 2, 1) := by decide +kernel
theorem dL_law_444 : decode cL_law 444 = .ok (.iadd, 1) := by decide +kernel
theorem dL_law_445 : decode cL_law 445 = .ok (.iaload, 1) := by decide +kernel
theorem dL_law_446 : decode cL_law 446 = .ok (.invokevirtual 51, 3) := by decide +kernel
theorem dL_law_449 : decode cL_law 449 = .ok (.istore 6, 2) := by decide +kernel
theorem dL_law_451 : decode cL_law 451 = .ok (.aload_n 2, 1) := by decide +kernel
theorem dL_law_452 : decode cL_law 452 = .ok (.invokevirtual 52, 3) := by decide +kernel
theorem dL_law_455 : decode cL_law 455 = .ok (.iload 5, 2) := by decide +kernel
theorem dL_law_457 : decode cL_law 457 = .ok (.if_icmp .eq 5, 3) := by decide +kernel
theorem dL_law_460 : decode cL_law 460 = .ok (.iconst 0, 1) := by decide +kernel
theorem dL_law_461 : decode cL_law 461 = .ok (.ireturn, 1) := by decide +kernel
theorem dL_law_462 : decode cL_law 462 = .ok (.iload 5, 2) := by decide +kernel
theorem dL_law_464 : decode cL_law 464 = .ok (.ifCond .ne 15, 3) := by decide +kernel
theorem dL_law_467 : decode cL_law 467 = .ok (.aload_n 3, 1) := by decide +kernel
theorem dL_law_468 : decode cL_law 468 = .ok (.iconst 0, 1) := by decide +kernel
theorem dL_law_469 : decode cL_law 469 = .ok (.laload, 1) := by decide +kernel
theorem dL_law_470 : decode cL_law 470 = .ok (.iload 6, 2) := by decide +kernel
theorem dL_law_472 : decode cL_law 472 = .ok (.i2l, 1) := by decide +kernel
theorem dL_law_473 : decode cL_law 473 = .ok (.lcmp, 1) := by decide +kernel
theorem dL_law_474 : decode cL_law 474 = .ok (.ifCond .eq 5, 3) := by decide +kernel
theorem dL_law_477 : decode cL_law 477 = .ok (.iconst 0, 1) := by decide +kernel
theorem dL_law_478 : decode cL_law 478 = .ok (.ireturn, 1) := by decide +kernel
theorem dL_law_479 : decode cL_law 479 = .ok (.goto 1104, 3) := by decide +kernel
theorem dL_law_482 : decode cL_law 482 = .ok (.aload_n 1, 1) := by decide +kernel
theorem dL_law_483 : decode cL_law 483 = .ok (.aload_n 0, 1) := by decide +kernel
theorem dL_law_484 : decode cL_law 484 = .ok (.iload 4, 2) := by decide +kernel
theorem dL_law_486 : decode cL_law 486 = .ok (.iconst 1, 1) := by decide +kernel
theorem dL_law_487 : decode cL_law 487 = .ok (.iadd, 1) := by decide +kernel
theorem dL_law_488 : decode cL_law 488 = .ok (.iaload, 1) := by decide +kernel
theorem dL_law_489 : decode cL_law 489 = .ok (.invokevirtual 56, 3) := by decide +kernel
theorem dL_law_492 : decode cL_law 492 = .ok (.aload_n 2, 1) := by decide +kernel
theorem dL_law_493 : decode cL_law 493 = .ok (.aload_n 0, 1) := by decide +kernel
theorem dL_law_494 : decode cL_law 494 = .ok (.iload 4, 2) := by decide +kernel
theorem dL_law_496 : decode cL_law 496 = .ok (.iconst 1, 1) := by decide +kernel
theorem dL_law_497 : decode cL_law 497 = .ok (.iadd, 1) := by decide +kernel
theorem dL_law_498 : decode cL_law 498 = .ok (.iaload, 1) := by decide +kernel
theorem dL_law_499 : decode cL_law 499 = .ok (.invokevirtual 59, 3) := by decide +kernel
theorem dL_law_502 : decode cL_law 502 = .ok (.if_icmp .eq 1081, 3) := by decide +kernel
theorem dL_law_505 : decode cL_law 505 = .ok (.iconst 0, 1) := by decide +kernel
theorem dL_law_506 : decode cL_law 506 = .ok (.ireturn, 1) := by decide +kernel
theorem dL_law_507 : decode cL_law 507 = .ok (.aload_n 1, 1) := by decide +kernel
theorem dL_law_508 : decode cL_law 508 = .ok (.aload_n 0, 1) := by decide +kernel
theorem dL_law_509 : decode cL_law 509 = .ok (.iload 4, 2) := by decide +kernel
theorem dL_law_511 : decode cL_law 511 = .ok (.iconst 1, 1) := by decide +kernel
theorem dL_law_512 : decode cL_law 512 = .ok (.iadd, 1) := by decide +kernel
theorem dL_law_513 : decode cL_law 513 = .ok (.iaload, 1) := by decide +kernel
theorem dL_law_514 : decode cL_law 514 = .ok (.invokevirtual 60, 3) := by decide +kernel
theorem dL_law_517 : decode cL_law 517 = .ok (.aload_n 2, 1) := by decide +kernel
theorem dL_law_518 : decode cL_law 518 = .ok (.aload_n 0, 1) := by decide +kernel
theorem dL_law_519 : decode cL_law 519 = .ok (.iload 4, 2) := by decide +kernel
theorem dL_law_521 : decode cL_law 521 = .ok (.iconst 1, 1) := by decide +kernel
theorem dL_law_522 : decode cL_law 522 = .ok (.iadd, 1) := by decide +kernel
theorem dL_law_523 : decode cL_law 523 = .ok (.iaload, 1) := by decide +kernel
theorem dL_law_524 : decode cL_law 524 = .ok (.invokevirtual 63, 3) := by decide +kernel
theorem dL_law_527 : decode cL_law 527 = .ok (.if_icmp .eq 1056, 3) := by decide +kernel
theorem dL_law_530 : decode cL_law 530 = .ok (.iconst 0, 1) := by decide +kernel
theorem dL_law_531 : decode cL_law 531 = .ok (.ireturn, 1) := by decide +kernel
theorem dL_law_532 : decode cL_law 532 = .ok (.aload_n 1, 1) := by decide +kernel
theorem dL_law_533 : decode cL_law 533 = .ok (.aload_n 0, 1) := by decide +kernel
theorem dL_law_534 : decode cL_law 534 = .ok (.iload 4, 2) := by decide +kernel
theorem dL_law_536 : decode cL_law 536 = .ok (.iconst 1, 1) := by decide +kernel
theorem dL_law_537 : decode cL_law 537 = .ok (.iadd, 1) := by decide +kernel
theorem dL_law_538 : decode cL_law 538 = .ok (.iaload, 1) := by decide +kernel
theorem dL_law_539 : decode cL_law 539 = .ok (.invokevirtual 64, 3) := by decide +kernel
theorem dL_law_542 : decode cL_law 542 = .ok (.aload_n 2, 1) := by decide +kernel
theorem dL_law_543 : decode cL_law 543 = .ok (.aload_n 0, 1) := by decide +kernel
theorem dL_law_544 : decode cL_law 544 = .ok (.iload 4, 2) := by decide +kernel
theorem dL_law_546 : decode cL_law 546 = .ok (.iconst 1, 1) := by decide +kernel
theorem dL_law_547 : decode cL_law 547 = .ok (.iadd, 1) := by decide +kernel
theorem dL_law_548 : decode cL_law 548 = .ok (.iaload, 1) := by decide +kernel
theorem dL_law_549 : decode cL_law 549 = .ok (.invokevirtual 67, 3) := by decide +kernel
theorem dL_law_552 : decode cL_law 552 = .ok (.if_icmp .eq 1031, 3) := by decide +kernel
theorem dL_law_555 : decode cL_law 555 = .ok (.iconst 0, 1) := by decide +kernel
theorem dL_law_556 : decode cL_law 556 = .ok (.ireturn, 1) := by decide +kernel
theorem dL_law_557 : decode cL_law 557 = .ok (.aload_n 1, 1) := by decide +kernel
theorem dL_law_558 : decode cL_law 558 = .ok (.aload_n 0, 1) := by decide +kernel
theorem dL_law_559 : decode cL_law 559 = .ok (.iload 4, 2) := by decide +kernel
theorem dL_law_561 : decode cL_law 561 = .ok (.iconst 1, 1) := by decide +kernel
theorem dL_law_562 : decode cL_law 562 = .ok (.iadd, 1) := by decide +kernel
theorem dL_law_563 : decode cL_law 563 = .ok (.iaload, 1) := by decide +kernel
theorem dL_law_564 : decode cL_law 564 = .ok (.invokevirtual 68, 3) := by decide +kernel
theorem dL_law_567 : decode cL_law 567 = .ok (.aload_n 2, 1) := by decide +kernel
theorem dL_law_568 : decode cL_law 568 = .ok (.aload_n 0, 1) := by decide +kernel
theorem dL_law_569 : decode cL_law 569 = .ok (.iload 4, 2) := by decide +kernel
theorem dL_law_571 : decode cL_law 571 = .ok (.iconst 1, 1) := by decide +kernel
theorem dL_law_572 : decode cL_law 572 = .ok (.iadd, 1) := by decide +kernel
theorem dL_law_573 : decode cL_law 573 = .ok (.iaload, 1) := by decide +kernel
theorem dL_law_574 : decode cL_law 574 = .ok (.invokevirtual 71, 3) := by decide +kernel
theorem dL_law_577 : decode cL_law 577 = .ok (.if_icmp .eq 1006, 3) := by decide +kernel
theorem dL_law_580 : decode cL_law 580 = .ok (.iconst 0, 1) := by decide +kernel
theorem dL_law_581 : decode cL_law 581 = .ok (.ireturn, 1) := by decide +kernel
theorem dL_law_582 : decode cL_law 582 = .ok (.aload_n 1, 1) := by decide +kernel
theorem dL_law_583 : decode cL_law 583 = .ok (.aload_n 0, 1) := by decide +kernel
theorem dL_law_584 : decode cL_law 584 = .ok (.iload 4, 2) := by decide +kernel
theorem dL_law_586 : decode cL_law 586 = .ok (.iconst 1, 1) := by decide +kernel
theorem dL_law_587 : decode cL_law 587 = .ok (.iadd, 1) := by decide +kernel
theorem dL_law_588 : decode cL_law 588 = .ok (.iaload, 1) := by decide +kernel
theorem dL_law_589 : decode cL_law 589 = .ok (.invokevirtual 72, 3) := by decide +kernel
theorem dL_law_592 : decode cL_law 592 = .ok (.aload_n 2, 1) := by decide +kernel
theorem dL_law_593 : decode cL_law 593 = .ok (.aload_n 0, 1) := by decide +kernel
theorem dL_law_594 : decode cL_law 594 = .ok (.iload 4, 2) := by decide +kernel
theorem dL_law_596 : decode cL_law 596 = .ok (.iconst 1, 1) := by decide +kernel
theorem dL_law_597 : decode cL_law 597 = .ok (.iadd, 1) := by decide +kernel
theorem dL_law_598 : decode cL_law 598 = .ok (.iaload, 1) := by decide +kernel
theorem dL_law_599 : decode cL_law 599 = .ok (.invokevirtual 75, 3) := by decide +kernel
theorem dL_law_602 : decode cL_law 602 = .ok (.if_icmp .eq 981, 3) := by decide +kernel
theorem dL_law_605 : decode cL_law 605 = .ok (.iconst 0, 1) := by decide +kernel
theorem dL_law_606 : decode cL_law 606 = .ok (.ireturn, 1) := by decide +kernel
theorem dL_law_607 : decode cL_law 607 = .ok (.aload_n 1, 1) := by decide +kernel
theorem dL_law_608 : decode cL_law 608 = .ok (.aload_n 0, 1) := by decide +kernel
theorem dL_law_609 : decode cL_law 609 = .ok (.iload 4, 2) := by decide +kernel
theorem dL_law_611 : decode cL_law 611 = .ok (.iconst 1, 1) := by decide +kernel
theorem dL_law_612 : decode cL_law 612 = .ok (.iadd, 1) := by decide +kernel
theorem dL_law_613 : decode cL_law 613 = .ok (.iaload, 1) := by decide +kernel
theorem dL_law_614 : decode cL_law 614 = .ok (.aload_n 0, 1) := by decide +kernel
theorem dL_law_615 : decode cL_law 615 = .ok (.iload 4, 2) := by decide +kernel
theorem dL_law_617 : decode cL_law 617 = .ok (.iconst 2, 1) := by decide +kernel
theorem dL_law_618 : decode cL_law 618 = .ok (.iadd, 1) := by decide +kernel
theorem dL_law_619 : decode cL_law 619 = .ok (.iaload, 1) := by decide +kernel
theorem dL_law_620 : decode cL_law 620 = .ok (.invokevirtual 76, 3) := by decide +kernel
theorem dL_law_623 : decode cL_law 623 = .ok (.aload_n 2, 1) := by decide +kernel
theorem dL_law_624 : decode cL_law 624 = .ok (.aload_n 0, 1) := by decide +kernel
theorem dL_law_625 : decode cL_law 625 = .ok (.iload 4, 2) := by decide +kernel
theorem dL_law_627 : decode cL_law 627 = .ok (.iconst 1, 1) := by decide +kernel
theorem dL_law_628 : decode cL_law 628 = .ok (.iadd, 1) := by decide +kernel
theorem dL_law_629 : decode cL_law 629 = .ok (.iaload, 1) := by decide +kernel
theorem dL_law_630 : decode cL_law 630 = .ok (.aload_n 0, 1) := by decide +kernel
theorem dL_law_631 : decode cL_law 631 = .ok (.iload 4, 2) := by decide +kernel
theorem dL_law_633 : decode cL_law 633 = .ok (.iconst 2, 1) := by decide +kernel
theorem dL_law_634 : decode cL_law 634 = .ok (.iadd, 1) := by decide +kernel
theorem dL_law_635 : decode cL_law 635 = .ok (.iaload, 1) := by decide +kernel
theorem dL_law_636 : decode cL_law 636 = .ok (.invokevirtual 79, 3) := by decide +kernel
theorem dL_law_639 : decode cL_law 639 = .ok (.if_icmp .eq 944, 3) := by decide +kernel
theorem dL_law_642 : decode cL_law 642 = .ok (.iconst 0, 1) := by decide +kernel
theorem dL_law_643 : decode cL_law 643 = .ok (.ireturn, 1) := by decide +kernel
theorem dL_law_644 : decode cL_law 644 = .ok (.aload_n 1, 1) := by decide +kernel
theorem dL_law_645 : decode cL_law 645 = .ok (.aload_n 0, 1) := by decide +kernel
theorem dL_law_646 : decode cL_law 646 = .ok (.iload 4, 2) := by decide +kernel
theorem dL_law_648 : decode cL_law 648 = .ok (.iconst 1, 1) := by decide +kernel
theorem dL_law_649 : decode cL_law 649 = .ok (.iadd, 1) := by decide +kernel
theorem dL_law_650 : decode cL_law 650 = .ok (.iaload, 1) := by decide +kernel
theorem dL_law_651 : decode cL_law 651 = .ok (.invokevirtual 80, 3) := by decide +kernel
theorem dL_law_654 : decode cL_law 654 = .ok (.aload_n 2, 1) := by decide +kernel
theorem dL_law_655 : decode cL_law 655 = .ok (.aload_n 0, 1) := by decide +kernel
theorem dL_law_656 : decode cL_law 656 = .ok (.iload 4, 2) := by decide +kernel
theorem dL_law_658 : decode cL_law 658 = .ok (.iconst 1, 1) := by decide +kernel
theorem dL_law_659 : decode cL_law 659 = .ok (.iadd, 1) := by decide +kernel
theorem dL_law_660 : decode cL_law 660 = .ok (.iaload, 1) := by decide +kernel
theorem dL_law_661 : decode cL_law 661 = .ok (.invokevirtual 83, 3) := by decide +kernel
theorem dL_law_664 : decode cL_law 664 = .ok (.if_icmp .eq 919, 3) := by decide +kernel
theorem dL_law_667 : decode cL_law 667 = .ok (.iconst 0, 1) := by decide +kernel
theorem dL_law_668 : decode cL_law 668 = .ok (.ireturn, 1) := by decide +kernel
theorem dL_law_669 : decode cL_law 669 = .ok (.aload_n 1, 1) := by decide +kernel
theorem dL_law_670 : decode cL_law 670 = .ok (.aload_n 0, 1) := by decide +kernel
theorem dL_law_671 : decode cL_law 671 = .ok (.iload 4, 2) := by decide +kernel
theorem dL_law_673 : decode cL_law 673 = .ok (.iconst 1, 1) := by decide +kernel
theorem dL_law_674 : decode cL_law 674 = .ok (.iadd, 1) := by decide +kernel
theorem dL_law_675 : decode cL_law 675 = .ok (.iaload, 1) := by decide +kernel
theorem dL_law_676 : decode cL_law 676 = .ok (.invokevirtual 84, 3) := by decide +kernel
theorem dL_law_679 : decode cL_law 679 = .ok (.aload_n 2, 1) := by decide +kernel
theorem dL_law_680 : decode cL_law 680 = .ok (.aload_n 0, 1) := by decide +kernel
theorem dL_law_681 : decode cL_law 681 = .ok (.iload 4, 2) := by decide +kernel
theorem dL_law_683 : decode cL_law 683 = .ok (.iconst 1, 1) := by decide +kernel
theorem dL_law_684 : decode cL_law 684 = .ok (.iadd, 1) := by decide +kernel
theorem dL_law_685 : decode cL_law 685 = .ok (.iaload, 1) := by decide +kernel
theorem dL_law_686 : decode cL_law 686 = .ok (.invokevirtual 87, 3) := by decide +kernel
theorem dL_law_689 : decode cL_law 689 = .ok (.if_icmp .eq 894, 3) := by decide +kernel
theorem dL_law_692 : decode cL_law 692 = .ok (.iconst 0, 1) := by decide +kernel
theorem dL_law_693 : decode cL_law 693 = .ok (.ireturn, 1) := by decide +kernel
theorem dL_law_694 : decode cL_law 694 = .ok (.aload_n 1, 1) := by decide +kernel
theorem dL_law_695 : decode cL_law 695 = .ok (.aload_n 0, 1) := by decide +kernel
theorem dL_law_696 : decode cL_law 696 = .ok (.iload 4, 2) := by decide +kernel
theorem dL_law_698 : decode cL_law 698 = .ok (.iconst 1, 1) := by decide +kernel
theorem dL_law_699 : decode cL_law 699 = .ok (.iadd, 1) := by decide +kernel
theorem dL_law_700 : decode cL_law 700 = .ok (.iaload, 1) := by decide +kernel
theorem dL_law_701 : decode cL_law 701 = .ok (.invokevirtual 88, 3) := by decide +kernel
theorem dL_law_704 : decode cL_law 704 = .ok (.aload_n 2, 1) := by decide +kernel
theorem dL_law_705 : decode cL_law 705 = .ok (.aload_n 0, 1) := by decide +kernel
theorem dL_law_706 : decode cL_law 706 = .ok (.iload 4, 2) := by decide +kernel
theorem dL_law_708 : decode cL_law 708 = .ok (.iconst 1, 1) := by decide +kernel
theorem dL_law_709 : decode cL_law 709 = .ok (.iadd, 1) := by decide +kernel
theorem dL_law_710 : decode cL_law 710 = .ok (.iaload, 1) := by decide +kernel
theorem dL_law_711 : decode cL_law 711 = .ok (.invokevirtual 91, 3) := by decide +kernel
theorem dL_law_714 : decode cL_law 714 = .ok (.if_icmp .eq 869, 3) := by decide +kernel
theorem dL_law_717 : decode cL_law 717 = .ok (.iconst 0, 1) := by decide +kernel
theorem dL_law_718 : decode cL_law 718 = .ok (.ireturn, 1) := by decide +kernel
theorem dL_law_719 : decode cL_law 719 = .ok (.aload_n 1, 1) := by decide +kernel
theorem dL_law_720 : decode cL_law 720 = .ok (.aload_n 0, 1) := by decide +kernel
theorem dL_law_721 : decode cL_law 721 = .ok (.iload 4, 2) := by decide +kernel
theorem dL_law_723 : decode cL_law 723 = .ok (.iconst 1, 1) := by decide +kernel
theorem dL_law_724 : decode cL_law 724 = .ok (.iadd, 1) := by decide +kernel
theorem dL_law_725 : decode cL_law 725 = .ok (.iaload, 1) := by decide +kernel
theorem dL_law_726 : decode cL_law 726 = .ok (.invokevirtual 92, 3) := by decide +kernel
theorem dL_law_729 : decode cL_law 729 = .ok (.aload_n 2, 1) := by decide +kernel
theorem dL_law_730 : decode cL_law 730 = .ok (.aload_n 0, 1) := by decide +kernel
theorem dL_law_731 : decode cL_law 731 = .ok (.iload 4, 2) := by decide +kernel
theorem dL_law_733 : decode cL_law 733 = .ok (.iconst 1, 1) := by decide +kernel
theorem dL_law_734 : decode cL_law 734 = .ok (.iadd, 1) := by decide +kernel
theorem dL_law_735 : decode cL_law 735 = .ok (.iaload, 1) := by decide +kernel
theorem dL_law_736 : decode cL_law 736 = .ok (.invokevirtual 95, 3) := by decide +kernel
theorem dL_law_739 : decode cL_law 739 = .ok (.if_icmp .eq 844, 3) := by decide +kernel
theorem dL_law_742 : decode cL_law 742 = .ok (.iconst 0, 1) := by decide +kernel
theorem dL_law_743 : decode cL_law 743 = .ok (.ireturn, 1) := by decide +kernel
theorem dL_law_744 : decode cL_law 744 = .ok (.aload_n 1, 1) := by decide +kernel
theorem dL_law_745 : decode cL_law 745 = .ok (.aload_n 0, 1) := by decide +kernel
theorem dL_law_746 : decode cL_law 746 = .ok (.iload 4, 2) := by decide +kernel
theorem dL_law_748 : decode cL_law 748 = .ok (.iconst 1, 1) := by decide +kernel
theorem dL_law_749 : decode cL_law 749 = .ok (.iadd, 1) := by decide +kernel
theorem dL_law_750 : decode cL_law 750 = .ok (.iaload, 1) := by decide +kernel
theorem dL_law_751 : decode cL_law 751 = .ok (.aload_n 0, 1) := by decide +kernel
theorem dL_law_752 : decode cL_law 752 = .ok (.iload 4, 2) := by decide +kernel
theorem dL_law_754 : decode cL_law 754 = .ok (.iconst 2, 1) := by decide +kernel
theorem dL_law_755 : decode cL_law 755 = .ok (.iadd, 1) := by decide +kernel
theorem dL_law_756 : decode cL_law 756 = .ok (.iaload, 1) := by decide +kernel
theorem dL_law_757 : decode cL_law 757 = .ok (.i2l, 1) := by decide +kernel
theorem dL_law_758 : decode cL_law 758 = .ok (.bipush 32, 2) := by decide +kernel
theorem dL_law_760 : decode cL_law 760 = .ok (.lshl, 1) := by decide +kernel
theorem dL_law_761 : decode cL_law 761 = .ok (.aload_n 0, 1) := by decide +kernel
theorem dL_law_762 : decode cL_law 762 = .ok (.iload 4, 2) := by decide +kernel
theorem dL_law_764 : decode cL_law 764 = .ok (.iconst 3, 1) := by decide +kernel
theorem dL_law_765 : decode cL_law 765 = .ok (.iadd, 1) := by decide +kernel
theorem dL_law_766 : decode cL_law 766 = .ok (.iaload, 1) := by decide +kernel
theorem dL_law_767 : decode cL_law 767 = .ok (.i2l, 1) := by decide +kernel
theorem dL_law_768 : decode cL_law 768 = .ok (.ldc2_w 96, 3) := by decide +kernel
theorem dL_law_771 : decode cL_law 771 = .ok (.land, 1) := by decide +kernel
theorem dL_law_772 : decode cL_law 772 = .ok (.lor, 1) := by decide +kernel
theorem dL_law_773 : decode cL_law 773 = .ok (.invokevirtual 98, 3) := by decide +kernel
theorem dL_law_776 : decode cL_law 776 = .ok (.aload_n 2, 1) := by decide +kernel
theorem dL_law_777 : decode cL_law 777 = .ok (.aload_n 0, 1) := by decide +kernel
theorem dL_law_778 : decode cL_law 778 = .ok (.iload 4, 2) := by decide +kernel
theorem dL_law_780 : decode cL_law 780 = .ok (.iconst 1, 1) := by decide +kernel
theorem dL_law_781 : decode cL_law 781 = .ok (.iadd, 1) := by decide +kernel
theorem dL_law_782 : decode cL_law 782 = .ok (.iaload, 1) := by decide +kernel
theorem dL_law_783 : decode cL_law 783 = .ok (.aload_n 0, 1) := by decide +kernel
theorem dL_law_784 : decode cL_law 784 = .ok (.iload 4, 2) := by decide +kernel
theorem dL_law_786 : decode cL_law 786 = .ok (.iconst 2, 1) := by decide +kernel
theorem dL_law_787 : decode cL_law 787 = .ok (.iadd, 1) := by decide +kernel
theorem dL_law_788 : decode cL_law 788 = .ok (.iaload, 1) := by decide +kernel
theorem dL_law_789 : decode cL_law 789 = .ok (.i2l, 1) := by decide +kernel
theorem dL_law_790 : decode cL_law 790 = .ok (.bipush 32, 2) := by decide +kernel
theorem dL_law_792 : decode cL_law 792 = .ok (.lshl, 1) := by decide +kernel
theorem dL_law_793 : decode cL_law 793 = .ok (.aload_n 0, 1) := by decide +kernel
theorem dL_law_794 : decode cL_law 794 = .ok (.iload 4, 2) := by decide +kernel
theorem dL_law_796 : decode cL_law 796 = .ok (.iconst 3, 1) := by decide +kernel
theorem dL_law_797 : decode cL_law 797 = .ok (.iadd, 1) := by decide +kernel
theorem dL_law_798 : decode cL_law 798 = .ok (.iaload, 1) := by decide +kernel
theorem dL_law_799 : decode cL_law 799 = .ok (.i2l, 1) := by decide +kernel
theorem dL_law_800 : decode cL_law 800 = .ok (.ldc2_w 96, 3) := by decide +kernel
theorem dL_law_803 : decode cL_law 803 = .ok (.land, 1) := by decide +kernel
theorem dL_law_804 : decode cL_law 804 = .ok (.lor, 1) := by decide +kernel
theorem dL_law_805 : decode cL_law 805 = .ok (.invokevirtual 102, 3) := by decide +kernel
theorem dL_law_808 : decode cL_law 808 = .ok (.if_icmp .eq 775, 3) := by decide +kernel
theorem dL_law_811 : decode cL_law 811 = .ok (.iconst 0, 1) := by decide +kernel
theorem dL_law_812 : decode cL_law 812 = .ok (.ireturn, 1) := by decide +kernel
theorem dL_law_813 : decode cL_law 813 = .ok (.aload_n 1, 1) := by decide +kernel
theorem dL_law_814 : decode cL_law 814 = .ok (.aload_n 0, 1) := by decide +kernel
theorem dL_law_815 : decode cL_law 815 = .ok (.iload 4, 2) := by decide +kernel
theorem dL_law_817 : decode cL_law 817 = .ok (.iconst 1, 1) := by decide +kernel
theorem dL_law_818 : decode cL_law 818 = .ok (.iadd, 1) := by decide +kernel
theorem dL_law_819 : decode cL_law 819 = .ok (.iaload, 1) := by decide +kernel
theorem dL_law_820 : decode cL_law 820 = .ok (.invokevirtual 103, 3) := by decide +kernel
theorem dL_law_823 : decode cL_law 823 = .ok (.aload_n 2, 1) := by decide +kernel
theorem dL_law_824 : decode cL_law 824 = .ok (.aload_n 0, 1) := by decide +kernel
theorem dL_law_825 : decode cL_law 825 = .ok (.iload 4, 2) := by decide +kernel
theorem dL_law_827 : decode cL_law 827 = .ok (.iconst 1, 1) := by decide +kernel
theorem dL_law_828 : decode cL_law 828 = .ok (.iadd, 1) := by decide +kernel
theorem dL_law_829 : decode cL_law 829 = .ok (.iaload, 1) := by decide +kernel
theorem dL_law_830 : decode cL_law 830 = .ok (.invokevirtual 106, 3) := by decide +kernel
theorem dL_law_833 : decode cL_law 833 = .ok (.if_icmp .eq 750, 3) := by decide +kernel
theorem dL_law_836 : decode cL_law 836 = .ok (.iconst 0, 1) := by decide +kernel
theorem dL_law_837 : decode cL_law 837 = .ok (.ireturn, 1) := by decide +kernel
theorem dL_law_838 : decode cL_law 838 = .ok (.aload_n 1, 1) := by decide +kernel
theorem dL_law_839 : decode cL_law 839 = .ok (.invokevirtual 107, 3) := by decide +kernel
theorem dL_law_842 : decode cL_law 842 = .ok (.aload_n 2, 1) := by decide +kernel
theorem dL_law_843 : decode cL_law 843 = .ok (.invokevirtual 110, 3) := by decide +kernel
theorem dL_law_846 : decode cL_law 846 = .ok (.if_icmp .eq 737, 3) := by decide +kernel
theorem dL_law_849 : decode cL_law 849 = .ok (.iconst 0, 1) := by decide +kernel
theorem dL_law_850 : decode cL_law 850 = .ok (.ireturn, 1) := by decide +kernel
theorem dL_law_851 : decode cL_law 851 = .ok (.aload_n 1, 1) := by decide +kernel
theorem dL_law_852 : decode cL_law 852 = .ok (.aload_n 0, 1) := by decide +kernel
theorem dL_law_853 : decode cL_law 853 = .ok (.iload 4, 2) := by decide +kernel
theorem dL_law_855 : decode cL_law 855 = .ok (.iconst 1, 1) := by decide +kernel
theorem dL_law_856 : decode cL_law 856 = .ok (.iadd, 1) := by decide +kernel
theorem dL_law_857 : decode cL_law 857 = .ok (.iaload, 1) := by decide +kernel
theorem dL_law_858 : decode cL_law 858 = .ok (.aload_n 0, 1) := by decide +kernel
theorem dL_law_859 : decode cL_law 859 = .ok (.iload 4, 2) := by decide +kernel
theorem dL_law_861 : decode cL_law 861 = .ok (.iconst 2, 1) := by decide +kernel
theorem dL_law_862 : decode cL_law 862 = .ok (.iadd, 1) := by decide +kernel
theorem dL_law_863 : decode cL_law 863 = .ok (.iaload, 1) := by decide +kernel
theorem dL_law_864 : decode cL_law 864 = .ok (.invokevirtual 111, 3) := by decide +kernel
theorem dL_law_867 : decode cL_law 867 = .ok (.aload_n 2, 1) := by decide +kernel
theorem dL_law_868 : decode cL_law 868 = .ok (.aload_n 0, 1) := by decide +kernel
theorem dL_law_869 : decode cL_law 869 = .ok (.iload 4, 2) := by decide +kernel
theorem dL_law_871 : decode cL_law 871 = .ok (.iconst 1, 1) := by decide +kernel
theorem dL_law_872 : decode cL_law 872 = .ok (.iadd, 1) := by decide +kernel
theorem dL_law_873 : decode cL_law 873 = .ok (.iaload, 1) := by decide +kernel
theorem dL_law_874 : decode cL_law 874 = .ok (.aload_n 0, 1) := by decide +kernel
theorem dL_law_875 : decode cL_law 875 = .ok (.iload 4, 2) := by decide +kernel
theorem dL_law_877 : decode cL_law 877 = .ok (.iconst 2, 1) := by decide +kernel
theorem dL_law_878 : decode cL_law 878 = .ok (.iadd, 1) := by decide +kernel
theorem dL_law_879 : decode cL_law 879 = .ok (.iaload, 1) := by decide +kernel
theorem dL_law_880 : decode cL_law 880 = .ok (.invokevirtual 114, 3) := by decide +kernel
theorem dL_law_883 : decode cL_law 883 = .ok (.if_icmp .eq 700, 3) := by decide +kernel
theorem dL_law_886 : decode cL_law 886 = .ok (.iconst 0, 1) := by decide +kernel
theorem dL_law_887 : decode cL_law 887 = .ok (.ireturn, 1) := by decide +kernel
theorem dL_law_888 : decode cL_law 888 = .ok (.aload_n 1, 1) := by decide +kernel
theorem dL_law_889 : decode cL_law 889 = .ok (.aload_n 0, 1) := by decide +kernel
theorem dL_law_890 : decode cL_law 890 = .ok (.iload 4, 2) := by decide +kernel
theorem dL_law_892 : decode cL_law 892 = .ok (.iconst 1, 1) := by decide +kernel
theorem dL_law_893 : decode cL_law 893 = .ok (.iadd, 1) := by decide +kernel
theorem dL_law_894 : decode cL_law 894 = .ok (.iaload, 1) := by decide +kernel
theorem dL_law_895 : decode cL_law 895 = .ok (.aload_n 0, 1) := by decide +kernel
theorem dL_law_896 : decode cL_law 896 = .ok (.iload 4, 2) := by decide +kernel
theorem dL_law_898 : decode cL_law 898 = .ok (.iconst 2, 1) := by decide +kernel
theorem dL_law_899 : decode cL_law 899 = .ok (.iadd, 1) := by decide +kernel
theorem dL_law_900 : decode cL_law 900 = .ok (.iaload, 1) := by decide +kernel
theorem dL_law_901 : decode cL_law 901 = .ok (.invokevirtual 115, 3) := by decide +kernel
theorem dL_law_904 : decode cL_law 904 = .ok (.aload_n 2, 1) := by decide +kernel
theorem dL_law_905 : decode cL_law 905 = .ok (.aload_n 0, 1) := by decide +kernel
theorem dL_law_906 : decode cL_law 906 = .ok (.iload 4, 2) := by decide +kernel
theorem dL_law_908 : decode cL_law 908 = .ok (.iconst 1, 1) := by decide +kernel
theorem dL_law_909 : decode cL_law 909 = .ok (.iadd, 1) := by decide +kernel
theorem dL_law_910 : decode cL_law 910 = .ok (.iaload, 1) := by decide +kernel
theorem dL_law_911 : decode cL_law 911 = .ok (.aload_n 0, 1) := by decide +kernel
theorem dL_law_912 : decode cL_law 912 = .ok (.iload 4, 2) := by decide +kernel
theorem dL_law_914 : decode cL_law 914 = .ok (.iconst 2, 1) := by decide +kernel
theorem dL_law_915 : decode cL_law 915 = .ok (.iadd, 1) := by decide +kernel
theorem dL_law_916 : decode cL_law 916 = .ok (.iaload, 1) := by decide +kernel
theorem dL_law_917 : decode cL_law 917 = .ok (.invokevirtual 118, 3) := by decide +kernel
theorem dL_law_920 : decode cL_law 920 = .ok (.if_icmp .eq 663, 3) := by decide +kernel
theorem dL_law_923 : decode cL_law 923 = .ok (.iconst 0, 1) := by decide +kernel
theorem dL_law_924 : decode cL_law 924 = .ok (.ireturn, 1) := by decide +kernel
theorem dL_law_925 : decode cL_law 925 = .ok (.aload_n 1, 1) := by decide +kernel
theorem dL_law_926 : decode cL_law 926 = .ok (.aload_n 0, 1) := by decide +kernel
theorem dL_law_927 : decode cL_law 927 = .ok (.iload 4, 2) := by decide +kernel
theorem dL_law_929 : decode cL_law 929 = .ok (.iconst 1, 1) := by decide +kernel
theorem dL_law_930 : decode cL_law 930 = .ok (.iadd, 1) := by decide +kernel
theorem dL_law_931 : decode cL_law 931 = .ok (.iaload, 1) := by decide +kernel
theorem dL_law_932 : decode cL_law 932 = .ok (.aload_n 0, 1) := by decide +kernel
theorem dL_law_933 : decode cL_law 933 = .ok (.iload 4, 2) := by decide +kernel
theorem dL_law_935 : decode cL_law 935 = .ok (.iconst 2, 1) := by decide +kernel
theorem dL_law_936 : decode cL_law 936 = .ok (.iadd, 1) := by decide +kernel
theorem dL_law_937 : decode cL_law 937 = .ok (.iaload, 1) := by decide +kernel
theorem dL_law_938 : decode cL_law 938 = .ok (.invokevirtual 119, 3) := by decide +kernel
theorem dL_law_941 : decode cL_law 941 = .ok (.aload_n 2, 1) := by decide +kernel
theorem dL_law_942 : decode cL_law 942 = .ok (.aload_n 0, 1) := by decide +kernel
theorem dL_law_943 : decode cL_law 943 = .ok (.iload 4, 2) := by decide +kernel
theorem dL_law_945 : decode cL_law 945 = .ok (.iconst 1, 1) := by decide +kernel
theorem dL_law_946 : decode cL_law 946 = .ok (.iadd, 1) := by decide +kernel
theorem dL_law_947 : decode cL_law 947 = .ok (.iaload, 1) := by decide +kernel
theorem dL_law_948 : decode cL_law 948 = .ok (.aload_n 0, 1) := by decide +kernel
theorem dL_law_949 : decode cL_law 949 = .ok (.iload 4, 2) := by decide +kernel
theorem dL_law_951 : decode cL_law 951 = .ok (.iconst 2, 1) := by decide +kernel
theorem dL_law_952 : decode cL_law 952 = .ok (.iadd, 1) := by decide +kernel
theorem dL_law_953 : decode cL_law 953 = .ok (.iaload, 1) := by decide +kernel
theorem dL_law_954 : decode cL_law 954 = .ok (.invokevirtual 122, 3) := by decide +kernel
theorem dL_law_957 : decode cL_law 957 = .ok (.if_icmp .eq 626, 3) := by decide +kernel
theorem dL_law_960 : decode cL_law 960 = .ok (.iconst 0, 1) := by decide +kernel
theorem dL_law_961 : decode cL_law 961 = .ok (.ireturn, 1) := by decide +kernel
theorem dL_law_962 : decode cL_law 962 = .ok (.aload_n 1, 1) := by decide +kernel
theorem dL_law_963 : decode cL_law 963 = .ok (.aload_n 0, 1) := by decide +kernel
theorem dL_law_964 : decode cL_law 964 = .ok (.iload 4, 2) := by decide +kernel
theorem dL_law_966 : decode cL_law 966 = .ok (.iconst 1, 1) := by decide +kernel
theorem dL_law_967 : decode cL_law 967 = .ok (.iadd, 1) := by decide +kernel
theorem dL_law_968 : decode cL_law 968 = .ok (.iaload, 1) := by decide +kernel
theorem dL_law_969 : decode cL_law 969 = .ok (.aload_n 0, 1) := by decide +kernel
theorem dL_law_970 : decode cL_law 970 = .ok (.iload 4, 2) := by decide +kernel
theorem dL_law_972 : decode cL_law 972 = .ok (.iconst 2, 1) := by decide +kernel
theorem dL_law_973 : decode cL_law 973 = .ok (.iadd, 1) := by decide +kernel
theorem dL_law_974 : decode cL_law 974 = .ok (.iaload, 1) := by decide +kernel
theorem dL_law_975 : decode cL_law 975 = .ok (.aload_n 0, 1) := by decide +kernel
theorem dL_law_976 : decode cL_law 976 = .ok (.iload 4, 2) := by decide +kernel
theorem dL_law_978 : decode cL_law 978 = .ok (.iconst 3, 1) := by decide +kernel
theorem dL_law_979 : decode cL_law 979 = .ok (.iadd, 1) := by decide +kernel
theorem dL_law_980 : decode cL_law 980 = .ok (.iaload, 1) := by decide +kernel
theorem dL_law_981 : decode cL_law 981 = .ok (.invokevirtual 123, 3) := by decide +kernel
theorem dL_law_984 : decode cL_law 984 = .ok (.aload_n 2, 1) := by decide +kernel
theorem dL_law_985 : decode cL_law 985 = .ok (.aload_n 0, 1) := by decide +kernel
theorem dL_law_986 : decode cL_law 986 = .ok (.iload 4, 2) := by decide +kernel
theorem dL_law_988 : decode cL_law 988 = .ok (.iconst 1, 1) := by decide +kernel
theorem dL_law_989 : decode cL_law 989 = .ok (.iadd, 1) := by decide +kernel
theorem dL_law_990 : decode cL_law 990 = .ok (.iaload, 1) := by decide +kernel
theorem dL_law_991 : decode cL_law 991 = .ok (.aload_n 0, 1) := by decide +kernel
theorem dL_law_992 : decode cL_law 992 = .ok (.iload 4, 2) := by decide +kernel
theorem dL_law_994 : decode cL_law 994 = .ok (.iconst 2, 1) := by decide +kernel
theorem dL_law_995 : decode cL_law 995 = .ok (.iadd, 1) := by decide +kernel
theorem dL_law_996 : decode cL_law 996 = .ok (.iaload, 1) := by decide +kernel
theorem dL_law_997 : decode cL_law 997 = .ok (.aload_n 0, 1) := by decide +kernel
theorem dL_law_998 : decode cL_law 998 = .ok (.iload 4, 2) := by decide +kernel
theorem dL_law_1000 : decode cL_law 1000 = .ok (.iconst 3, 1) := by decide +kernel
theorem dL_law_1001 : decode cL_law 1001 = .ok (.iadd, 1) := by decide +kernel
theorem dL_law_1002 : decode cL_law 1002 = .ok (.iaload, 1) := by decide +kernel
theorem dL_law_1003 : decode cL_law 1003 = .ok (.invokevirtual 127, 3) := by decide +kernel
theorem dL_law_1006 : decode cL_law 1006 = .ok (.if_icmp .eq 577, 3) := by decide +kernel
theorem dL_law_1009 : decode cL_law 1009 = .ok (.iconst 0, 1) := by decide +kernel
theorem dL_law_1010 : decode cL_law 1010 = .ok (.ireturn, 1) := by decide +kernel
theorem dL_law_1011 : decode cL_law 1011 = .ok (.aload_n 1, 1) := by decide +kernel
theorem dL_law_1012 : decode cL_law 1012 = .ok (.aload_n 0, 1) := by decide +kernel
theorem dL_law_1013 : decode cL_law 1013 = .ok (.iload 4, 2) := by decide +kernel
theorem dL_law_1015 : decode cL_law 1015 = .ok (.iconst 1, 1) := by decide +kernel
theorem dL_law_1016 : decode cL_law 1016 = .ok (.iadd, 1) := by decide +kernel
theorem dL_law_1017 : decode cL_law 1017 = .ok (.iaload, 1) := by decide +kernel
theorem dL_law_1018 : decode cL_law 1018 = .ok (.aload_n 0, 1) := by decide +kernel
theorem dL_law_1019 : decode cL_law 1019 = .ok (.iload 4, 2) := by decide +kernel
theorem dL_law_1021 : decode cL_law 1021 = .ok (.iconst 2, 1) := by decide +kernel
theorem dL_law_1022 : decode cL_law 1022 = .ok (.iadd, 1) := by decide +kernel
theorem dL_law_1023 : decode cL_law 1023 = .ok (.iaload, 1) := by decide +kernel
theorem dL_law_1024 : decode cL_law 1024 = .ok (.invokevirtual 128, 3) := by decide +kernel
theorem dL_law_1027 : decode cL_law 1027 = .ok (.aload_n 2, 1) := by decide +kernel
theorem dL_law_1028 : decode cL_law 1028 = .ok (.aload_n 0, 1) := by decide +kernel
theorem dL_law_1029 : decode cL_law 1029 = .ok (.iload 4, 2) := by decide +kernel
theorem dL_law_1031 : decode cL_law 1031 = .ok (.iconst 1, 1) := by decide +kernel
theorem dL_law_1032 : decode cL_law 1032 = .ok (.iadd, 1) := by decide +kernel
theorem dL_law_1033 : decode cL_law 1033 = .ok (.iaload, 1) := by decide +kernel
theorem dL_law_1034 : decode cL_law 1034 = .ok (.aload_n 0, 1) := by decide +kernel
theorem dL_law_1035 : decode cL_law 1035 = .ok (.iload 4, 2) := by decide +kernel
theorem dL_law_1037 : decode cL_law 1037 = .ok (.iconst 2, 1) := by decide +kernel
theorem dL_law_1038 : decode cL_law 1038 = .ok (.iadd, 1) := by decide +kernel
theorem dL_law_1039 : decode cL_law 1039 = .ok (.iaload, 1) := by decide +kernel
theorem dL_law_1040 : decode cL_law 1040 = .ok (.invokevirtual 131, 3) := by decide +kernel
theorem dL_law_1043 : decode cL_law 1043 = .ok (.if_icmp .eq 540, 3) := by decide +kernel
theorem dL_law_1046 : decode cL_law 1046 = .ok (.iconst 0, 1) := by decide +kernel
theorem dL_law_1047 : decode cL_law 1047 = .ok (.ireturn, 1) := by decide +kernel
theorem dL_law_1048 : decode cL_law 1048 = .ok (.aload_n 1, 1) := by decide +kernel
theorem dL_law_1049 : decode cL_law 1049 = .ok (.invokevirtual 132, 3) := by decide +kernel
theorem dL_law_1052 : decode cL_law 1052 = .ok (.aload_n 2, 1) := by decide +kernel
theorem dL_law_1053 : decode cL_law 1053 = .ok (.invokevirtual 135, 3) := by decide +kernel
theorem dL_law_1056 : decode cL_law 1056 = .ok (.if_icmp .eq 527, 3) := by decide +kernel
theorem dL_law_1059 : decode cL_law 1059 = .ok (.iconst 0, 1) := by decide +kernel
theorem dL_law_1060 : decode cL_law 1060 = .ok (.ireturn, 1) := by decide +kernel
theorem dL_law_1061 : decode cL_law 1061 = .ok (.aload_n 1, 1) := by decide +kernel
theorem dL_law_1062 : decode cL_law 1062 = .ok (.aload_n 0, 1) := by decide +kernel
theorem dL_law_1063 : decode cL_law 1063 = .ok (.iload 4, 2) := by decide +kernel
theorem dL_law_1065 : decode cL_law 1065 = .ok (.iconst 1, 1) := by decide +kernel
theorem dL_law_1066 : decode cL_law 1066 = .ok (.iadd, 1) := by decide +kernel
theorem dL_law_1067 : decode cL_law 1067 = .ok (.iaload, 1) := by decide +kernel
theorem dL_law_1068 : decode cL_law 1068 = .ok (.aload_n 0, 1) := by decide +kernel
theorem dL_law_1069 : decode cL_law 1069 = .ok (.iload 4, 2) := by decide +kernel
theorem dL_law_1071 : decode cL_law 1071 = .ok (.iconst 2, 1) := by decide +kernel
theorem dL_law_1072 : decode cL_law 1072 = .ok (.iadd, 1) := by decide +kernel
theorem dL_law_1073 : decode cL_law 1073 = .ok (.iaload, 1) := by decide +kernel
theorem dL_law_1074 : decode cL_law 1074 = .ok (.aload_n 0, 1) := by decide +kernel
theorem dL_law_1075 : decode cL_law 1075 = .ok (.iload 4, 2) := by decide +kernel
theorem dL_law_1077 : decode cL_law 1077 = .ok (.iconst 3, 1) := by decide +kernel
theorem dL_law_1078 : decode cL_law 1078 = .ok (.iadd, 1) := by decide +kernel
theorem dL_law_1079 : decode cL_law 1079 = .ok (.iaload, 1) := by decide +kernel
theorem dL_law_1080 : decode cL_law 1080 = .ok (.invokevirtual 136, 3) := by decide +kernel
theorem dL_law_1083 : decode cL_law 1083 = .ok (.aload_n 2, 1) := by decide +kernel
theorem dL_law_1084 : decode cL_law 1084 = .ok (.aload_n 0, 1) := by decide +kernel
theorem dL_law_1085 : decode cL_law 1085 = .ok (.iload 4, 2) := by decide +kernel
theorem dL_law_1087 : decode cL_law 1087 = .ok (.iconst 1, 1) := by decide +kernel
theorem dL_law_1088 : decode cL_law 1088 = .ok (.iadd, 1) := by decide +kernel
theorem dL_law_1089 : decode cL_law 1089 = .ok (.iaload, 1) := by decide +kernel
theorem dL_law_1090 : decode cL_law 1090 = .ok (.aload_n 0, 1) := by decide +kernel
theorem dL_law_1091 : decode cL_law 1091 = .ok (.iload 4, 2) := by decide +kernel
theorem dL_law_1093 : decode cL_law 1093 = .ok (.iconst 2, 1) := by decide +kernel
theorem dL_law_1094 : decode cL_law 1094 = .ok (.iadd, 1) := by decide +kernel
theorem dL_law_1095 : decode cL_law 1095 = .ok (.iaload, 1) := by decide +kernel
theorem dL_law_1096 : decode cL_law 1096 = .ok (.aload_n 0, 1) := by decide +kernel
theorem dL_law_1097 : decode cL_law 1097 = .ok (.iload 4, 2) := by decide +kernel
theorem dL_law_1099 : decode cL_law 1099 = .ok (.iconst 3, 1) := by decide +kernel
theorem dL_law_1100 : decode cL_law 1100 = .ok (.iadd, 1) := by decide +kernel
theorem dL_law_1101 : decode cL_law 1101 = .ok (.iaload, 1) := by decide +kernel
theorem dL_law_1102 : decode cL_law 1102 = .ok (.invokevirtual 139, 3) := by decide +kernel
theorem dL_law_1105 : decode cL_law 1105 = .ok (.if_icmp .eq 478, 3) := by decide +kernel
theorem dL_law_1108 : decode cL_law 1108 = .ok (.iconst 0, 1) := by decide +kernel
theorem dL_law_1109 : decode cL_law 1109 = .ok (.ireturn, 1) := by decide +kernel
theorem dL_law_1110 : decode cL_law 1110 = .ok (.aload_n 1, 1) := by decide +kernel
theorem dL_law_1111 : decode cL_law 1111 = .ok (.aload_n 0, 1) := by decide +kernel
theorem dL_law_1112 : decode cL_law 1112 = .ok (.iload 4, 2) := by decide +kernel
theorem dL_law_1114 : decode cL_law 1114 = .ok (.iconst 1, 1) := by decide +kernel
theorem dL_law_1115 : decode cL_law 1115 = .ok (.iadd, 1) := by decide +kernel
theorem dL_law_1116 : decode cL_law 1116 = .ok (.iaload, 1) := by decide +kernel
theorem dL_law_1117 : decode cL_law 1117 = .ok (.invokevirtual 140, 3) := by decide +kernel
theorem dL_law_1120 : decode cL_law 1120 = .ok (.aload_n 2, 1) := by decide +kernel
theorem dL_law_1121 : decode cL_law 1121 = .ok (.aload_n 0, 1) := by decide +kernel
theorem dL_law_1122 : decode cL_law 1122 = .ok (.iload 4, 2) := by decide +kernel
theorem dL_law_1124 : decode cL_law 1124 = .ok (.iconst 1, 1) := by decide +kernel
theorem dL_law_1125 : decode cL_law 1125 = .ok (.iadd, 1) := by decide +kernel
theorem dL_law_1126 : decode cL_law 1126 = .ok (.iaload, 1) := by decide +kernel
theorem dL_law_1127 : decode cL_law 1127 = .ok (.invokevirtual 143, 3) := by decide +kernel
theorem dL_law_1130 : decode cL_law 1130 = .ok (.if_icmp .eq 453, 3) := by decide +kernel
theorem dL_law_1133 : decode cL_law 1133 = .ok (.iconst 0, 1) := by decide +kernel
theorem dL_law_1134 : decode cL_law 1134 = .ok (.ireturn, 1) := by decide +kernel
theorem dL_law_1135 : decode cL_law 1135 = .ok (.aload_n 1, 1) := by decide +kernel
theorem dL_law_1136 : decode cL_law 1136 = .ok (.aload_n 0, 1) := by decide +kernel
theorem dL_law_1137 : decode cL_law 1137 = .ok (.iload 4, 2) := by decide +kernel
theorem dL_law_1139 : decode cL_law 1139 = .ok (.iconst 1, 1) := by decide +kernel
theorem dL_law_1140 : decode cL_law 1140 = .ok (.iadd, 1) := by decide +kernel
theorem dL_law_1141 : decode cL_law 1141 = .ok (.iaload, 1) := by decide +kernel
theorem dL_law_1142 : decode cL_law 1142 = .ok (.aload_n 0, 1) := by decide +kernel
theorem dL_law_1143 : decode cL_law 1143 = .ok (.iload 4, 2) := by decide +kernel
theorem dL_law_1145 : decode cL_law 1145 = .ok (.iconst 2, 1) := by decide +kernel
theorem dL_law_1146 : decode cL_law 1146 = .ok (.iadd, 1) := by decide +kernel
theorem dL_law_1147 : decode cL_law 1147 = .ok (.iaload, 1) := by decide +kernel
theorem dL_law_1148 : decode cL_law 1148 = .ok (.aload_n 0, 1) := by decide +kernel
theorem dL_law_1149 : decode cL_law 1149 = .ok (.iload 4, 2) := by decide +kernel
theorem dL_law_1151 : decode cL_law 1151 = .ok (.iconst 3, 1) := by decide +kernel
theorem dL_law_1152 : decode cL_law 1152 = .ok (.iadd, 1) := by decide +kernel
theorem dL_law_1153 : decode cL_law 1153 = .ok (.iaload, 1) := by decide +kernel
theorem dL_law_1154 : decode cL_law 1154 = .ok (.ifCond .eq 7, 3) := by decide +kernel
theorem dL_law_1157 : decode cL_law 1157 = .ok (.iconst 1, 1) := by decide +kernel
theorem dL_law_1158 : decode cL_law 1158 = .ok (.goto 4, 3) := by decide +kernel
theorem dL_law_1161 : decode cL_law 1161 = .ok (.iconst 0, 1) := by decide +kernel
theorem dL_law_1162 : decode cL_law 1162 = .ok (.invokevirtual 144, 3) := by decide +kernel
theorem dL_law_1165 : decode cL_law 1165 = .ok (.aload_n 2, 1) := by decide +kernel
theorem dL_law_1166 : decode cL_law 1166 = .ok (.aload_n 0, 1) := by decide +kernel
theorem dL_law_1167 : decode cL_law 1167 = .ok (.iload 4, 2) := by decide +kernel
theorem dL_law_1169 : decode cL_law 1169 = .ok (.iconst 1, 1) := by decide +kernel
theorem dL_law_1170 : decode cL_law 1170 = .ok (.iadd, 1) := by decide +kernel
theorem dL_law_1171 : decode cL_law 1171 = .ok (.iaload, 1) := by decide +kernel
theorem dL_law_1172 : decode cL_law 1172 = .ok (.aload_n 0, 1) := by decide +kernel
theorem dL_law_1173 : decode cL_law 1173 = .ok (.iload 4, 2) := by decide +kernel
theorem dL_law_1175 : decode cL_law 1175 = .ok (.iconst 2, 1) := by decide +kernel
theorem dL_law_1176 : decode cL_law 1176 = .ok (.iadd, 1) := by decide +kernel
theorem dL_law_1177 : decode cL_law 1177 = .ok (.iaload, 1) := by decide +kernel
theorem dL_law_1178 : decode cL_law 1178 = .ok (.aload_n 0, 1) := by decide +kernel
theorem dL_law_1179 : decode cL_law 1179 = .ok (.iload 4, 2) := by decide +kernel
theorem dL_law_1181 : decode cL_law 1181 = .ok (.iconst 3, 1) := by decide +kernel
theorem dL_law_1182 : decode cL_law 1182 = .ok (.iadd, 1) := by decide +kernel
theorem dL_law_1183 : decode cL_law 1183 = .ok (.iaload, 1) := by decide +kernel
theorem dL_law_1184 : decode cL_law 1184 = .ok (.ifCond .eq 7, 3) := by decide +kernel
theorem dL_law_1187 : decode cL_law 1187 = .ok (.iconst 1, 1) := by decide +kernel
theorem dL_law_1188 : decode cL_law 1188 = .ok (.goto 4, 3) := by decide +kernel
theorem dL_law_1191 : decode cL_law 1191 = .ok (.iconst 0, 1) := by decide +kernel
theorem dL_law_1192 : decode cL_law 1192 = .ok (.invokevirtual 148, 3) := by decide +kernel
theorem dL_law_1195 : decode cL_law 1195 = .ok (.if_icmp .eq 388, 3) := by decide +kernel
theorem dL_law_1198 : decode cL_law 1198 = .ok (.iconst 0, 1) := by decide +kernel
theorem dL_law_1199 : decode cL_law 1199 = .ok (.ireturn, 1) := by decide +kernel
theorem dL_law_1200 : decode cL_law 1200 = .ok (.aload_n 1, 1) := by decide +kernel
theorem dL_law_1201 : decode cL_law 1201 = .ok (.aload_n 0, 1) := by decide +kernel
theorem dL_law_1202 : decode cL_law 1202 = .ok (.iload 4, 2) := by decide +kernel
theorem dL_law_1204 : decode cL_law 1204 = .ok (.iconst 1, 1) := by decide +kernel
theorem dL_law_1205 : decode cL_law 1205 = .ok (.iadd, 1) := by decide +kernel
theorem dL_law_1206 : decode cL_law 1206 = .ok (.iaload, 1) := by decide +kernel
theorem dL_law_1207 : decode cL_law 1207 = .ok (.aload_n 0, 1) := by decide +kernel
theorem dL_law_1208 : decode cL_law 1208 = .ok (.iload 4, 2) := by decide +kernel
theorem dL_law_1210 : decode cL_law 1210 = .ok (.iconst 2, 1) := by decide +kernel
theorem dL_law_1211 : decode cL_law 1211 = .ok (.iadd, 1) := by decide +kernel
theorem dL_law_1212 : decode cL_law 1212 = .ok (.iaload, 1) := by decide +kernel
theorem dL_law_1213 : decode cL_law 1213 = .ok (.invokevirtual 149, 3) := by decide +kernel
theorem dL_law_1216 : decode cL_law 1216 = .ok (.aload_n 2, 1) := by decide +kernel
theorem dL_law_1217 : decode cL_law 1217 = .ok (.aload_n 0, 1) := by decide +kernel
theorem dL_law_1218 : decode cL_law 1218 = .ok (.iload 4, 2) := by decide +kernel
theorem dL_law_1220 : decode cL_law 1220 = .ok (.iconst 1, 1) := by decide +kernel
theorem dL_law_1221 : decode cL_law 1221 = .ok (.iadd, 1) := by decide +kernel
theorem dL_law_1222 : decode cL_law 1222 = .ok (.iaload, 1) := by decide +kernel
theorem dL_law_1223 : decode cL_law 1223 = .ok (.aload_n 0, 1) := by decide +kernel
theorem dL_law_1224 : decode cL_law 1224 = .ok (.iload 4, 2) := by decide +kernel
theorem dL_law_1226 : decode cL_law 1226 = .ok (.iconst 2, 1) := by decide +kernel
theorem dL_law_1227 : decode cL_law 1227 = .ok (.iadd, 1) := by decide +kernel
theorem dL_law_1228 : decode cL_law 1228 = .ok (.iaload, 1) := by decide +kernel
theorem dL_law_1229 : decode cL_law 1229 = .ok (.invokevirtual 152, 3) := by decide +kernel
theorem dL_law_1232 : decode cL_law 1232 = .ok (.if_icmp .eq 351, 3) := by decide +kernel
theorem dL_law_1235 : decode cL_law 1235 = .ok (.iconst 0, 1) := by decide +kernel
theorem dL_law_1236 : decode cL_law 1236 = .ok (.ireturn, 1) := by decide +kernel
theorem dL_law_1237 : decode cL_law 1237 = .ok (.aload_n 1, 1) := by decide +kernel
theorem dL_law_1238 : decode cL_law 1238 = .ok (.aload_n 0, 1) := by decide +kernel
theorem dL_law_1239 : decode cL_law 1239 = .ok (.iload 4, 2) := by decide +kernel
theorem dL_law_1241 : decode cL_law 1241 = .ok (.iconst 1, 1) := by decide +kernel
theorem dL_law_1242 : decode cL_law 1242 = .ok (.iadd, 1) := by decide +kernel
theorem dL_law_1243 : decode cL_law 1243 = .ok (.iaload, 1) := by decide +kernel
theorem dL_law_1244 : decode cL_law 1244 = .ok (.invokevirtual 153, 3) := by decide +kernel
theorem dL_law_1247 : decode cL_law 1247 = .ok (.aload_n 2, 1) := by decide +kernel
theorem dL_law_1248 : decode cL_law 1248 = .ok (.aload_n 0, 1) := by decide +kernel
theorem dL_law_1249 : decode cL_law 1249 = .ok (.iload 4, 2) := by decide +kernel
theorem dL_law_1251 : decode cL_law 1251 = .ok (.iconst 1, 1) := by decide +kernel
theorem dL_law_1252 : decode cL_law 1252 = .ok (.iadd, 1) := by decide +kernel
theorem dL_law_1253 : decode cL_law 1253 = .ok (.iaload, 1) := by decide +kernel
theorem dL_law_1254 : decode cL_law 1254 = .ok (.invokevirtual 156, 3) := by decide +kernel
theorem dL_law_1257 : decode cL_law 1257 = .ok (.if_icmp .eq 326, 3) := by decide +kernel
theorem dL_law_1260 : decode cL_law 1260 = .ok (.iconst 0, 1) := by decide +kernel
theorem dL_law_1261 : decode cL_law 1261 = .ok (.ireturn, 1) := by decide +kernel
theorem dL_law_1262 : decode cL_law 1262 = .ok (.aload_n 1, 1) := by decide +kernel
theorem dL_law_1263 : decode cL_law 1263 = .ok (.aload_n 0, 1) := by decide +kernel
theorem dL_law_1264 : decode cL_law 1264 = .ok (.iload 4, 2) := by decide +kernel
theorem dL_law_1266 : decode cL_law 1266 = .ok (.iconst 1, 1) := by decide +kernel
theorem dL_law_1267 : decode cL_law 1267 = .ok (.iadd, 1) := by decide +kernel
theorem dL_law_1268 : decode cL_law 1268 = .ok (.iaload, 1) := by decide +kernel
theorem dL_law_1269 : decode cL_law 1269 = .ok (.aload_n 0, 1) := by decide +kernel
theorem dL_law_1270 : decode cL_law 1270 = .ok (.iload 4, 2) := by decide +kernel
theorem dL_law_1272 : decode cL_law 1272 = .ok (.iconst 2, 1) := by decide +kernel
theorem dL_law_1273 : decode cL_law 1273 = .ok (.iadd, 1) := by decide +kernel
theorem dL_law_1274 : decode cL_law 1274 = .ok (.iaload, 1) := by decide +kernel
theorem dL_law_1275 : decode cL_law 1275 = .ok (.invokevirtual 157, 3) := by decide +kernel
theorem dL_law_1278 : decode cL_law 1278 = .ok (.aload_n 2, 1) := by decide +kernel
theorem dL_law_1279 : decode cL_law 1279 = .ok (.aload_n 0, 1) := by decide +kernel
theorem dL_law_1280 : decode cL_law 1280 = .ok (.iload 4, 2) := by decide +kernel
theorem dL_law_1282 : decode cL_law 1282 = .ok (.iconst 1, 1) := by decide +kernel
theorem dL_law_1283 : decode cL_law 1283 = .ok (.iadd, 1) := by decide +kernel
theorem dL_law_1284 : decode cL_law 1284 = .ok (.iaload, 1) := by decide +kernel
theorem dL_law_1285 : decode cL_law 1285 = .ok (.aload_n 0, 1) := by decide +kernel
theorem dL_law_1286 : decode cL_law 1286 = .ok (.iload 4, 2) := by decide +kernel
theorem dL_law_1288 : decode cL_law 1288 = .ok (.iconst 2, 1) := by decide +kernel
theorem dL_law_1289 : decode cL_law 1289 = .ok (.iadd, 1) := by decide +kernel
theorem dL_law_1290 : decode cL_law 1290 = .ok (.iaload, 1) := by decide +kernel
theorem dL_law_1291 : decode cL_law 1291 = .ok (.invokevirtual 160, 3) := by decide +kernel
theorem dL_law_1294 : decode cL_law 1294 = .ok (.if_icmp .eq 289, 3) := by decide +kernel
theorem dL_law_1297 : decode cL_law 1297 = .ok (.iconst 0, 1) := by decide +kernel
theorem dL_law_1298 : decode cL_law 1298 = .ok (.ireturn, 1) := by decide +kernel
theorem dL_law_1299 : decode cL_law 1299 = .ok (.aload_n 1, 1) := by decide +kernel
theorem dL_law_1300 : decode cL_law 1300 = .ok (.aload_n 0, 1) := by decide +kernel
theorem dL_law_1301 : decode cL_law 1301 = .ok (.iload 4, 2) := by decide +kernel
theorem dL_law_1303 : decode cL_law 1303 = .ok (.iconst 1, 1) := by decide +kernel
theorem dL_law_1304 : decode cL_law 1304 = .ok (.iadd, 1) := by decide +kernel
theorem dL_law_1305 : decode cL_law 1305 = .ok (.iaload, 1) := by decide +kernel
theorem dL_law_1306 : decode cL_law 1306 = .ok (.aload_n 0, 1) := by decide +kernel
theorem dL_law_1307 : decode cL_law 1307 = .ok (.iload 4, 2) := by decide +kernel
theorem dL_law_1309 : decode cL_law 1309 = .ok (.iconst 2, 1) := by decide +kernel
theorem dL_law_1310 : decode cL_law 1310 = .ok (.iadd, 1) := by decide +kernel
theorem dL_law_1311 : decode cL_law 1311 = .ok (.iaload, 1) := by decide +kernel
theorem dL_law_1312 : decode cL_law 1312 = .ok (.aload_n 0, 1) := by decide +kernel
theorem dL_law_1313 : decode cL_law 1313 = .ok (.iload 4, 2) := by decide +kernel
theorem dL_law_1315 : decode cL_law 1315 = .ok (.iconst 3, 1) := by decide +kernel
theorem dL_law_1316 : decode cL_law 1316 = .ok (.iadd, 1) := by decide +kernel
theorem dL_law_1317 : decode cL_law 1317 = .ok (.iaload, 1) := by decide +kernel
theorem dL_law_1318 : decode cL_law 1318 = .ok (.aload_n 0, 1) := by decide +kernel
theorem dL_law_1319 : decode cL_law 1319 = .ok (.iload 4, 2) := by decide +kernel
theorem dL_law_1321 : decode cL_law 1321 = .ok (.iconst 4, 1) := by decide +kernel
theorem dL_law_1322 : decode cL_law 1322 = .ok (.iadd, 1) := by decide +kernel
theorem dL_law_1323 : decode cL_law 1323 = .ok (.iaload, 1) := by decide +kernel
theorem dL_law_1324 : decode cL_law 1324 = .ok (.aload_n 0, 1) := by decide +kernel
theorem dL_law_1325 : decode cL_law 1325 = .ok (.iload 4, 2) := by decide +kernel
theorem dL_law_1327 : decode cL_law 1327 = .ok (.iconst 5, 1) := by decide +kernel
theorem dL_law_1328 : decode cL_law 1328 = .ok (.iadd, 1) := by decide +kernel
theorem dL_law_1329 : decode cL_law 1329 = .ok (.iaload, 1) := by decide +kernel
theorem dL_law_1330 : decode cL_law 1330 = .ok (.invokevirtual 161, 3) := by decide +kernel
theorem dL_law_1333 : decode cL_law 1333 = .ok (.aload_n 2, 1) := by decide +kernel
theorem dL_law_1334 : decode cL_law 1334 = .ok (.aload_n 0, 1) := by decide +kernel
theorem dL_law_1335 : decode cL_law 1335 = .ok (.iload 4, 2) := by decide +kernel
theorem dL_law_1337 : decode cL_law 1337 = .ok (.iconst 1, 1) := by decide +kernel
theorem dL_law_1338 : decode cL_law 1338 = .ok (.iadd, 1) := by decide +kernel
theorem dL_law_1339 : decode cL_law 1339 = .ok (.iaload, 1) := by decide +kernel
theorem dL_law_1340 : decode cL_law 1340 = .ok (.aload_n 0, 1) := by decide +kernel
theorem dL_law_1341 : decode cL_law 1341 = .ok (.iload 4, 2) := by decide +kernel
theorem dL_law_1343 : decode cL_law 1343 = .ok (.iconst 2, 1) := by decide +kernel
theorem dL_law_1344 : decode cL_law 1344 = .ok (.iadd, 1) := by decide +kernel
theorem dL_law_1345 : decode cL_law 1345 = .ok (.iaload, 1) := by decide +kernel
theorem dL_law_1346 : decode cL_law 1346 = .ok (.aload_n 0, 1) := by decide +kernel
theorem dL_law_1347 : decode cL_law 1347 = .ok (.iload 4, 2) := by decide +kernel
theorem dL_law_1349 : decode cL_law 1349 = .ok (.iconst 3, 1) := by decide +kernel
theorem dL_law_1350 : decode cL_law 1350 = .ok (.iadd, 1) := by decide +kernel
theorem dL_law_1351 : decode cL_law 1351 = .ok (.iaload, 1) := by decide +kernel
theorem dL_law_1352 : decode cL_law 1352 = .ok (.aload_n 0, 1) := by decide +kernel
theorem dL_law_1353 : decode cL_law 1353 = .ok (.iload 4, 2) := by decide +kernel
theorem dL_law_1355 : decode cL_law 1355 = .ok (.iconst 4, 1) := by decide +kernel
theorem dL_law_1356 : decode cL_law 1356 = .ok (.iadd, 1) := by decide +kernel
theorem dL_law_1357 : decode cL_law 1357 = .ok (.iaload, 1) := by decide +kernel
theorem dL_law_1358 : decode cL_law 1358 = .ok (.aload_n 0, 1) := by decide +kernel
theorem dL_law_1359 : decode cL_law 1359 = .ok (.iload 4, 2) := by decide +kernel
theorem dL_law_1361 : decode cL_law 1361 = .ok (.iconst 5, 1) := by decide +kernel
theorem dL_law_1362 : decode cL_law 1362 = .ok (.iadd, 1) := by decide +kernel
theorem dL_law_1363 : decode cL_law 1363 = .ok (.iaload, 1) := by decide +kernel
theorem dL_law_1364 : decode cL_law 1364 = .ok (.invokevirtual 164, 3) := by decide +kernel
theorem dL_law_1367 : decode cL_law 1367 = .ok (.if_icmp .eq 216, 3) := by decide +kernel
theorem dL_law_1370 : decode cL_law 1370 = .ok (.iconst 0, 1) := by decide +kernel
theorem dL_law_1371 : decode cL_law 1371 = .ok (.ireturn, 1) := by decide +kernel
theorem dL_law_1372 : decode cL_law 1372 = .ok (.aload_n 1, 1) := by decide +kernel
theorem dL_law_1373 : decode cL_law 1373 = .ok (.aload_n 0, 1) := by decide +kernel
theorem dL_law_1374 : decode cL_law 1374 = .ok (.iload 4, 2) := by decide +kernel
theorem dL_law_1376 : decode cL_law 1376 = .ok (.iconst 1, 1) := by decide +kernel
theorem dL_law_1377 : decode cL_law 1377 = .ok (.iadd, 1) := by decide +kernel
theorem dL_law_1378 : decode cL_law 1378 = .ok (.iaload, 1) := by decide +kernel
theorem dL_law_1379 : decode cL_law 1379 = .ok (.aload_n 0, 1) := by decide +kernel
theorem dL_law_1380 : decode cL_law 1380 = .ok (.iload 4, 2) := by decide +kernel
theorem dL_law_1382 : decode cL_law 1382 = .ok (.iconst 2, 1) := by decide +kernel
theorem dL_law_1383 : decode cL_law 1383 = .ok (.iadd, 1) := by decide +kernel
theorem dL_law_1384 : decode cL_law 1384 = .ok (.iaload, 1) := by decide +kernel
theorem dL_law_1385 : decode cL_law 1385 = .ok (.aload_n 0, 1) := by decide +kernel
theorem dL_law_1386 : decode cL_law 1386 = .ok (.iload 4, 2) := by decide +kernel
theorem dL_law_1388 : decode cL_law 1388 = .ok (.iconst 3, 1) := by decide +kernel
theorem dL_law_1389 : decode cL_law 1389 = .ok (.iadd, 1) := by decide +kernel
theorem dL_law_1390 : decode cL_law 1390 = .ok (.iaload, 1) := by decide +kernel
theorem dL_law_1391 : decode cL_law 1391 = .ok (.invokevirtual 165, 3) := by decide +kernel
theorem dL_law_1394 : decode cL_law 1394 = .ok (.aload_n 2, 1) := by decide +kernel
theorem dL_law_1395 : decode cL_law 1395 = .ok (.aload_n 0, 1) := by decide +kernel
theorem dL_law_1396 : decode cL_law 1396 = .ok (.iload 4, 2) := by decide +kernel
theorem dL_law_1398 : decode cL_law 1398 = .ok (.iconst 1, 1) := by decide +kernel
theorem dL_law_1399 : decode cL_law 1399 = .ok (.iadd, 1) := by decide +kernel
theorem dL_law_1400 : decode cL_law 1400 = .ok (.iaload, 1) := by decide +kernel
theorem dL_law_1401 : decode cL_law 1401 = .ok (.aload_n 0, 1) := by decide +kernel
theorem dL_law_1402 : decode cL_law 1402 = .ok (.iload 4, 2) := by decide +kernel
theorem dL_law_1404 : decode cL_law 1404 = .ok (.iconst 2, 1) := by decide +kernel
theorem dL_law_1405 : decode cL_law 1405 = .ok (.iadd, 1) := by decide +kernel
theorem dL_law_1406 : decode cL_law 1406 = .ok (.iaload, 1) := by decide +kernel
theorem dL_law_1407 : decode cL_law 1407 = .ok (.aload_n 0, 1) := by decide +kernel
theorem dL_law_1408 : decode cL_law 1408 = .ok (.iload 4, 2) := by decide +kernel
theorem dL_law_1410 : decode cL_law 1410 = .ok (.iconst 3, 1) := by decide +kernel
theorem dL_law_1411 : decode cL_law 1411 = .ok (.iadd, 1) := by decide +kernel
theorem dL_law_1412 : decode cL_law 1412 = .ok (.iaload, 1) := by decide +kernel
theorem dL_law_1413 : decode cL_law 1413 = .ok (.invokevirtual 168, 3) := by decide +kernel
theorem dL_law_1416 : decode cL_law 1416 = .ok (.if_icmp .eq 167, 3) := by decide +kernel
theorem dL_law_1419 : decode cL_law 1419 = .ok (.iconst 0, 1) := by decide +kernel
theorem dL_law_1420 : decode cL_law 1420 = .ok (.ireturn, 1) := by decide +kernel
theorem dL_law_1421 : decode cL_law 1421 = .ok (.aload_n 1, 1) := by decide +kernel
theorem dL_law_1422 : decode cL_law 1422 = .ok (.aload_n 0, 1) := by decide +kernel
theorem dL_law_1423 : decode cL_law 1423 = .ok (.iload 4, 2) := by decide +kernel
theorem dL_law_1425 : decode cL_law 1425 = .ok (.iconst 1, 1) := by decide +kernel
theorem dL_law_1426 : decode cL_law 1426 = .ok (.iadd, 1) := by decide +kernel
theorem dL_law_1427 : decode cL_law 1427 = .ok (.iaload, 1) := by decide +kernel
theorem dL_law_1428 : decode cL_law 1428 = .ok (.aload_n 0, 1) := by decide +kernel
theorem dL_law_1429 : decode cL_law 1429 = .ok (.iload 4, 2) := by decide +kernel
theorem dL_law_1431 : decode cL_law 1431 = .ok (.iconst 2, 1) := by decide +kernel
theorem dL_law_1432 : decode cL_law 1432 = .ok (.iadd, 1) := by decide +kernel
theorem dL_law_1433 : decode cL_law 1433 = .ok (.iaload, 1) := by decide +kernel
theorem dL_law_1434 : decode cL_law 1434 = .ok (.aload_n 0, 1) := by decide +kernel
theorem dL_law_1435 : decode cL_law 1435 = .ok (.iload 4, 2) := by decide +kernel
theorem dL_law_1437 : decode cL_law 1437 = .ok (.iconst 3, 1) := by decide +kernel
theorem dL_law_1438 : decode cL_law 1438 = .ok (.iadd, 1) := by decide +kernel
theorem dL_law_1439 : decode cL_law 1439 = .ok (.iaload, 1) := by decide +kernel
theorem dL_law_1440 : decode cL_law 1440 = .ok (.invokevirtual 169, 3) := by decide +kernel
theorem dL_law_1443 : decode cL_law 1443 = .ok (.aload_n 2, 1) := by decide +kernel
theorem dL_law_1444 : decode cL_law 1444 = .ok (.aload_n 0, 1) := by decide +kernel
theorem dL_law_1445 : decode cL_law 1445 = .ok (.iload 4, 2) := by decide +kernel
theorem dL_law_1447 : decode cL_law 1447 = .ok (.iconst 1, 1) := by decide +kernel
theorem dL_law_1448 : decode cL_law 1448 = .ok (.iadd, 1) := by decide +kernel
theorem dL_law_1449 : decode cL_law 1449 = .ok (.iaload, 1) := by decide +kernel
theorem dL_law_1450 : decode cL_law 1450 = .ok (.aload_n 0, 1) := by decide +kernel
theorem dL_law_1451 : decode cL_law 1451 = .ok (.iload 4, 2) := by decide +kernel
theorem dL_law_1453 : decode cL_law 1453 = .ok (.iconst 2, 1) := by decide +kernel
theorem dL_law_1454 : decode cL_law 1454 = .ok (.iadd, 1) := by decide +kernel
theorem dL_law_1455 : decode cL_law 1455 = .ok (.iaload, 1) := by decide +kernel
theorem dL_law_1456 : decode cL_law 1456 = .ok (.aload_n 0, 1) := by decide +kernel
theorem dL_law_1457 : decode cL_law 1457 = .ok (.iload 4, 2) := by decide +kernel
theorem dL_law_1459 : decode cL_law 1459 = .ok (.iconst 3, 1) := by decide +kernel
theorem dL_law_1460 : decode cL_law 1460 = .ok (.iadd, 1) := by decide +kernel
theorem dL_law_1461 : decode cL_law 1461 = .ok (.iaload, 1) := by decide +kernel
theorem dL_law_1462 : decode cL_law 1462 = .ok (.invokevirtual 172, 3) := by decide +kernel
theorem dL_law_1465 : decode cL_law 1465 = .ok (.if_icmp .eq 118, 3) := by decide +kernel
theorem dL_law_1468 : decode cL_law 1468 = .ok (.iconst 0, 1) := by decide +kernel
theorem dL_law_1469 : decode cL_law 1469 = .ok (.ireturn, 1) := by decide +kernel
theorem dL_law_1470 : decode cL_law 1470 = .ok (.aload_n 1, 1) := by decide +kernel
theorem dL_law_1471 : decode cL_law 1471 = .ok (.aload_n 0, 1) := by decide +kernel
theorem dL_law_1472 : decode cL_law 1472 = .ok (.iload 4, 2) := by decide +kernel
theorem dL_law_1474 : decode cL_law 1474 = .ok (.iconst 1, 1) := by decide +kernel
theorem dL_law_1475 : decode cL_law 1475 = .ok (.iadd, 1) := by decide +kernel
theorem dL_law_1476 : decode cL_law 1476 = .ok (.iaload, 1) := by decide +kernel
theorem dL_law_1477 : decode cL_law 1477 = .ok (.aload_n 0, 1) := by decide +kernel
theorem dL_law_1478 : decode cL_law 1478 = .ok (.iload 4, 2) := by decide +kernel
theorem dL_law_1480 : decode cL_law 1480 = .ok (.iconst 2, 1) := by decide +kernel
theorem dL_law_1481 : decode cL_law 1481 = .ok (.iadd, 1) := by decide +kernel
theorem dL_law_1482 : decode cL_law 1482 = .ok (.iaload, 1) := by decide +kernel
theorem dL_law_1483 : decode cL_law 1483 = .ok (.invokevirtual 173, 3) := by decide +kernel
theorem dL_law_1486 : decode cL_law 1486 = .ok (.aload_n 2, 1) := by decide +kernel
theorem dL_law_1487 : decode cL_law 1487 = .ok (.aload_n 0, 1) := by decide +kernel
theorem dL_law_1488 : decode cL_law 1488 = .ok (.iload 4, 2) := by decide +kernel
theorem dL_law_1490 : decode cL_law 1490 = .ok (.iconst 1, 1) := by decide +kernel
theorem dL_law_1491 : decode cL_law 1491 = .ok (.iadd, 1) := by decide +kernel
theorem dL_law_1492 : decode cL_law 1492 = .ok (.iaload, 1) := by decide +kernel
theorem dL_law_1493 : decode cL_law 1493 = .ok (.aload_n 0, 1) := by decide +kernel
theorem dL_law_1494 : decode cL_law 1494 = .ok (.iload 4, 2) := by decide +kernel
theorem dL_law_1496 : decode cL_law 1496 = .ok (.iconst 2, 1) := by decide +kernel
theorem dL_law_1497 : decode cL_law 1497 = .ok (.iadd, 1) := by decide +kernel
theorem dL_law_1498 : decode cL_law 1498 = .ok (.iaload, 1) := by decide +kernel
theorem dL_law_1499 : decode cL_law 1499 = .ok (.invokevirtual 176, 3) := by decide +kernel
theorem dL_law_1502 : decode cL_law 1502 = .ok (.if_icmp .eq 81, 3) := by decide +kernel
theorem dL_law_1505 : decode cL_law 1505 = .ok (.iconst 0, 1) := by decide +kernel
theorem dL_law_1506 : decode cL_law 1506 = .ok (.ireturn, 1) := by decide +kernel
theorem dL_law_1507 : decode cL_law 1507 = .ok (.aload_n 1, 1) := by decide +kernel
theorem dL_law_1508 : decode cL_law 1508 = .ok (.aload_n 0, 1) := by decide +kernel
theorem dL_law_1509 : decode cL_law 1509 = .ok (.iload 4, 2) := by decide +kernel
theorem dL_law_1511 : decode cL_law 1511 = .ok (.iconst 1, 1) := by decide +kernel
theorem dL_law_1512 : decode cL_law 1512 = .ok (.iadd, 1) := by decide +kernel
theorem dL_law_1513 : decode cL_law 1513 = .ok (.iaload, 1) := by decide +kernel
theorem dL_law_1514 : decode cL_law 1514 = .ok (.invokevirtual 177, 3) := by decide +kernel
theorem dL_law_1517 : decode cL_law 1517 = .ok (.aload_n 2, 1) := by decide +kernel
theorem dL_law_1518 : decode cL_law 1518 = .ok (.aload_n 0, 1) := by decide +kernel
theorem dL_law_1519 : decode cL_law 1519 = .ok (.iload 4, 2) := by decide +kernel
theorem dL_law_1521 : decode cL_law 1521 = .ok (.iconst 1, 1) := by decide +kernel
theorem dL_law_1522 : decode cL_law 1522 = .ok (.iadd, 1) := by decide +kernel
theorem dL_law_1523 : decode cL_law 1523 = .ok (.iaload, 1) := by decide +kernel
theorem dL_law_1524 : decode cL_law 1524 = .ok (.invokevirtual 180, 3) := by decide +kernel
theorem dL_law_1527 : decode cL_law 1527 = .ok (.if_icmp .eq 56, 3) := by decide +kernel
theorem dL_law_1530 : decode cL_law 1530 = .ok (.iconst 0, 1) := by decide +kernel
theorem dL_law_1531 : decode cL_law 1531 = .ok (.ireturn, 1) := by decide +kernel
theorem dL_law_1532 : decode cL_law 1532 = .ok (.aload_n 1, 1) := by decide +kernel
theorem dL_law_1533 : decode cL_law 1533 = .ok (.invokevirtual 181, 3) := by decide +kernel
theorem dL_law_1536 : decode cL_law 1536 = .ok (.aload_n 2, 1) := by decide +kernel
theorem dL_law_1537 : decode cL_law 1537 = .ok (.invokevirtual 184, 3) := by decide +kernel
theorem dL_law_1540 : decode cL_law 1540 = .ok (.if_icmp .eq 43, 3) := by decide +kernel
theorem dL_law_1543 : decode cL_law 1543 = .ok (.iconst 0, 1) := by decide +kernel
theorem dL_law_1544 : decode cL_law 1544 = .ok (.ireturn, 1) := by decide +kernel
theorem dL_law_1545 : decode cL_law 1545 = .ok (.aload_n 1, 1) := by decide +kernel
theorem dL_law_1546 : decode cL_law 1546 = .ok (.invokevirtual 185, 3) := by decide +kernel
theorem dL_law_1549 : decode cL_law 1549 = .ok (.aload_n 2, 1) := by decide +kernel
theorem dL_law_1550 : decode cL_law 1550 = .ok (.invokevirtual 188, 3) := by decide +kernel
theorem dL_law_1553 : decode cL_law 1553 = .ok (.if_icmp .eq 30, 3) := by decide +kernel
theorem dL_law_1556 : decode cL_law 1556 = .ok (.iconst 0, 1) := by decide +kernel
theorem dL_law_1557 : decode cL_law 1557 = .ok (.ireturn, 1) := by decide +kernel
theorem dL_law_1558 : decode cL_law 1558 = .ok (.aload_n 1, 1) := by decide +kernel
theorem dL_law_1559 : decode cL_law 1559 = .ok (.aload_n 0, 1) := by decide +kernel
theorem dL_law_1560 : decode cL_law 1560 = .ok (.iload 4, 2) := by decide +kernel
theorem dL_law_1562 : decode cL_law 1562 = .ok (.iconst 1, 1) := by decide +kernel
theorem dL_law_1563 : decode cL_law 1563 = .ok (.iadd, 1) := by decide +kernel
theorem dL_law_1564 : decode cL_law 1564 = .ok (.iaload, 1) := by decide +kernel
theorem dL_law_1565 : decode cL_law 1565 = .ok (.invokevirtual 189, 3) := by decide +kernel
theorem dL_law_1568 : decode cL_law 1568 = .ok (.aload_n 2, 1) := by decide +kernel
theorem dL_law_1569 : decode cL_law 1569 = .ok (.aload_n 0, 1) := by decide +kernel
theorem dL_law_1570 : decode cL_law 1570 = .ok (.iload 4, 2) := by decide +kernel
theorem dL_law_1572 : decode cL_law 1572 = .ok (.iconst 1, 1) := by decide +kernel
theorem dL_law_1573 : decode cL_law 1573 = .ok (.iadd, 1) := by decide +kernel
theorem dL_law_1574 : decode cL_law 1574 = .ok (.iaload, 1) := by decide +kernel
theorem dL_law_1575 : decode cL_law 1575 = .ok (.invokevirtual 192, 3) := by decide +kernel
theorem dL_law_1578 : decode cL_law 1578 = .ok (.if_icmp .eq 5, 3) := by decide +kernel
theorem dL_law_1581 : decode cL_law 1581 = .ok (.iconst 0, 1) := by decide +kernel
theorem dL_law_1582 : decode cL_law 1582 = .ok (.ireturn, 1) := by decide +kernel
theorem dL_law_1583 : decode cL_law 1583 = .ok (.iinc 4 6, 3) := by decide +kernel
theorem dL_law_1586 : decode cL_law 1586 = .ok (.goto (-1563), 3) := by decide +kernel
theorem dL_law_1589 : decode cL_law 1589 = .ok (.iconst 1, 1) := by decide +kernel
theorem dL_law_1590 : decode cL_law 1590 = .ok (.ireturn, 1) := by decide +kernel
