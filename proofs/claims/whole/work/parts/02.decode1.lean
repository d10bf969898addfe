theorem dX7_allTowers_6 : decode cX7_allTowers 6 = .ok (.iconst 1, 1) := by decide +kernel
theorem dX7_allTowers_7 : decode cX7_allTowers 7 = .ok (.isub, 1) := by decide +kernel
theorem dX7_allTowers_8 : decode cX7_allTowers 8 = .ok (.ireturn, 1) := by decide +kernel
theorem dX7_beside_0 : decode cX7_beside 0 = .ok (.aload_n 0, 1) := by decide +kernel
theorem dX7_beside_1 : decode cX7_beside 1 = .ok (.getfield 11, 3) := by decide +kernel
theorem dX7_beside_4 : decode cX7_beside 4 = .ok (.iconst 1, 1) := by decide +kernel
theorem dX7_beside_5 : decode cX7_beside 5 = .ok (.if_icmp .ge 5, 3) := by decide +kernel
theorem dX7_beside_8 : decode cX7_beside 8 = .ok (.iconst (-1), 1) := by decide +kernel
theorem dX7_beside_9 : decode cX7_beside 9 = .ok (.ireturn, 1) := by decide +kernel
theorem dX7_beside_10 : decode cX7_beside 10 = .ok (.iload_n 1, 1) := by decide +kernel
theorem dX7_beside_11 : decode cX7_beside 11 = .ok (.aload_n 0, 1) := by decide +kernel
theorem dX7_beside_12 : decode cX7_beside 12 = .ok (.getfield 11, 3) := by decide +kernel
theorem dX7_beside_15 : decode cX7_beside 15 = .ok (.irem, 1) := by decide +kernel
theorem dX7_beside_16 : decode cX7_beside 16 = .ok (.istore_n 3, 1) := by decide +kernel
theorem dX7_beside_17 : decode cX7_beside 17 = .ok (.iload_n 2, 1) := by decide +kernel
theorem dX7_beside_18 : decode cX7_beside 18 = .ok (.tableswitch 75 0 2 #[26, 45, 57], 26) := by decide +kernel
theorem dX7_beside_44 : decode cX7_beside 44 = .ok (.iload_n 1, 1) := by decide +kernel
theorem dX7_beside_45 : decode cX7_beside 45 = .ok (.aload_n 0, 1) := by decide +kernel
theorem dX7_beside_46 : decode cX7_beside 46 = .ok (.getfield 11, 3) := by decide +kernel
theorem dX7_beside_49 : decode cX7_beside 49 = .ok (.if_icmp .lt 12, 3) := by decide +kernel
theorem dX7_beside_52 : decode cX7_beside 52 = .ok (.iload_n 1, 1) := by decide +kernel
theorem dX7_beside_53 : decode cX7_beside 53 = .ok (.aload_n 0, 1) := by decide +kernel
theorem dX7_beside_54 : decode cX7_beside 54 = .ok (.getfield 11, 3) := by decide +kernel
theorem dX7_beside_57 : decode cX7_beside 57 = .ok (.isub, 1) := by decide +kernel
theorem dX7_beside_58 : decode cX7_beside 58 = .ok (.goto 4, 3) := by decide +kernel
theorem dX7_beside_61 : decode cX7_beside 61 = .ok (.iconst (-1), 1) := by decide +kernel
theorem dX7_beside_62 : decode cX7_beside 62 = .ok (.ireturn, 1) := by decide +kernel
theorem dX7_beside_63 : decode cX7_beside 63 = .ok (.iload_n 3, 1) := by decide +kernel
theorem dX7_beside_64 : decode cX7_beside 64 = .ok (.ifCond .le 9, 3) := by decide +kernel
theorem dX7_beside_67 : decode cX7_beside 67 = .ok (.iload_n 1, 1) := by decide +kernel
theorem dX7_beside_68 : decode cX7_beside 68 = .ok (.iconst 1, 1) := by decide +kernel
theorem dX7_beside_69 : decode cX7_beside 69 = .ok (.isub, 1) := by decide +kernel
theorem dX7_beside_70 : decode cX7_beside 70 = .ok (.goto 4, 3) := by decide +kernel
theorem dX7_beside_73 : decode cX7_beside 73 = .ok (.iconst (-1), 1) := by decide +kernel
theorem dX7_beside_74 : decode cX7_beside 74 = .ok (.ireturn, 1) := by decide +kernel
theorem dX7_beside_75 : decode cX7_beside 75 = .ok (.iload_n 3, 1) := by decide +kernel
theorem dX7_beside_76 : decode cX7_beside 76 = .ok (.aload_n 0, 1) := by decide +kernel
theorem dX7_beside_77 : decode cX7_beside 77 = .ok (.getfield 11, 3) := by decide +kernel
theorem dX7_beside_80 : decode cX7_beside 80 = .ok (.iconst 1, 1) := by decide +kernel
theorem dX7_beside_81 : decode cX7_beside 81 = .ok (.isub, 1) := by decide +kernel
theorem dX7_beside_82 : decode cX7_beside 82 = .ok (.if_icmp .ge 9, 3) := by decide +kernel
theorem dX7_beside_85 : decode cX7_beside 85 = .ok (.iload_n 1, 1) := by decide +kernel
theorem dX7_beside_86 : decode cX7_beside 86 = .ok (.iconst 1, 1) := by decide +kernel
theorem dX7_beside_87 : decode cX7_beside 87 = .ok (.iadd, 1) := by decide +kernel
theorem dX7_beside_88 : decode cX7_beside 88 = .ok (.goto 4, 3) := by decide +kernel
theorem dX7_beside_91 : decode cX7_beside 91 = .ok (.iconst (-1), 1) := by decide +kernel
theorem dX7_beside_92 : decode cX7_beside 92 = .ok (.ireturn, 1) := by decide +kernel
theorem dX7_beside_93 : decode cX7_beside 93 = .ok (.iload_n 1, 1) := by decide +kernel
theorem dX7_beside_94 : decode cX7_beside 94 = .ok (.aload_n 0, 1) := by decide +kernel
theorem dX7_beside_95 : decode cX7_beside 95 = .ok (.getfield 11, 3) := by decide +kernel
theorem dX7_beside_98 : decode cX7_beside 98 = .ok (.iadd, 1) := by decide +kernel
theorem dX7_beside_99 : decode cX7_beside 99 = .ok (.aload_n 0, 1) := by decide +kernel
theorem dX7_beside_100 : decode cX7_beside 100 = .ok (.getfield 18, 3) := by decide +kernel
theorem dX7_beside_103 : decode cX7_beside 103 = .ok (.if_icmp .ge 12, 3) := by decide +kernel
theorem dX7_beside_106 : decode cX7_beside 106 = .ok (.iload_n 1, 1) := by decide +kernel
theorem dX7_beside_107 : decode cX7_beside 107 = .ok (.aload_n 0, 1) := by decide +kernel
theorem dX7_beside_108 : decode cX7_beside 108 = .ok (.getfield 11, 3) := by decide +kernel
theorem dX7_beside_111 : decode cX7_beside 111 = .ok (.iadd, 1) := by decide +kernel
theorem dX7_beside_112 : decode cX7_beside 112 = .ok (.goto 4, 3) := by decide +kernel
theorem dX7_beside_115 : decode cX7_beside 115 = .ok (.iconst (-1), 1) := by decide +kernel
theorem dX7_beside_116 : decode cX7_beside 116 = .ok (.ireturn, 1) := by decide +kernel
theorem dX7_reach_0 : decode cX7_reach 0 = .ok (.aload_n 2, 1) := by decide +kernel
theorem dX7_reach_1 : decode cX7_reach 1 = .ok (.ifnonnull 10, 3) := by decide +kernel
theorem dX7_reach_4 : decode cX7_reach 4 = .ok (.aload_n 0, 1) := by decide +kernel
theorem dX7_reach_5 : decode cX7_reach 5 = .ok (.getfield 49, 3) := by decide +kernel
theorem dX7_reach_8 : decode cX7_reach 8 = .ok (.iload_n 1, 1) := by decide +kernel
theorem dX7_reach_9 : decode cX7_reach 9 = .ok (.iaload, 1) := by decide +kernel
theorem dX7_reach_10 : decode cX7_reach 10 = .ok (.ireturn, 1) := by decide +kernel
theorem dX7_reach_11 : decode cX7_reach 11 = .ok (.aload_n 0, 1) := by decide +kernel
theorem dX7_reach_12 : decode cX7_reach 12 = .ok (.getfield 54, 3) := by decide +kernel
theorem dX7_reach_15 : decode cX7_reach 15 = .ok (.iconst 0, 1) := by decide +kernel
theorem dX7_reach_16 : decode cX7_reach 16 = .ok (.aload_n 0, 1) := by decide +kernel
theorem dX7_reach_17 : decode cX7_reach 17 = .ok (.getfield 49, 3) := by decide +kernel
theorem dX7_reach_20 : decode cX7_reach 20 = .ok (.iload_n 1, 1) := by decide +kernel
theorem dX7_reach_21 : decode cX7_reach 21 = .ok (.iaload, 1) := by decide +kernel
theorem dX7_reach_22 : decode cX7_reach 22 = .ok (.iastore, 1) := by decide +kernel
theorem dX7_reach_23 : decode cX7_reach 23 = .ok (.aload_n 0, 1) := by decide +kernel
theorem dX7_reach_24 : decode cX7_reach 24 = .ok (.getfield 54, 3) := by decide +kernel
theorem dX7_reach_27 : decode cX7_reach 27 = .ok (.iconst 1, 1) := by decide +kernel
theorem dX7_reach_28 : decode cX7_reach 28 = .ok (.aload_n 0, 1) := by decide +kernel
theorem dX7_reach_29 : decode cX7_reach 29 = .ok (.getfield 24, 3) := by decide +kernel
theorem dX7_reach_32 : decode cX7_reach 32 = .ok (.iastore, 1) := by decide +kernel
theorem dX7_reach_33 : decode cX7_reach 33 = .ok (.aload_n 0, 1) := by decide +kernel
theorem dX7_reach_34 : decode cX7_reach 34 = .ok (.getfield 54, 3) := by decide +kernel
theorem dX7_reach_37 : decode cX7_reach 37 = .ok (.iconst 2, 1) := by decide +kernel
theorem dX7_reach_38 : decode cX7_reach 38 = .ok (.aload_n 0, 1) := by decide +kernel
theorem dX7_reach_39 : decode cX7_reach 39 = .ok (.getfield 30, 3) := by decide +kernel
theorem dX7_reach_42 : decode cX7_reach 42 = .ok (.bipush 24, 2) := by decide +kernel
theorem dX7_reach_44 : decode cX7_reach 44 = .ok (.irem, 1) := by decide +kernel
theorem dX7_reach_45 : decode cX7_reach 45 = .ok (.iastore, 1) := by decide +kernel
theorem dX7_reach_46 : decode cX7_reach 46 = .ok (.aload_n 0, 1) := by decide +kernel
theorem dX7_reach_47 : decode cX7_reach 47 = .ok (.getfield 54, 3) := by decide +kernel
theorem dX7_reach_50 : decode cX7_reach 50 = .ok (.iconst 3, 1) := by decide +kernel
theorem dX7_reach_51 : decode cX7_reach 51 = .ok (.aload_n 0, 1) := by decide +kernel
theorem dX7_reach_52 : decode cX7_reach 52 = .ok (.getfield 39, 3) := by decide +kernel
theorem dX7_reach_55 : decode cX7_reach 55 = .ok (.aload_n 0, 1) := by decide +kernel
theorem dX7_reach_56 : decode cX7_reach 56 = .ok (.getfield 43, 3) := by decide +kernel
theorem dX7_reach_59 : decode cX7_reach 59 = .ok (.iload_n 1, 1) := by decide +kernel
theorem dX7_reach_60 : decode cX7_reach 60 = .ok (.iaload, 1) := by decide +kernel
theorem dX7_reach_61 : decode cX7_reach 61 = .ok (.iaload, 1) := by decide +kernel
theorem dX7_reach_62 : decode cX7_reach 62 = .ok (.iastore, 1) := by decide +kernel
theorem dX7_reach_63 : decode cX7_reach 63 = .ok (.aload_n 0, 1) := by decide +kernel
theorem dX7_reach_64 : decode cX7_reach 64 = .ok (.getfield 54, 3) := by decide +kernel
theorem dX7_reach_67 : decode cX7_reach 67 = .ok (.iconst 4, 1) := by decide +kernel
theorem dX7_reach_68 : decode cX7_reach 68 = .ok (.aload_n 0, 1) := by decide +kernel
theorem dX7_reach_69 : decode cX7_reach 69 = .ok (.getfield 46, 3) := by decide +kernel
theorem dX7_reach_72 : decode cX7_reach 72 = .ok (.iload_n 1, 1) := by decide +kernel
theorem dX7_reach_73 : decode cX7_reach 73 = .ok (.iaload, 1) := by decide +kernel
theorem dX7_reach_74 : decode cX7_reach 74 = .ok (.iastore, 1) := by decide +kernel
theorem dX7_reach_75 : decode cX7_reach 75 = .ok (.aload_n 0, 1) := by decide +kernel
theorem dX7_reach_76 : decode cX7_reach 76 = .ok (.getfield 54, 3) := by decide +kernel
theorem dX7_reach_79 : decode cX7_reach 79 = .ok (.iconst 5, 1) := by decide +kernel
theorem dX7_reach_80 : decode cX7_reach 80 = .ok (.aload_n 0, 1) := by decide +kernel
theorem dX7_reach_81 : decode cX7_reach 81 = .ok (.getfield 21, 3) := by decide +kernel
theorem dX7_reach_84 : decode cX7_reach 84 = .ok (.iastore, 1) := by decide +kernel
theorem dX7_reach_85 : decode cX7_reach 85 = .ok (.aload_n 2, 1) := by decide +kernel
theorem dX7_reach_86 : decode cX7_reach 86 = .ok (.aload_n 0, 1) := by decide +kernel
theorem dX7_reach_87 : decode cX7_reach 87 = .ok (.getfield 54, 3) := by decide +kernel
theorem dX7_reach_90 : decode cX7_reach 90 = .ok (.invokevirtual 67, 3) := by decide +kernel
theorem dX7_reach_93 : decode cX7_reach 93 = .ok (.iconst 0, 1) := by decide +kernel
theorem dX7_reach_94 : decode cX7_reach 94 = .ok (.bipush 9, 2) := by decide +kernel
theorem dX7_reach_96 : decode cX7_reach 96 = .ok (.invokestatic 71, 3) := by decide +kernel
theorem dX7_reach_99 : decode cX7_reach 99 = .ok (.ireturn, 1) := by decide +kernel
theorem dX7_eye_0 : decode cX7_eye 0 = .ok (.aload_n 0, 1) := by decide +kernel
theorem dX7_eye_1 : decode cX7_eye 1 = .ok (.getfield 39, 3) := by decide +kernel
theorem dX7_eye_4 : decode cX7_eye 4 = .ok (.aload_n 0, 1) := by decide +kernel
theorem dX7_eye_5 : decode cX7_eye 5 = .ok (.getfield 43, 3) := by decide +kernel
theorem dX7_eye_8 : decode cX7_eye 8 = .ok (.iload_n 1, 1) := by decide +kernel
theorem dX7_eye_9 : decode cX7_eye 9 = .ok (.iaload, 1) := by decide +kernel
theorem dX7_eye_10 : decode cX7_eye 10 = .ok (.iaload, 1) := by decide +kernel
theorem dX7_eye_11 : decode cX7_eye 11 = .ok (.aload_n 0, 1) := by decide +kernel
theorem dX7_eye_12 : decode cX7_eye 12 = .ok (.getfield 46, 3) := by decide +kernel
theorem dX7_eye_15 : decode cX7_eye 15 = .ok (.iload_n 1, 1) := by decide +kernel
theorem dX7_eye_16 : decode cX7_eye 16 = .ok (.iaload, 1) := by decide +kernel
theorem dX7_eye_17 : decode cX7_eye 17 = .ok (.iadd, 1) := by decide +kernel
theorem dX7_eye_18 : decode cX7_eye 18 = .ok (.ireturn, 1) := by decide +kernel
theorem dX7_beholds_0 : decode cX7_beholds 0 = .ok (.aload_n 0, 1) := by decide +kernel
theorem dX7_beholds_1 : decode cX7_beholds 1 = .ok (.aload_n 0, 1) := by decide +kernel
theorem dX7_beholds_2 : decode cX7_beholds 2 = .ok (.getfield 43, 3) := by decide +kernel
theorem dX7_beholds_5 : decode cX7_beholds 5 = .ok (.iload_n 1, 1) := by decide +kernel
theorem dX7_beholds_6 : decode cX7_beholds 6 = .ok (.iaload, 1) := by decide +kernel
theorem dX7_beholds_7 : decode cX7_beholds 7 = .ok (.aload_n 0, 1) := by decide +kernel
theorem dX7_beholds_8 : decode cX7_beholds 8 = .ok (.iload_n 1, 1) := by decide +kernel
theorem dX7_beholds_9 : decode cX7_beholds 9 = .ok (.invokevirtual 75, 3) := by decide +kernel
theorem dX7_beholds_12 : decode cX7_beholds 12 = .ok (.aload_n 0, 1) := by decide +kernel
theorem dX7_beholds_13 : decode cX7_beholds 13 = .ok (.iload_n 1, 1) := by decide +kernel
theorem dX7_beholds_14 : decode cX7_beholds 14 = .ok (.aload_n 3, 1) := by decide +kernel
theorem dX7_beholds_15 : decode cX7_beholds 15 = .ok (.invokevirtual 79, 3) := by decide +kernel
theorem dX7_beholds_18 : decode cX7_beholds 18 = .ok (.iload_n 2, 1) := by decide +kernel
theorem dX7_beholds_19 : decode cX7_beholds 19 = .ok (.invokevirtual 83, 3) := by decide +kernel
theorem dX7_beholds_22 : decode cX7_beholds 22 = .ok (.ireturn, 1) := by decide +kernel
theorem dX7_sight_0 : decode cX7_sight 0 = .ok (.aload_n 0, 1) := by decide +kernel
theorem dX7_sight_1 : decode cX7_sight 1 = .ok (.aload_n 0, 1) := by decide +kernel
theorem dX7_sight_2 : decode cX7_sight 2 = .ok (.getfield 43, 3) := by decide +kernel
theorem dX7_sight_5 : decode cX7_sight 5 = .ok (.iload_n 1, 1) := by decide +kernel
theorem dX7_sight_6 : decode cX7_sight 6 = .ok (.iaload, 1) := by decide +kernel
theorem dX7_sight_7 : decode cX7_sight 7 = .ok (.aload_n 0, 1) := by decide +kernel
theorem dX7_sight_8 : decode cX7_sight 8 = .ok (.iload_n 1, 1) := by decide +kernel
theorem dX7_sight_9 : decode cX7_sight 9 = .ok (.invokevirtual 75, 3) := by decide +kernel
theorem dX7_sight_12 : decode cX7_sight 12 = .ok (.aload_n 0, 1) := by decide +kernel
theorem dX7_sight_13 : decode cX7_sight 13 = .ok (.iload_n 1, 1) := by decide +kernel
theorem dX7_sight_14 : decode cX7_sight 14 = .ok (.aload_n 2, 1) := by decide +kernel
theorem dX7_sight_15 : decode cX7_sight 15 = .ok (.invokevirtual 79, 3) := by decide +kernel
theorem dX7_sight_18 : decode cX7_sight 18 = .ok (.invokevirtual 87, 3) := by decide +kernel
theorem dX7_sight_21 : decode cX7_sight 21 = .ok (.ireturn, 1) := by decide +kernel
theorem dX7_sightFrom_0 : decode cX7_sightFrom 0 = .ok (.iconst 0, 1) := by decide +kernel
theorem dX7_sightFrom_1 : decode cX7_sightFrom 1 = .ok (.istore 4, 2) := by decide +kernel
theorem dX7_sightFrom_3 : decode cX7_sightFrom 3 = .ok (.iconst 0, 1) := by decide +kernel
theorem dX7_sightFrom_4 : decode cX7_sightFrom 4 = .ok (.istore 5, 2) := by decide +kernel
theorem dX7_sightFrom_6 : decode cX7_sightFrom 6 = .ok (.iload 5, 2) := by decide +kernel
theorem dX7_sightFrom_8 : decode cX7_sightFrom 8 = .ok (.aload_n 0, 1) := by decide +kernel
theorem dX7_sightFrom_9 : decode cX7_sightFrom 9 = .ok (.getfield 18, 3) := by decide +kernel
theorem dX7_sightFrom_12 : decode cX7_sightFrom 12 = .ok (.if_icmp .ge 30, 3) := by decide +kernel
theorem dX7_sightFrom_15 : decode cX7_sightFrom 15 = .ok (.aload_n 0, 1) := by decide +kernel
theorem dX7_sightFrom_16 : decode cX7_sightFrom 16 = .ok (.iload_n 1, 1) := by decide +kernel
theorem dX7_sightFrom_17 : decode cX7_sightFrom 17 = .ok (.iload_n 2, 1) := by decide +kernel
theorem dX7_sightFrom_18 : decode cX7_sightFrom 18 = .ok (.iload_n 3, 1) := by decide +kernel
theorem dX7_sightFrom_19 : decode cX7_sightFrom 19 = .ok (.iload 5, 2) := by decide +kernel
theorem dX7_sightFrom_21 : decode cX7_sightFrom 21 = .ok (.invokevirtual 83, 3) := by decide +kernel
theorem dX7_sightFrom_24 : decode cX7_sightFrom 24 = .ok (.ifCond .eq 12, 3) := by decide +kernel
theorem dX7_sightFrom_27 : decode cX7_sightFrom 27 = .ok (.iload 4, 2) := by decide +kernel
theorem dX7_sightFrom_29 : decode cX7_sightFrom 29 = .ok (.iconst 1, 1) := by decide +kernel
theorem dX7_sightFrom_30 : decode cX7_sightFrom 30 = .ok (.iload 5, 2) := by decide +kernel
theorem dX7_sightFrom_32 : decode cX7_sightFrom 32 = .ok (.ishl, 1) := by decide +kernel
theorem dX7_sightFrom_33 : decode cX7_sightFrom 33 = .ok (.ior, 1) := by decide +kernel
theorem dX7_sightFrom_34 : decode cX7_sightFrom 34 = .ok (.istore 4, 2) := by decide +kernel
theorem dX7_sightFrom_36 : decode cX7_sightFrom 36 = .ok (.iinc 5 1, 3) := by decide +kernel
theorem dX7_sightFrom_39 : decode cX7_sightFrom 39 = .ok (.goto (-33), 3) := by decide +kernel
theorem dX7_sightFrom_42 : decode cX7_sightFrom 42 = .ok (.iload 4, 2) := by decide +kernel
theorem dX7_sightFrom_44 : decode cX7_sightFrom 44 = .ok (.ireturn, 1) := by decide +kernel
theorem dX7_isClear_0 : decode cX7_isClear 0 = .ok (.aload_n 0, 1) := by decide +kernel
theorem dX7_isClear_1 : decode cX7_isClear 1 = .ok (.getfield 39, 3) := by decide +kernel
theorem dX7_isClear_4 : decode cX7_isClear 4 = .ok (.iload 4, 2) := by decide +kernel
theorem dX7_isClear_6 : decode cX7_isClear 6 = .ok (.iaload, 1) := by decide +kernel
theorem dX7_isClear_7 : decode cX7_isClear 7 = .ok (.istore 5, 2) := by decide +kernel
theorem dX7_isClear_9 : decode cX7_isClear 9 = .ok (.iload 5, 2) := by decide +kernel
theorem dX7_isClear_11 : decode cX7_isClear 11 = .ok (.aload_n 0, 1) := by decide +kernel
theorem dX7_isClear_12 : decode cX7_isClear 12 = .ok (.getfield 24, 3) := by decide +kernel
theorem dX7_isClear_15 : decode cX7_isClear 15 = .ok (.if_icmp .lt 11, 3) := by decide +kernel
theorem dX7_isClear_18 : decode cX7_isClear 18 = .ok (.aload_n 0, 1) := by decide +kernel
theorem dX7_isClear_19 : decode cX7_isClear 19 = .ok (.getfield 11, 3) := by decide +kernel
theorem dX7_isClear_22 : decode cX7_isClear 22 = .ok (.iconst 1, 1) := by decide +kernel
theorem dX7_isClear_23 : decode cX7_isClear 23 = .ok (.if_icmp .ge 5, 3) := by decide +kernel
theorem dX7_isClear_26 : decode cX7_isClear 26 = .ok (.iconst 0, 1) := by decide +kernel
theorem dX7_isClear_27 : decode cX7_isClear 27 = .ok (.ireturn, 1) := by decide +kernel
theorem dX7_isClear_28 : decode cX7_isClear 28 = .ok (.iload_n 1, 1) := by decide +kernel
theorem dX7_isClear_29 : decode cX7_isClear 29 = .ok (.aload_n 0, 1) := by decide +kernel
theorem dX7_isClear_30 : decode cX7_isClear 30 = .ok (.getfield 11, 3) := by decide +kernel
theorem dX7_isClear_33 : decode cX7_isClear 33 = .ok (.irem, 1) := by decide +kernel
theorem dX7_isClear_34 : decode cX7_isClear 34 = .ok (.istore 6, 2) := by decide +kernel
theorem dX7_isClear_36 : decode cX7_isClear 36 = .ok (.iload_n 1, 1) := by decide +kernel
theorem dX7_isClear_37 : decode cX7_isClear 37 = .ok (.aload_n 0, 1) := by decide +kernel
theorem dX7_isClear_38 : decode cX7_isClear 38 = .ok (.getfield 11, 3) := by decide +kernel
theorem dX7_isClear_41 : decode cX7_isClear 41 = .ok (.idiv, 1) := by decide +kernel
theorem dX7_isClear_42 : decode cX7_isClear 42 = .ok (.istore 7, 2) := by decide +kernel
theorem dX7_isClear_44 : decode cX7_isClear 44 = .ok (.iload 4, 2) := by decide +kernel
theorem dX7_isClear_46 : decode cX7_isClear 46 = .ok (.aload_n 0, 1) := by decide +kernel
theorem dX7_isClear_47 : decode cX7_isClear 47 = .ok (.getfield 11, 3) := by decide +kernel
theorem dX7_isClear_50 : decode cX7_isClear 50 = .ok (.irem, 1) := by decide +kernel
theorem dX7_isClear_51 : decode cX7_isClear 51 = .ok (.iload 6, 2) := by decide +kernel
theorem dX7_isClear_53 : decode cX7_isClear 53 = .ok (.isub, 1) := by decide +kernel
theorem dX7_isClear_54 : decode cX7_isClear 54 = .ok (.istore 8, 2) := by decide +kernel
theorem dX7_isClear_56 : decode cX7_isClear 56 = .ok (.iload 4, 2) := by decide +kernel
theorem dX7_isClear_58 : decode cX7_isClear 58 = .ok (.aload_n 0, 1) := by decide +kernel
theorem dX7_isClear_59 : decode cX7_isClear 59 = .ok (.getfield 11, 3) := by decide +kernel
theorem dX7_isClear_62 : decode cX7_isClear 62 = .ok (.idiv, 1) := by decide +kernel
theorem dX7_isClear_63 : decode cX7_isClear 63 = .ok (.iload 7, 2) := by decide +kernel
theorem dX7_isClear_65 : decode cX7_isClear 65 = .ok (.isub, 1) := by decide +kernel
theorem dX7_isClear_66 : decode cX7_isClear 66 = .ok (.istore 9, 2) := by decide +kernel
theorem dX7_isClear_68 : decode cX7_isClear 68 = .ok (.iload 8, 2) := by decide +kernel
theorem dX7_isClear_70 : decode cX7_isClear 70 = .ok (.invokestatic 90, 3) := by decide +kernel
theorem dX7_isClear_73 : decode cX7_isClear 73 = .ok (.iload 9, 2) := by decide +kernel
theorem dX7_isClear_75 : decode cX7_isClear 75 = .ok (.invokestatic 90, 3) := by decide +kernel
theorem dX7_isClear_78 : decode cX7_isClear 78 = .ok (.invokestatic 95, 3) := by decide +kernel
theorem dX7_isClear_81 : decode cX7_isClear 81 = .ok (.istore 10, 2) := by decide +kernel
theorem dX7_isClear_83 : decode cX7_isClear 83 = .ok (.iload 10, 2) := by decide +kernel
theorem dX7_isClear_85 : decode cX7_isClear 85 = .ok (.iload_n 3, 1) := by decide +kernel
theorem dX7_isClear_86 : decode cX7_isClear 86 = .ok (.if_icmp .le 5, 3) := by decide +kernel
theorem dX7_isClear_89 : decode cX7_isClear 89 = .ok (.iconst 0, 1) := by decide +kernel
theorem dX7_isClear_90 : decode cX7_isClear 90 = .ok (.ireturn, 1) := by decide +kernel
theorem dX7_isClear_91 : decode cX7_isClear 91 = .ok (.iconst 1, 1) := by decide +kernel
theorem dX7_isClear_92 : decode cX7_isClear 92 = .ok (.istore 11, 2) := by decide +kernel
theorem dX7_isClear_94 : decode cX7_isClear 94 = .ok (.iload 11, 2) := by decide +kernel
theorem dX7_isClear_96 : decode cX7_isClear 96 = .ok (.iload 10, 2) := by decide +kernel
theorem dX7_isClear_98 : decode cX7_isClear 98 = .ok (.if_icmp .ge 103, 3) := by decide +kernel
theorem dX7_isClear_101 : decode cX7_isClear 101 = .ok (.iconst 2, 1) := by decide +kernel
theorem dX7_isClear_102 : decode cX7_isClear 102 = .ok (.iload 6, 2) := by decide +kernel
theorem dX7_isClear_104 : decode cX7_isClear 104 = .ok (.iload 10, 2) := by decide +kernel
theorem dX7_isClear_106 : decode cX7_isClear 106 = .ok (.imul, 1) := by decide +kernel
theorem dX7_isClear_107 : decode cX7_isClear 107 = .ok (.iload 11, 2) := by decide +kernel
theorem dX7_isClear_109 : decode cX7_isClear 109 = .ok (.iload 8, 2) := by decide +kernel
theorem dX7_isClear_111 : decode cX7_isClear 111 = .ok (.imul, 1) := by decide +kernel
theorem dX7_isClear_112 : decode cX7_isClear 112 = .ok (.iadd, 1) := by decide +kernel
theorem dX7_isClear_113 : decode cX7_isClear 113 = .ok (.imul, 1) := by decide +kernel
theorem dX7_isClear_114 : decode cX7_isClear 114 = .ok (.iload 10, 2) := by decide +kernel
theorem dX7_isClear_116 : decode cX7_isClear 116 = .ok (.iadd, 1) := by decide +kernel
theorem dX7_isClear_117 : decode cX7_isClear 117 = .ok (.iconst 2, 1) := by decide +kernel
theorem dX7_isClear_118 : decode cX7_isClear 118 = .ok (.iload 10, 2) := by decide +kernel
theorem dX7_isClear_120 : decode cX7_isClear 120 = .ok (.imul, 1) := by decide +kernel
theorem dX7_isClear_121 : decode cX7_isClear 121 = .ok (.idiv, 1) := by decide +kernel
theorem dX7_isClear_122 : decode cX7_isClear 122 = .ok (.istore 12, 2) := by decide +kernel
theorem dX7_isClear_124 : decode cX7_isClear 124 = .ok (.iconst 2, 1) := by decide +kernel
theorem dX7_isClear_125 : decode cX7_isClear 125 = .ok (.iload 7, 2) := by decide +kernel
theorem dX7_isClear_127 : decode cX7_isClear 127 = .ok (.iload 10, 2) := by decide +kernel
theorem dX7_isClear_129 : decode cX7_isClear 129 = .ok (.imul, 1) := by decide +kernel
theorem dX7_isClear_130 : decode cX7_isClear 130 = .ok (.iload 11, 2) := by decide +kernel
theorem dX7_isClear_132 : decode cX7_isClear 132 = .ok (.iload 9, 2) := by decide +kernel
theorem dX7_isClear_134 : decode cX7_isClear 134 = .ok (.imul, 1) := by decide +kernel
theorem dX7_isClear_135 : decode cX7_isClear 135 = .ok (.iadd, 1) := by decide +kernel
theorem dX7_isClear_136 : decode cX7_isClear 136 = .ok (.imul, 1) := by decide +kernel
theorem dX7_isClear_137 : decode cX7_isClear 137 = .ok (.iload 10, 2) := by decide +kernel
theorem dX7_isClear_139 : decode cX7_isClear 139 = .ok (.iadd, 1) := by decide +kernel
theorem dX7_isClear_140 : decode cX7_isClear 140 = .ok (.iconst 2, 1) := by decide +kernel
theorem dX7_isClear_141 : decode cX7_isClear 141 = .ok (.iload 10, 2) := by decide +kernel
theorem dX7_isClear_143 : decode cX7_isClear 143 = .ok (.imul, 1) := by decide +kernel
theorem dX7_isClear_144 : decode cX7_isClear 144 = .ok (.idiv, 1) := by decide +kernel
theorem dX7_isClear_145 : decode cX7_isClear 145 = .ok (.istore 13, 2) := by decide +kernel
theorem dX7_isClear_147 : decode cX7_isClear 147 = .ok (.iload 13, 2) := by decide +kernel
theorem dX7_isClear_149 : decode cX7_isClear 149 = .ok (.aload_n 0, 1) := by decide +kernel
theorem dX7_isClear_150 : decode cX7_isClear 150 = .ok (.getfield 11, 3) := by decide +kernel
theorem dX7_isClear_153 : decode cX7_isClear 153 = .ok (.imul, 1) := by decide +kernel
theorem dX7_isClear_154 : decode cX7_isClear 154 = .ok (.iload 12, 2) := by decide +kernel
theorem dX7_isClear_156 : decode cX7_isClear 156 = .ok (.iadd, 1) := by decide +kernel
theorem dX7_isClear_157 : decode cX7_isClear 157 = .ok (.istore 14, 2) := by decide +kernel
theorem dX7_isClear_159 : decode cX7_isClear 159 = .ok (.aload_n 0, 1) := by decide +kernel
theorem dX7_isClear_160 : decode cX7_isClear 160 = .ok (.iload 14, 2) := by decide +kernel
theorem dX7_isClear_162 : decode cX7_isClear 162 = .ok (.invokevirtual 99, 3) := by decide +kernel
theorem dX7_isClear_165 : decode cX7_isClear 165 = .ok (.ifCond .eq 30, 3) := by decide +kernel
theorem dX7_isClear_168 : decode cX7_isClear 168 = .ok (.aload_n 0, 1) := by decide +kernel
theorem dX7_isClear_169 : decode cX7_isClear 169 = .ok (.getfield 39, 3) := by decide +kernel
theorem dX7_isClear_172 : decode cX7_isClear 172 = .ok (.iload 14, 2) := by decide +kernel
theorem dX7_isClear_174 : decode cX7_isClear 174 = .ok (.iaload, 1) := by decide +kernel
theorem dX7_isClear_175 : decode cX7_isClear 175 = .ok (.iload 10, 2) := by decide +kernel
theorem dX7_isClear_177 : decode cX7_isClear 177 = .ok (.imul, 1) := by decide +kernel
theorem dX7_isClear_178 : decode cX7_isClear 178 = .ok (.iload_n 2, 1) := by decide +kernel
theorem dX7_isClear_179 : decode cX7_isClear 179 = .ok (.iload 10, 2) := by decide +kernel
theorem dX7_isClear_181 : decode cX7_isClear 181 = .ok (.imul, 1) := by decide +kernel
theorem dX7_isClear_182 : decode cX7_isClear 182 = .ok (.iload 11, 2) := by decide +kernel
theorem dX7_isClear_184 : decode cX7_isClear 184 = .ok (.iload 5, 2) := by decide +kernel
theorem dX7_isClear_186 : decode cX7_isClear 186 = .ok (.iload_n 2, 1) := by decide +kernel
theorem dX7_isClear_187 : decode cX7_isClear 187 = .ok (.isub, 1) := by decide +kernel
theorem dX7_isClear_188 : decode cX7_isClear 188 = .ok (.imul, 1) := by decide +kernel
theorem dX7_isClear_189 : decode cX7_isClear 189 = .ok (.iadd, 1) := by decide +kernel
theorem dX7_isClear_190 : decode cX7_isClear 190 = .ok (.if_icmp .le 5, 3) := by decide +kernel
theorem dX7_isClear_193 : decode cX7_isClear 193 = .ok (.iconst 0, 1) := by decide +kernel
theorem dX7_isClear_194 : decode cX7_isClear 194 = .ok (.ireturn, 1) := by decide +kernel
theorem dX7_isClear_195 : decode cX7_isClear 195 = .ok (.iinc 11 1, 3) := by decide +kernel
theorem dX7_isClear_198 : decode cX7_isClear 198 = .ok (.goto (-104), 3) := by decide +kernel
theorem dX7_isClear_201 : decode cX7_isClear 201 = .ok (.iconst 1, 1) := by decide +kernel
theorem dX7_isClear_202 : decode cX7_isClear 202 = .ok (.ireturn, 1) := by decide +kernel
theorem dX7_unionOfSights_0 : decode cX7_unionOfSights 0 = .ok (.iconst 0, 1) := by decide +kernel
theorem dX7_unionOfSights_1 : decode cX7_unionOfSights 1 = .ok (.istore_n 3, 1) := by decide +kernel
theorem dX7_unionOfSights_2 : decode cX7_unionOfSights 2 = .ok (.iconst 0, 1) := by decide +kernel
theorem dX7_unionOfSights_3 : decode cX7_unionOfSights 3 = .ok (.istore 4, 2) := by decide +kernel
theorem dX7_unionOfSights_5 : decode cX7_unionOfSights 5 = .ok (.iload 4, 2) := by decide +kernel
theorem dX7_unionOfSights_7 : decode cX7_unionOfSights 7 = .ok (.aload_n 0, 1) := by decide +kernel
theorem dX7_unionOfSights_8 : decode cX7_unionOfSights 8 = .ok (.getfield 21, 3) := by decide +kernel
theorem dX7_unionOfSights_11 : decode cX7_unionOfSights 11 = .ok (.if_icmp .ge 29, 3) := by decide +kernel
theorem dX7_unionOfSights_14 : decode cX7_unionOfSights 14 = .ok (.iload_n 1, 1) := by decide +kernel
theorem dX7_unionOfSights_15 : decode cX7_unionOfSights 15 = .ok (.iload 4, 2) := by decide +kernel
theorem dX7_unionOfSights_17 : decode cX7_unionOfSights 17 = .ok (.ishr, 1) := by decide +kernel
theorem dX7_unionOfSights_18 : decode cX7_unionOfSights 18 = .ok (.iconst 1, 1) := by decide +kernel
theorem dX7_unionOfSights_19 : decode cX7_unionOfSights 19 = .ok (.iand, 1) := by decide +kernel
theorem dX7_unionOfSights_20 : decode cX7_unionOfSights 20 = .ok (.iconst 1, 1) := by decide +kernel
theorem dX7_unionOfSights_21 : decode cX7_unionOfSights 21 = .ok (.if_icmp .ne 13, 3) := by decide +kernel
theorem dX7_unionOfSights_24 : decode cX7_unionOfSights 24 = .ok (.iload_n 3, 1) := by decide +kernel
theorem dX7_unionOfSights_25 : decode cX7_unionOfSights 25 = .ok (.aload_n 0, 1) := by decide +kernel
theorem dX7_unionOfSights_26 : decode cX7_unionOfSights 26 = .ok (.iload 4, 2) := by decide +kernel
theorem dX7_unionOfSights_28 : decode cX7_unionOfSights 28 = .ok (.aload_n 2, 1) := by decide +kernel
theorem dX7_unionOfSights_29 : decode cX7_unionOfSights 29 = .ok (.invokevirtual 103, 3) := by decide +kernel
theorem dX7_unionOfSights_32 : decode cX7_unionOfSights 32 = .ok (.ior, 1) := by decide +kernel
theorem dX7_unionOfSights_33 : decode cX7_unionOfSights 33 = .ok (.istore_n 3, 1) := by decide +kernel
theorem dX7_unionOfSights_34 : decode cX7_unionOfSights 34 = .ok (.iinc 4 1, 3) := by decide +kernel
theorem dX7_unionOfSights_37 : decode cX7_unionOfSights 37 = .ok (.goto (-32), 3) := by decide +kernel
theorem dX7_unionOfSights_40 : decode cX7_unionOfSights 40 = .ok (.iload_n 3, 1) := by decide +kernel
theorem dX7_unionOfSights_41 : decode cX7_unionOfSights 41 = .ok (.ireturn, 1) := by decide +kernel
theorem dX7_hidden_0 : decode cX7_hidden 0 = .ok (.aload_n 0, 1) := by decide +kernel
theorem dX7_hidden_1 : decode cX7_hidden 1 = .ok (.invokevirtual 106, 3) := by decide +kernel
theorem dX7_hidden_4 : decode cX7_hidden 4 = .ok (.istore_n 2, 1) := by decide +kernel
theorem dX7_hidden_5 : decode cX7_hidden 5 = .ok (.iconst 0, 1) := by decide +kernel
theorem dX7_hidden_6 : decode cX7_hidden 6 = .ok (.istore_n 3, 1) := by decide +kernel
theorem dX7_hidden_7 : decode cX7_hidden 7 = .ok (.iload_n 3, 1) := by decide +kernel
theorem dX7_hidden_8 : decode cX7_hidden 8 = .ok (.aload_n 0, 1) := by decide +kernel
theorem dX7_hidden_9 : decode cX7_hidden 9 = .ok (.getfield 21, 3) := by decide +kernel
theorem dX7_hidden_12 : decode cX7_hidden 12 = .ok (.if_icmp .ge 20, 3) := by decide +kernel
theorem dX7_hidden_15 : decode cX7_hidden 15 = .ok (.iload_n 2, 1) := by decide +kernel
theorem dX7_hidden_16 : decode cX7_hidden 16 = .ok (.aload_n 0, 1) := by decide +kernel
theorem dX7_hidden_17 : decode cX7_hidden 17 = .ok (.iload_n 3, 1) := by decide +kernel
theorem dX7_hidden_18 : decode cX7_hidden 18 = .ok (.aload_n 1, 1) := by decide +kernel
theorem dX7_hidden_19 : decode cX7_hidden 19 = .ok (.invokevirtual 103, 3) := by decide +kernel
theorem dX7_hidden_22 : decode cX7_hidden 22 = .ok (.iconst (-1), 1) := by decide +kernel
theorem dX7_hidden_23 : decode cX7_hidden 23 = .ok (.ixor, 1) := by decide +kernel
theorem dX7_hidden_24 : decode cX7_hidden 24 = .ok (.iand, 1) := by decide +kernel
theorem dX7_hidden_25 : decode cX7_hidden 25 = .ok (.istore_n 2, 1) := by decide +kernel
theorem dX7_hidden_26 : decode cX7_hidden 26 = .ok (.iinc 3 1, 3) := by decide +kernel
theorem dX7_hidden_29 : decode cX7_hidden 29 = .ok (.goto (-22), 3) := by decide +kernel
theorem dX7_hidden_32 : decode cX7_hidden 32 = .ok (.iload_n 2, 1) := by decide +kernel
theorem dX7_hidden_33 : decode cX7_hidden 33 = .ok (.ireturn, 1) := by decide +kernel
theorem dX7_isSeen_0 : decode cX7_isSeen 0 = .ok (.iconst 0, 1) := by decide +kernel
theorem dX7_isSeen_1 : decode cX7_isSeen 1 = .ok (.istore_n 3, 1) := by decide +kernel
theorem dX7_isSeen_2 : decode cX7_isSeen 2 = .ok (.iload_n 3, 1) := by decide +kernel
theorem dX7_isSeen_3 : decode cX7_isSeen 3 = .ok (.aload_n 0, 1) := by decide +kernel
theorem dX7_isSeen_4 : decode cX7_isSeen 4 = .ok (.getfield 21, 3) := by decide +kernel
theorem dX7_isSeen_7 : decode cX7_isSeen 7 = .ok (.if_icmp .ge 21, 3) := by decide +kernel
theorem dX7_isSeen_10 : decode cX7_isSeen 10 = .ok (.aload_n 0, 1) := by decide +kernel
theorem dX7_isSeen_11 : decode cX7_isSeen 11 = .ok (.iload_n 3, 1) := by decide +kernel
theorem dX7_isSeen_12 : decode cX7_isSeen 12 = .ok (.iload_n 1, 1) := by decide +kernel
theorem dX7_isSeen_13 : decode cX7_isSeen 13 = .ok (.aload_n 2, 1) := by decide +kernel
theorem dX7_isSeen_14 : decode cX7_isSeen 14 = .ok (.invokevirtual 110, 3) := by decide +kernel
theorem dX7_isSeen_17 : decode cX7_isSeen 17 = .ok (.ifCond .eq 5, 3) := by decide +kernel
theorem dX7_isSeen_20 : decode cX7_isSeen 20 = .ok (.iconst 1, 1) := by decide +kernel
theorem dX7_isSeen_21 : decode cX7_isSeen 21 = .ok (.ireturn, 1) := by decide +kernel
theorem dX7_isSeen_22 : decode cX7_isSeen 22 = .ok (.iinc 3 1, 3) := by decide +kernel
theorem dX7_isSeen_25 : decode cX7_isSeen 25 = .ok (.goto (-23), 3) := by decide +kernel
theorem dX7_isSeen_28 : decode cX7_isSeen 28 = .ok (.iconst 0, 1) := by decide +kernel
theorem dX7_isSeen_29 : decode cX7_isSeen 29 = .ok (.ireturn, 1) := by decide +kernel
theorem dX7_seenBy_0 : decode cX7_seenBy 0 = .ok (.iconst 0, 1) := by decide +kernel
theorem dX7_seenBy_1 : decode cX7_seenBy 1 = .ok (.istore_n 3, 1) := by decide +kernel
theorem dX7_seenBy_2 : decode cX7_seenBy 2 = .ok (.iconst 0, 1) := by decide +kernel
theorem dX7_seenBy_3 : decode cX7_seenBy 3 = .ok (.istore 4, 2) := by decide +kernel
theorem dX7_seenBy_5 : decode cX7_seenBy 5 = .ok (.iconst 0, 1) := by decide +kernel
theorem dX7_seenBy_6 : decode cX7_seenBy 6 = .ok (.istore 5, 2) := by decide +kernel
theorem dX7_seenBy_8 : decode cX7_seenBy 8 = .ok (.iconst 0, 1) := by decide +kernel
theorem dX7_seenBy_9 : decode cX7_seenBy 9 = .ok (.istore 6, 2) := by decide +kernel
theorem dX7_seenBy_11 : decode cX7_seenBy 11 = .ok (.iconst 0, 1) := by decide +kernel
theorem dX7_seenBy_12 : decode cX7_seenBy 12 = .ok (.istore 7, 2) := by decide +kernel
theorem dX7_seenBy_14 : decode cX7_seenBy 14 = .ok (.iload 7, 2) := by decide +kernel
theorem dX7_seenBy_16 : decode cX7_seenBy 16 = .ok (.aload_n 0, 1) := by decide +kernel
theorem dX7_seenBy_17 : decode cX7_seenBy 17 = .ok (.getfield 21, 3) := by decide +kernel
theorem dX7_seenBy_20 : decode cX7_seenBy 20 = .ok (.if_icmp .ge 52, 3) := by decide +kernel
theorem dX7_seenBy_23 : decode cX7_seenBy 23 = .ok (.aload_n 0, 1) := by decide +kernel
theorem dX7_seenBy_24 : decode cX7_seenBy 24 = .ok (.iload 7, 2) := by decide +kernel
theorem dX7_seenBy_26 : decode cX7_seenBy 26 = .ok (.aload_n 2, 1) := by decide +kernel
theorem dX7_seenBy_27 : decode cX7_seenBy 27 = .ok (.invokevirtual 103, 3) := by decide +kernel
theorem dX7_seenBy_30 : decode cX7_seenBy 30 = .ok (.istore 8, 2) := by decide +kernel
theorem dX7_seenBy_32 : decode cX7_seenBy 32 = .ok (.iload 6, 2) := by decide +kernel
theorem dX7_seenBy_34 : decode cX7_seenBy 34 = .ok (.iload 5, 2) := by decide +kernel
theorem dX7_seenBy_36 : decode cX7_seenBy 36 = .ok (.iload 8, 2) := by decide +kernel
theorem dX7_seenBy_38 : decode cX7_seenBy 38 = .ok (.iand, 1) := by decide +kernel
theorem dX7_seenBy_39 : decode cX7_seenBy 39 = .ok (.ior, 1) := by decide +kernel
theorem dX7_seenBy_40 : decode cX7_seenBy 40 = .ok (.istore 6, 2) := by decide +kernel
theorem dX7_seenBy_42 : decode cX7_seenBy 42 = .ok (.iload 5, 2) := by decide +kernel
theorem dX7_seenBy_44 : decode cX7_seenBy 44 = .ok (.iload 4, 2) := by decide +kernel
theorem dX7_seenBy_46 : decode cX7_seenBy 46 = .ok (.iload 8, 2) := by decide +kernel
theorem dX7_seenBy_48 : decode cX7_seenBy 48 = .ok (.iand, 1) := by decide +kernel
theorem dX7_seenBy_49 : decode cX7_seenBy 49 = .ok (.ior, 1) := by decide +kernel
theorem dX7_seenBy_50 : decode cX7_seenBy 50 = .ok (.istore 5, 2) := by decide +kernel
theorem dX7_seenBy_52 : decode cX7_seenBy 52 = .ok (.iload 4, 2) := by decide +kernel
theorem dX7_seenBy_54 : decode cX7_seenBy 54 = .ok (.iload_n 3, 1) := by decide +kernel
theorem dX7_seenBy_55 : decode cX7_seenBy 55 = .ok (.iload 8, 2) := by decide +kernel
theorem dX7_seenBy_57 : decode cX7_seenBy 57 = .ok (.iand, 1) := by decide +kernel
theorem dX7_seenBy_58 : decode cX7_seenBy 58 = .ok (.ior, 1) := by decide +kernel
theorem dX7_seenBy_59 : decode cX7_seenBy 59 = .ok (.istore 4, 2) := by decide +kernel
theorem dX7_seenBy_61 : decode cX7_seenBy 61 = .ok (.iload_n 3, 1) := by decide +kernel
theorem dX7_seenBy_62 : decode cX7_seenBy 62 = .ok (.iload 8, 2) := by decide +kernel
theorem dX7_seenBy_64 : decode cX7_seenBy 64 = .ok (.ior, 1) := by decide +kernel
theorem dX7_seenBy_65 : decode cX7_seenBy 65 = .ok (.istore_n 3, 1) := by decide +kernel
theorem dX7_seenBy_66 : decode cX7_seenBy 66 = .ok (.iinc 7 1, 3) := by decide +kernel
theorem dX7_seenBy_69 : decode cX7_seenBy 69 = .ok (.goto (-55), 3) := by decide +kernel
theorem dX7_seenBy_72 : decode cX7_seenBy 72 = .ok (.iload_n 1, 1) := by decide +kernel
theorem dX7_seenBy_73 : decode cX7_seenBy 73 = .ok (.iconst 1, 1) := by decide +kernel
theorem dX7_seenBy_74 : decode cX7_seenBy 74 = .ok (.if_icmp .ne 7, 3) := by decide +kernel
theorem dX7_seenBy_77 : decode cX7_seenBy 77 = .ok (.iload_n 3, 1) := by decide +kernel
theorem dX7_seenBy_78 : decode cX7_seenBy 78 = .ok (.goto 25, 3) := by decide +kernel
theorem dX7_seenBy_81 : decode cX7_seenBy 81 = .ok (.iload_n 1, 1) := by decide +kernel
theorem dX7_seenBy_82 : decode cX7_seenBy 82 = .ok (.iconst 2, 1) := by decide +kernel
theorem dX7_seenBy_83 : decode cX7_seenBy 83 = .ok (.if_icmp .ne 8, 3) := by decide +kernel
theorem dX7_seenBy_86 : decode cX7_seenBy 86 = .ok (.iload 4, 2) := by decide +kernel
theorem dX7_seenBy_88 : decode cX7_seenBy 88 = .ok (.goto 15, 3) := by decide +kernel
theorem dX7_seenBy_91 : decode cX7_seenBy 91 = .ok (.iload_n 1, 1) := by decide +kernel
theorem dX7_seenBy_92 : decode cX7_seenBy 92 = .ok (.iconst 3, 1) := by decide +kernel
theorem dX7_seenBy_93 : decode cX7_seenBy 93 = .ok (.if_icmp .ne 8, 3) := by decide +kernel
theorem dX7_seenBy_96 : decode cX7_seenBy 96 = .ok (.iload 5, 2) := by decide +kernel
theorem dX7_seenBy_98 : decode cX7_seenBy 98 = .ok (.goto 5, 3) := by decide +kernel
theorem dX7_seenBy_101 : decode cX7_seenBy 101 = .ok (.iload 6, 2) := by decide +kernel
theorem dX7_seenBy_103 : decode cX7_seenBy 103 = .ok (.ireturn, 1) := by decide +kernel
theorem dX7_highest_0 : decode cX7_highest 0 = .ok (.iconst 0, 1) := by decide +kernel
theorem dX7_highest_1 : decode cX7_highest 1 = .ok (.istore_n 2, 1) := by decide +kernel
theorem dX7_highest_2 : decode cX7_highest 2 = .ok (.iconst 1, 1) := by decide +kernel
theorem dX7_highest_3 : decode cX7_highest 3 = .ok (.istore_n 3, 1) := by decide +kernel
theorem dX7_highest_4 : decode cX7_highest 4 = .ok (.iload_n 3, 1) := by decide +kernel
theorem dX7_highest_5 : decode cX7_highest 5 = .ok (.aload_n 0, 1) := by decide +kernel
theorem dX7_highest_6 : decode cX7_highest 6 = .ok (.getfield 18, 3) := by decide +kernel
theorem dX7_highest_9 : decode cX7_highest 9 = .ok (.if_icmp .ge 30, 3) := by decide +kernel
theorem dX7_highest_12 : decode cX7_highest 12 = .ok (.iload_n 1, 1) := by decide +kernel
theorem dX7_highest_13 : decode cX7_highest 13 = .ok (.aload_n 0, 1) := by decide +kernel
theorem dX7_highest_14 : decode cX7_highest 14 = .ok (.getfield 39, 3) := by decide +kernel
theorem dX7_highest_17 : decode cX7_highest 17 = .ok (.iload_n 3, 1) := by decide +kernel
theorem dX7_highest_18 : decode cX7_highest 18 = .ok (.iaload, 1) := by decide +kernel
theorem dX7_highest_19 : decode cX7_highest 19 = .ok (.imul, 1) := by decide +kernel
theorem dX7_highest_20 : decode cX7_highest 20 = .ok (.iload_n 1, 1) := by decide +kernel
theorem dX7_highest_21 : decode cX7_highest 21 = .ok (.aload_n 0, 1) := by decide +kernel
theorem dX7_highest_22 : decode cX7_highest 22 = .ok (.getfield 39, 3) := by decide +kernel
theorem dX7_highest_25 : decode cX7_highest 25 = .ok (.iload_n 2, 1) := by decide +kernel
theorem dX7_highest_26 : decode cX7_highest 26 = .ok (.iaload, 1) := by decide +kernel
theorem dX7_highest_27 : decode cX7_highest 27 = .ok (.imul, 1) := by decide +kernel
theorem dX7_highest_28 : decode cX7_highest 28 = .ok (.if_icmp .le 5, 3) := by decide +kernel
theorem dX7_highest_31 : decode cX7_highest 31 = .ok (.iload_n 3, 1) := by decide +kernel
theorem dX7_highest_32 : decode cX7_highest 32 = .ok (.istore_n 2, 1) := by decide +kernel
theorem dX7_highest_33 : decode cX7_highest 33 = .ok (.iinc 3 1, 3) := by decide +kernel
theorem dX7_highest_36 : decode cX7_highest 36 = .ok (.goto (-32), 3) := by decide +kernel
theorem dX7_highest_39 : decode cX7_highest 39 = .ok (.iload_n 2, 1) := by decide +kernel
theorem dX7_highest_40 : decode cX7_highest 40 = .ok (.ireturn, 1) := by decide +kernel
theorem dX7_sharpest_0 : decode cX7_sharpest 0 = .ok (.iconst (-1), 1) := by decide +kernel
theorem dX7_sharpest_1 : decode cX7_sharpest 1 = .ok (.istore_n 3, 1) := by decide +kernel
theorem dX7_sharpest_2 : decode cX7_sharpest 2 = .ok (.iconst 0, 1) := by decide +kernel
theorem dX7_sharpest_3 : decode cX7_sharpest 3 = .ok (.istore 4, 2) := by decide +kernel
theorem dX7_sharpest_5 : decode cX7_sharpest 5 = .ok (.iconst 0, 1) := by decide +kernel
theorem dX7_sharpest_6 : decode cX7_sharpest 6 = .ok (.istore 5, 2) := by decide +kernel
theorem dX7_sharpest_8 : decode cX7_sharpest 8 = .ok (.iload 5, 2) := by decide +kernel
theorem dX7_sharpest_10 : decode cX7_sharpest 10 = .ok (.aload_n 0, 1) := by decide +kernel
theorem dX7_sharpest_11 : decode cX7_sharpest 11 = .ok (.getfield 21, 3) := by decide +kernel
theorem dX7_sharpest_14 : decode cX7_sharpest 14 = .ok (.if_icmp .ge 42, 3) := by decide +kernel
theorem dX7_sharpest_17 : decode cX7_sharpest 17 = .ok (.iload_n 1, 1) := by decide +kernel
theorem dX7_sharpest_18 : decode cX7_sharpest 18 = .ok (.aload_n 0, 1) := by decide +kernel
theorem dX7_sharpest_19 : decode cX7_sharpest 19 = .ok (.iload 5, 2) := by decide +kernel
theorem dX7_sharpest_21 : decode cX7_sharpest 21 = .ok (.aload_n 2, 1) := by decide +kernel
theorem dX7_sharpest_22 : decode cX7_sharpest 22 = .ok (.invokevirtual 103, 3) := by decide +kernel
theorem dX7_sharpest_25 : decode cX7_sharpest 25 = .ok (.invokestatic 114, 3) := by decide +kernel
theorem dX7_sharpest_28 : decode cX7_sharpest 28 = .ok (.imul, 1) := by decide +kernel
theorem dX7_sharpest_29 : decode cX7_sharpest 29 = .ok (.istore 6, 2) := by decide +kernel
theorem dX7_sharpest_31 : decode cX7_sharpest 31 = .ok (.iload_n 3, 1) := by decide +kernel
theorem dX7_sharpest_32 : decode cX7_sharpest 32 = .ok (.iconst (-1), 1) := by decide +kernel
theorem dX7_sharpest_33 : decode cX7_sharpest 33 = .ok (.if_icmp .eq 10, 3) := by decide +kernel
theorem dX7_sharpest_36 : decode cX7_sharpest 36 = .ok (.iload 6, 2) := by decide +kernel
theorem dX7_sharpest_38 : decode cX7_sharpest 38 = .ok (.iload 4, 2) := by decide +kernel
theorem dX7_sharpest_40 : decode cX7_sharpest 40 = .ok (.if_icmp .le 10, 3) := by decide +kernel
theorem dX7_sharpest_43 : decode cX7_sharpest 43 = .ok (.iload 5, 2) := by decide +kernel
theorem dX7_sharpest_45 : decode cX7_sharpest 45 = .ok (.istore_n 3, 1) := by decide +kernel
theorem dX7_sharpest_46 : decode cX7_sharpest 46 = .ok (.iload 6, 2) := by decide +kernel
theorem dX7_sharpest_48 : decode cX7_sharpest 48 = .ok (.istore 4, 2) := by decide +kernel
theorem dX7_sharpest_50 : decode cX7_sharpest 50 = .ok (.iinc 5 1, 3) := by decide +kernel
theorem dX7_sharpest_53 : decode cX7_sharpest 53 = .ok (.goto (-45), 3) := by decide +kernel
theorem dX7_sharpest_56 : decode cX7_sharpest 56 = .ok (.iload_n 3, 1) := by decide +kernel
theorem dX7_sharpest_57 : decode cX7_sharpest 57 = .ok (.ireturn, 1) := by decide +kernel
theorem dX7_flat_0 : decode cX7_flat 0 = .ok (.iconst 0, 1) := by decide +kernel
theorem dX7_flat_1 : decode cX7_flat 1 = .ok (.istore_n 1, 1) := by decide +kernel
theorem dX7_flat_2 : decode cX7_flat 2 = .ok (.iconst 0, 1) := by decide +kernel
theorem dX7_flat_3 : decode cX7_flat 3 = .ok (.istore_n 2, 1) := by decide +kernel
theorem dX7_flat_4 : decode cX7_flat 4 = .ok (.iload_n 2, 1) := by decide +kernel
theorem dX7_flat_5 : decode cX7_flat 5 = .ok (.aload_n 0, 1) := by decide +kernel
theorem dX7_flat_6 : decode cX7_flat 6 = .ok (.getfield 18, 3) := by decide +kernel
theorem dX7_flat_9 : decode cX7_flat 9 = .ok (.if_icmp .ge 20, 3) := by decide +kernel
theorem dX7_flat_12 : decode cX7_flat 12 = .ok (.aload_n 0, 1) := by decide +kernel
theorem dX7_flat_13 : decode cX7_flat 13 = .ok (.iload_n 2, 1) := by decide +kernel
theorem dX7_flat_14 : decode cX7_flat 14 = .ok (.invokevirtual 119, 3) := by decide +kernel
theorem dX7_flat_17 : decode cX7_flat 17 = .ok (.ifCond .eq 6, 3) := by decide +kernel
theorem dX7_flat_20 : decode cX7_flat 20 = .ok (.iinc 1 1, 3) := by decide +kernel
theorem dX7_flat_23 : decode cX7_flat 23 = .ok (.iinc 2 1, 3) := by decide +kernel
theorem dX7_flat_26 : decode cX7_flat 26 = .ok (.goto (-22), 3) := by decide +kernel
theorem dX7_flat_29 : decode cX7_flat 29 = .ok (.iload_n 1, 1) := by decide +kernel
theorem dX7_flat_30 : decode cX7_flat 30 = .ok (.ireturn, 1) := by decide +kernel
theorem dX7_hasLikeBeside_0 : decode cX7_hasLikeBeside 0 = .ok (.iconst 0, 1) := by decide +kernel
theorem dX7_hasLikeBeside_1 : decode cX7_hasLikeBeside 1 = .ok (.istore_n 2, 1) := by decide +kernel
theorem dX7_hasLikeBeside_2 : decode cX7_hasLikeBeside 2 = .ok (.iload_n 2, 1) := by decide +kernel
theorem dX7_hasLikeBeside_3 : decode cX7_hasLikeBeside 3 = .ok (.iconst 4, 1) := by decide +kernel
theorem dX7_hasLikeBeside_4 : decode cX7_hasLikeBeside 4 = .ok (.if_icmp .ge 41, 3) := by decide +kernel
theorem dX7_hasLikeBeside_7 : decode cX7_hasLikeBeside 7 = .ok (.aload_n 0, 1) := by decide +kernel
theorem dX7_hasLikeBeside_8 : decode cX7_hasLikeBeside 8 = .ok (.iload_n 1, 1) := by decide +kernel
theorem dX7_hasLikeBeside_9 : decode cX7_hasLikeBeside 9 = .ok (.iload_n 2, 1) := by decide +kernel
theorem dX7_hasLikeBeside_10 : decode cX7_hasLikeBeside 10 = .ok (.invokevirtual 122, 3) := by decide +kernel
theorem dX7_hasLikeBeside_13 : decode cX7_hasLikeBeside 13 = .ok (.istore_n 3, 1) := by decide +kernel
theorem dX7_hasLikeBeside_14 : decode cX7_hasLikeBeside 14 = .ok (.aload_n 0, 1) := by decide +kernel
theorem dX7_hasLikeBeside_15 : decode cX7_hasLikeBeside 15 = .ok (.iload_n 3, 1) := by decide +kernel
theorem dX7_hasLikeBeside_16 : decode cX7_hasLikeBeside 16 = .ok (.invokevirtual 99, 3) := by decide +kernel
theorem dX7_hasLikeBeside_19 : decode cX7_hasLikeBeside 19 = .ok (.ifCond .eq 20, 3) := by decide +kernel
theorem dX7_hasLikeBeside_22 : decode cX7_hasLikeBeside 22 = .ok (.aload_n 0, 1) := by decide +kernel
theorem dX7_hasLikeBeside_23 : decode cX7_hasLikeBeside 23 = .ok (.getfield 39, 3) := by decide +kernel
theorem dX7_hasLikeBeside_26 : decode cX7_hasLikeBeside 26 = .ok (.iload_n 3, 1) := by decide +kernel
theorem dX7_hasLikeBeside_27 : decode cX7_hasLikeBeside 27 = .ok (.iaload, 1) := by decide +kernel
theorem dX7_hasLikeBeside_28 : decode cX7_hasLikeBeside 28 = .ok (.aload_n 0, 1) := by decide +kernel
theorem dX7_hasLikeBeside_29 : decode cX7_hasLikeBeside 29 = .ok (.getfield 39, 3) := by decide +kernel
theorem dX7_hasLikeBeside_32 : decode cX7_hasLikeBeside 32 = .ok (.iload_n 1, 1) := by decide +kernel
theorem dX7_hasLikeBeside_33 : decode cX7_hasLikeBeside 33 = .ok (.iaload, 1) := by decide +kernel
theorem dX7_hasLikeBeside_34 : decode cX7_hasLikeBeside 34 = .ok (.if_icmp .ne 5, 3) := by decide +kernel
theorem dX7_hasLikeBeside_37 : decode cX7_hasLikeBeside 37 = .ok (.iconst 1, 1) := by decide +kernel
theorem dX7_hasLikeBeside_38 : decode cX7_hasLikeBeside 38 = .ok (.ireturn, 1) := by decide +kernel
theorem dX7_hasLikeBeside_39 : decode cX7_hasLikeBeside 39 = .ok (.iinc 2 1, 3) := by decide +kernel
theorem dX7_hasLikeBeside_42 : decode cX7_hasLikeBeside 42 = .ok (.goto (-40), 3) := by decide +kernel
theorem dX7_hasLikeBeside_45 : decode cX7_hasLikeBeside 45 = .ok (.iconst 0, 1) := by decide +kernel
theorem dX7_hasLikeBeside_46 : decode cX7_hasLikeBeside 46 = .ok (.ireturn, 1) := by decide +kernel
theorem dX7_lost_0 : decode cX7_lost 0 = .ok (.iconst 0, 1) := by decide +kernel
theorem dX7_lost_1 : decode cX7_lost 1 = .ok (.istore_n 1, 1) := by decide +kernel
theorem dX7_lost_2 : decode cX7_lost 2 = .ok (.iconst 0, 1) := by decide +kernel
theorem dX7_lost_3 : decode cX7_lost 3 = .ok (.istore_n 2, 1) := by decide +kernel
theorem dX7_lost_4 : decode cX7_lost 4 = .ok (.iload_n 2, 1) := by decide +kernel
theorem dX7_lost_5 : decode cX7_lost 5 = .ok (.aload_n 0, 1) := by decide +kernel
theorem dX7_lost_6 : decode cX7_lost 6 = .ok (.getfield 18, 3) := by decide +kernel
theorem dX7_lost_9 : decode cX7_lost 9 = .ok (.if_icmp .ge 28, 3) := by decide +kernel
theorem dX7_lost_12 : decode cX7_lost 12 = .ok (.aload_n 0, 1) := by decide +kernel
theorem dX7_lost_13 : decode cX7_lost 13 = .ok (.getfield 39, 3) := by decide +kernel
theorem dX7_lost_16 : decode cX7_lost 16 = .ok (.iload_n 2, 1) := by decide +kernel
theorem dX7_lost_17 : decode cX7_lost 17 = .ok (.iaload, 1) := by decide +kernel
theorem dX7_lost_18 : decode cX7_lost 18 = .ok (.aload_n 0, 1) := by decide +kernel
theorem dX7_lost_19 : decode cX7_lost 19 = .ok (.getfield 24, 3) := by decide +kernel
theorem dX7_lost_22 : decode cX7_lost 22 = .ok (.if_icmp .ge 9, 3) := by decide +kernel
theorem dX7_lost_25 : decode cX7_lost 25 = .ok (.iload_n 1, 1) := by decide +kernel
theorem dX7_lost_26 : decode cX7_lost 26 = .ok (.iconst 1, 1) := by decide +kernel
theorem dX7_lost_27 : decode cX7_lost 27 = .ok (.iload_n 2, 1) := by decide +kernel
theorem dX7_lost_28 : decode cX7_lost 28 = .ok (.ishl, 1) := by decide +kernel
theorem dX7_lost_29 : decode cX7_lost 29 = .ok (.ior, 1) := by decide +kernel
theorem dX7_lost_30 : decode cX7_lost 30 = .ok (.istore_n 1, 1) := by decide +kernel
theorem dX7_lost_31 : decode cX7_lost 31 = .ok (.iinc 2 1, 3) := by decide +kernel
theorem dX7_lost_34 : decode cX7_lost 34 = .ok (.goto (-30), 3) := by decide +kernel
theorem dX7_lost_37 : decode cX7_lost 37 = .ok (.iload_n 1, 1) := by decide +kernel
theorem dX7_lost_38 : decode cX7_lost 38 = .ok (.ireturn, 1) := by decide +kernel
theorem dX7_mutual_0 : decode cX7_mutual 0 = .ok (.iconst 0, 1) := by decide +kernel
theorem dX7_mutual_1 : decode cX7_mutual 1 = .ok (.istore_n 2, 1) := by decide +kernel
theorem dX7_mutual_2 : decode cX7_mutual 2 = .ok (.iconst 0, 1) := by decide +kernel
theorem dX7_mutual_3 : decode cX7_mutual 3 = .ok (.istore_n 3, 1) := by decide +kernel
theorem dX7_mutual_4 : decode cX7_mutual 4 = .ok (.iload_n 3, 1) := by decide +kernel
theorem dX7_mutual_5 : decode cX7_mutual 5 = .ok (.aload_n 0, 1) := by decide +kernel
theorem dX7_mutual_6 : decode cX7_mutual 6 = .ok (.getfield 21, 3) := by decide +kernel
theorem dX7_mutual_9 : decode cX7_mutual 9 = .ok (.if_icmp .ge 64, 3) := by decide +kernel
theorem dX7_mutual_12 : decode cX7_mutual 12 = .ok (.iload_n 3, 1) := by decide +kernel
theorem dX7_mutual_13 : decode cX7_mutual 13 = .ok (.iconst 1, 1) := by decide +kernel
theorem dX7_mutual_14 : decode cX7_mutual 14 = .ok (.iadd, 1) := by decide +kernel
theorem dX7_mutual_15 : decode cX7_mutual 15 = .ok (.istore 4, 2) := by decide +kernel
theorem dX7_mutual_17 : decode cX7_mutual 17 = .ok (.iload 4, 2) := by decide +kernel
theorem dX7_mutual_19 : decode cX7_mutual 19 = .ok (.aload_n 0, 1) := by decide +kernel
theorem dX7_mutual_20 : decode cX7_mutual 20 = .ok (.getfield 21, 3) := by decide +kernel
theorem dX7_mutual_23 : decode cX7_mutual 23 = .ok (.if_icmp .ge 44, 3) := by decide +kernel
theorem dX7_mutual_26 : decode cX7_mutual 26 = .ok (.aload_n 0, 1) := by decide +kernel
theorem dX7_mutual_27 : decode cX7_mutual 27 = .ok (.iload_n 3, 1) := by decide +kernel
theorem dX7_mutual_28 : decode cX7_mutual 28 = .ok (.aload_n 0, 1) := by decide +kernel
theorem dX7_mutual_29 : decode cX7_mutual 29 = .ok (.getfield 43, 3) := by decide +kernel
theorem dX7_mutual_32 : decode cX7_mutual 32 = .ok (.iload 4, 2) := by decide +kernel
theorem dX7_mutual_34 : decode cX7_mutual 34 = .ok (.iaload, 1) := by decide +kernel
theorem dX7_mutual_35 : decode cX7_mutual 35 = .ok (.aload_n 1, 1) := by decide +kernel
theorem dX7_mutual_36 : decode cX7_mutual 36 = .ok (.invokevirtual 110, 3) := by decide +kernel
theorem dX7_mutual_39 : decode cX7_mutual 39 = .ok (.ifCond .eq 22, 3) := by decide +kernel
theorem dX7_mutual_42 : decode cX7_mutual 42 = .ok (.aload_n 0, 1) := by decide +kernel
theorem dX7_mutual_43 : decode cX7_mutual 43 = .ok (.iload 4, 2) := by decide +kernel
theorem dX7_mutual_45 : decode cX7_mutual 45 = .ok (.aload_n 0, 1) := by decide +kernel
theorem dX7_mutual_46 : decode cX7_mutual 46 = .ok (.getfield 43, 3) := by decide +kernel
theorem dX7_mutual_49 : decode cX7_mutual 49 = .ok (.iload_n 3, 1) := by decide +kernel
theorem dX7_mutual_50 : decode cX7_mutual 50 = .ok (.iaload, 1) := by decide +kernel
theorem dX7_mutual_51 : decode cX7_mutual 51 = .ok (.aload_n 1, 1) := by decide +kernel
theorem dX7_mutual_52 : decode cX7_mutual 52 = .ok (.invokevirtual 110, 3) := by decide +kernel
theorem dX7_mutual_55 : decode cX7_mutual 55 = .ok (.ifCond .eq 6, 3) := by decide +kernel
theorem dX7_mutual_58 : decode cX7_mutual 58 = .ok (.iinc 2 1, 3) := by decide +kernel
theorem dX7_mutual_61 : decode cX7_mutual 61 = .ok (.iinc 4 1, 3) := by decide +kernel
theorem dX7_mutual_64 : decode cX7_mutual 64 = .ok (.goto (-47), 3) := by decide +kernel
theorem dX7_mutual_67 : decode cX7_mutual 67 = .ok (.iinc 3 1, 3) := by decide +kernel
theorem dX7_mutual_70 : decode cX7_mutual 70 = .ok (.goto (-66), 3) := by decide +kernel
theorem dX7_mutual_73 : decode cX7_mutual 73 = .ok (.iload_n 2, 1) := by decide +kernel
theorem dX7_mutual_74 : decode cX7_mutual 74 = .ok (.ireturn, 1) := by decide +kernel
theorem dX8_init_0 : decode cX8_init 0 = .ok (.aload_n 0, 1) := by decide +kernel
theorem dX8_init_1 : decode cX8_init 1 = .ok (.invokespecial 3, 3) := by decide +kernel
theorem dX8_init_4 : decode cX8_init 4 = .ok (.aload_n 0, 1) := by decide +kernel
theorem dX8_init_5 : decode cX8_init 5 = .ok (.sipush 240, 3) := by decide +kernel
theorem dX8_init_8 : decode cX8_init 8 = .ok (.newarray .int, 2) := by decide +kernel
theorem dX8_init_10 : decode cX8_init 10 = .ok (.putfield 11, 3) := by decide +kernel
theorem dX8_init_13 : decode cX8_init 13 = .ok (.aload_n 0, 1) := by decide +kernel
theorem dX8_init_14 : decode cX8_init 14 = .ok (.iconst 0, 1) := by decide +kernel
theorem dX8_init_15 : decode cX8_init 15 = .ok (.putfield 15, 3) := by decide +kernel
theorem dX8_init_18 : decode cX8_init 18 = .ok (.aload_n 0, 1) := by decide +kernel
theorem dX8_init_19 : decode cX8_init 19 = .ok (.iconst (-1), 1) := by decide +kernel
theorem dX8_init_20 : decode cX8_init 20 = .ok (.putfield 19, 3) := by decide +kernel
theorem dX8_init_23 : decode cX8_init 23 = .ok (.aload_n 0, 1) := by decide +kernel
theorem dX8_init_24 : decode cX8_init 24 = .ok (.iconst 0, 1) := by decide +kernel
theorem dX8_init_25 : decode cX8_init 25 = .ok (.putfield 22, 3) := by decide +kernel
theorem dX8_init_28 : decode cX8_init 28 = .ok (.return_, 1) := by decide +kernel
theorem dX8_bytesIn_0 : decode cX8_bytesIn 0 = .ok (.iconst 0, 1) := by decide +kernel
theorem dX8_bytesIn_1 : decode cX8_bytesIn 1 = .ok (.istore_n 1, 1) := by decide +kernel
theorem dX8_bytesIn_2 : decode cX8_bytesIn 2 = .ok (.bipush 24, 2) := by decide +kernel
theorem dX8_bytesIn_4 : decode cX8_bytesIn 4 = .ok (.istore_n 2, 1) := by decide +kernel
theorem dX8_bytesIn_5 : decode cX8_bytesIn 5 = .ok (.iload_n 2, 1) := by decide +kernel
theorem dX8_bytesIn_6 : decode cX8_bytesIn 6 = .ok (.ifCond .lt 22, 3) := by decide +kernel
theorem dX8_bytesIn_9 : decode cX8_bytesIn 9 = .ok (.iload_n 0, 1) := by decide +kernel
theorem dX8_bytesIn_10 : decode cX8_bytesIn 10 = .ok (.iload_n 2, 1) := by decide +kernel
theorem dX8_bytesIn_11 : decode cX8_bytesIn 11 = .ok (.iushr, 1) := by decide +kernel
theorem dX8_bytesIn_12 : decode cX8_bytesIn 12 = .ok (.sipush 255, 3) := by decide +kernel
theorem dX8_bytesIn_15 : decode cX8_bytesIn 15 = .ok (.iand, 1) := by decide +kernel
theorem dX8_bytesIn_16 : decode cX8_bytesIn 16 = .ok (.ifCond .eq 6, 3) := by decide +kernel
theorem dX8_bytesIn_19 : decode cX8_bytesIn 19 = .ok (.iinc 1 1, 3) := by decide +kernel
theorem dX8_bytesIn_22 : decode cX8_bytesIn 22 = .ok (.iinc 2 (-8), 3) := by decide +kernel
theorem dX8_bytesIn_25 : decode cX8_bytesIn 25 = .ok (.goto (-20), 3) := by decide +kernel
theorem dX8_bytesIn_28 : decode cX8_bytesIn 28 = .ok (.iload_n 1, 1) := by decide +kernel
theorem dX8_bytesIn_29 : decode cX8_bytesIn 29 = .ok (.ireturn, 1) := by decide +kernel
theorem dX8_append_0 : decode cX8_append 0 = .ok (.bipush 24, 2) := by decide +kernel
theorem dX8_append_2 : decode cX8_append 2 = .ok (.istore_n 2, 1) := by decide +kernel
theorem dX8_append_3 : decode cX8_append 3 = .ok (.iload_n 2, 1) := by decide +kernel
theorem dX8_append_4 : decode cX8_append 4 = .ok (.ifCond .lt 51, 3) := by decide +kernel
theorem dX8_append_7 : decode cX8_append 7 = .ok (.iload_n 1, 1) := by decide +kernel
theorem dX8_append_8 : decode cX8_append 8 = .ok (.iload_n 2, 1) := by decide +kernel
theorem dX8_append_9 : decode cX8_append 9 = .ok (.iushr, 1) := by decide +kernel
theorem dX8_append_10 : decode cX8_append 10 = .ok (.sipush 255, 3) := by decide +kernel
theorem dX8_append_13 : decode cX8_append 13 = .ok (.iand, 1) := by decide +kernel
theorem dX8_append_14 : decode cX8_append 14 = .ok (.istore_n 3, 1) := by decide +kernel
theorem dX8_append_15 : decode cX8_append 15 = .ok (.iload_n 3, 1) := by decide +kernel
theorem dX8_append_16 : decode cX8_append 16 = .ok (.ifCond .eq 33, 3) := by decide +kernel
theorem dX8_append_19 : decode cX8_append 19 = .ok (.aload_n 0, 1) := by decide +kernel
theorem dX8_append_20 : decode cX8_append 20 = .ok (.getfield 15, 3) := by decide +kernel
theorem dX8_append_23 : decode cX8_append 23 = .ok (.sipush 240, 3) := by decide +kernel
theorem dX8_append_26 : decode cX8_append 26 = .ok (.if_icmp .ge 23, 3) := by decide +kernel
theorem dX8_append_29 : decode cX8_append 29 = .ok (.aload_n 0, 1) := by decide +kernel
theorem dX8_append_30 : decode cX8_append 30 = .ok (.getfield 11, 3) := by decide +kernel
theorem dX8_append_33 : decode cX8_append 33 = .ok (.aload_n 0, 1) := by decide +kernel
theorem dX8_append_34 : decode cX8_append 34 = .ok (.getfield 15, 3) := by decide +kernel
theorem dX8_append_37 : decode cX8_append 37 = .ok (.iload_n 3, 1) := by decide +kernel
theorem dX8_append_38 : decode cX8_append 38 = .ok (.iastore, 1) := by decide +kernel
theorem dX8_append_39 : decode cX8_append 39 = .ok (.aload_n 0, 1) := by decide +kernel
theorem dX8_append_40 : decode cX8_append 40 = .ok (.dup, 1) := by decide +kernel
theorem dX8_append_41 : decode cX8_append 41 = .ok (.getfield 15, 3) := by decide +kernel
theorem dX8_append_44 : decode cX8_append 44 = .ok (.iconst 1, 1) := by decide +kernel
theorem dX8_append_45 : decode cX8_append 45 = .ok (.iadd, 1) := by decide +kernel
theorem dX8_append_46 : decode cX8_append 46 = .ok (.putfield 15, 3) := by decide +kernel
theorem dX8_append_49 : decode cX8_append 49 = .ok (.iinc 2 (-8), 3) := by decide +kernel
theorem dX8_append_52 : decode cX8_append 52 = .ok (.goto (-49), 3) := by decide +kernel
theorem dX8_append_55 : decode cX8_append 55 = .ok (.return_, 1) := by decide +kernel
theorem dX8_rewind_0 : decode cX8_rewind 0 = .ok (.aload_n 0, 1) := by decide +kernel
theorem dX8_rewind_1 : decode cX8_rewind 1 = .ok (.iconst 0, 1) := by decide +kernel
theorem dX8_rewind_2 : decode cX8_rewind 2 = .ok (.putfield 22, 3) := by decide +kernel
theorem dX8_rewind_5 : decode cX8_rewind 5 = .ok (.aload_n 0, 1) := by decide +kernel
theorem dX8_rewind_6 : decode cX8_rewind 6 = .ok (.iconst (-1), 1) := by decide +kernel
theorem dX8_rewind_7 : decode cX8_rewind 7 = .ok (.putfield 19, 3) := by decide +kernel
theorem dX8_rewind_10 : decode cX8_rewind 10 = .ok (.return_, 1) := by decide +kernel
theorem dX8_peek_0 : decode cX8_peek 0 = .ok (.aload_n 0, 1) := by decide +kernel
theorem dX8_peek_1 : decode cX8_peek 1 = .ok (.getfield 19, 3) := by decide +kernel
theorem dX8_peek_4 : decode cX8_peek 4 = .ok (.iconst (-1), 1) := by decide +kernel
theorem dX8_peek_5 : decode cX8_peek 5 = .ok (.if_icmp .eq 5, 3) := by decide +kernel
theorem dX8_peek_8 : decode cX8_peek 8 = .ok (.iconst (-1), 1) := by decide +kernel
theorem dX8_peek_9 : decode cX8_peek 9 = .ok (.ireturn, 1) := by decide +kernel
theorem dX8_peek_10 : decode cX8_peek 10 = .ok (.aload_n 0, 1) := by decide +kernel
theorem dX8_peek_11 : decode cX8_peek 11 = .ok (.getfield 22, 3) := by decide +kernel
theorem dX8_peek_14 : decode cX8_peek 14 = .ok (.istore_n 1, 1) := by decide +kernel
theorem dX8_peek_15 : decode cX8_peek 15 = .ok (.iload_n 1, 1) := by decide +kernel
theorem dX8_peek_16 : decode cX8_peek 16 = .ok (.aload_n 0, 1) := by decide +kernel
theorem dX8_peek_17 : decode cX8_peek 17 = .ok (.getfield 15, 3) := by decide +kernel
theorem dX8_peek_20 : decode cX8_peek 20 = .ok (.if_icmp .ge 27, 3) := by decide +kernel
theorem dX8_peek_23 : decode cX8_peek 23 = .ok (.aload_n 0, 1) := by decide +kernel
theorem dX8_peek_24 : decode cX8_peek 24 = .ok (.getfield 11, 3) := by decide +kernel
theorem dX8_peek_27 : decode cX8_peek 27 = .ok (.iload_n 1, 1) := by decide +kernel
theorem dX8_peek_28 : decode cX8_peek 28 = .ok (.iaload, 1) := by decide +kernel
theorem dX8_peek_29 : decode cX8_peek 29 = .ok (.bipush 32, 2) := by decide +kernel
theorem dX8_peek_31 : decode cX8_peek 31 = .ok (.if_icmp .ne 16, 3) := by decide +kernel
theorem dX8_peek_34 : decode cX8_peek 34 = .ok (.aload_n 0, 1) := by decide +kernel
theorem dX8_peek_35 : decode cX8_peek 35 = .ok (.iload_n 1, 1) := by decide +kernel
theorem dX8_peek_36 : decode cX8_peek 36 = .ok (.iconst 1, 1) := by decide +kernel
theorem dX8_peek_37 : decode cX8_peek 37 = .ok (.iadd, 1) := by decide +kernel
theorem dX8_peek_38 : decode cX8_peek 38 = .ok (.putfield 22, 3) := by decide +kernel
theorem dX8_peek_41 : decode cX8_peek 41 = .ok (.iinc 1 1, 3) := by decide +kernel
theorem dX8_peek_44 : decode cX8_peek 44 = .ok (.goto (-29), 3) := by decide +kernel
theorem dX8_peek_47 : decode cX8_peek 47 = .ok (.aload_n 0, 1) := by decide +kernel
theorem dX8_peek_48 : decode cX8_peek 48 = .ok (.getfield 22, 3) := by decide +kernel
theorem dX8_peek_51 : decode cX8_peek 51 = .ok (.aload_n 0, 1) := by decide +kernel
theorem dX8_peek_52 : decode cX8_peek 52 = .ok (.getfield 15, 3) := by decide +kernel
theorem dX8_peek_55 : decode cX8_peek 55 = .ok (.if_icmp .ge 15, 3) := by decide +kernel
theorem dX8_peek_58 : decode cX8_peek 58 = .ok (.aload_n 0, 1) := by decide +kernel
theorem dX8_peek_59 : decode cX8_peek 59 = .ok (.getfield 11, 3) := by decide +kernel
theorem dX8_peek_62 : decode cX8_peek 62 = .ok (.aload_n 0, 1) := by decide +kernel
theorem dX8_peek_63 : decode cX8_peek 63 = .ok (.getfield 22, 3) := by decide +kernel
theorem dX8_peek_66 : decode cX8_peek 66 = .ok (.iaload, 1) := by decide +kernel
theorem dX8_peek_67 : decode cX8_peek 67 = .ok (.goto 4, 3) := by decide +kernel
theorem dX8_peek_70 : decode cX8_peek 70 = .ok (.iconst (-1), 1) := by decide +kernel
theorem dX8_peek_71 : decode cX8_peek 71 = .ok (.ireturn, 1) := by decide +kernel
theorem dX8_step_0 : decode cX8_step 0 = .ok (.aload_n 0, 1) := by decide +kernel
theorem dX8_step_1 : decode cX8_step 1 = .ok (.getfield 22, 3) := by decide +kernel
theorem dX8_step_4 : decode cX8_step 4 = .ok (.aload_n 0, 1) := by decide +kernel
theorem dX8_step_5 : decode cX8_step 5 = .ok (.getfield 15, 3) := by decide +kernel
theorem dX8_step_8 : decode cX8_step 8 = .ok (.if_icmp .ge 13, 3) := by decide +kernel
theorem dX8_step_11 : decode cX8_step 11 = .ok (.aload_n 0, 1) := by decide +kernel
theorem dX8_step_12 : decode cX8_step 12 = .ok (.dup, 1) := by decide +kernel
theorem dX8_step_13 : decode cX8_step 13 = .ok (.getfield 22, 3) := by decide +kernel
theorem dX8_step_16 : decode cX8_step 16 = .ok (.iconst 1, 1) := by decide +kernel
theorem dX8_step_17 : decode cX8_step 17 = .ok (.iadd, 1) := by decide +kernel
theorem dX8_step_18 : decode cX8_step 18 = .ok (.putfield 22, 3) := by decide +kernel
theorem dX8_step_21 : decode cX8_step 21 = .ok (.return_, 1) := by decide +kernel
theorem dX8_fail_0 : decode cX8_fail 0 = .ok (.aload_n 0, 1) := by decide +kernel
theorem dX8_fail_1 : decode cX8_fail 1 = .ok (.getfield 19, 3) := by decide +kernel
theorem dX8_fail_4 : decode cX8_fail 4 = .ok (.iconst (-1), 1) := by decide +kernel
theorem dX8_fail_5 : decode cX8_fail 5 = .ok (.if_icmp .ne 11, 3) := by decide +kernel
theorem dX8_fail_8 : decode cX8_fail 8 = .ok (.aload_n 0, 1) := by decide +kernel
theorem dX8_fail_9 : decode cX8_fail 9 = .ok (.aload_n 0, 1) := by decide +kernel
theorem dX8_fail_10 : decode cX8_fail 10 = .ok (.getfield 22, 3) := by decide +kernel
theorem dX8_fail_13 : decode cX8_fail 13 = .ok (.putfield 19, 3) := by decide +kernel
theorem dX8_fail_16 : decode cX8_fail 16 = .ok (.return_, 1) := by decide +kernel
theorem dX8_expect_0 : decode cX8_expect 0 = .ok (.aload_n 0, 1) := by decide +kernel
theorem dX8_expect_1 : decode cX8_expect 1 = .ok (.invokevirtual 25, 3) := by decide +kernel
theorem dX8_expect_4 : decode cX8_expect 4 = .ok (.iload_n 1, 1) := by decide +kernel
theorem dX8_expect_5 : decode cX8_expect 5 = .ok (.if_icmp .ne 10, 3) := by decide +kernel
theorem dX8_expect_8 : decode cX8_expect 8 = .ok (.aload_n 0, 1) := by decide +kernel
theorem dX8_expect_9 : decode cX8_expect 9 = .ok (.invokevirtual 29, 3) := by decide +kernel
theorem dX8_expect_12 : decode cX8_expect 12 = .ok (.goto 7, 3) := by decide +kernel
theorem dX8_expect_15 : decode cX8_expect 15 = .ok (.aload_n 0, 1) := by decide +kernel
theorem dX8_expect_16 : decode cX8_expect 16 = .ok (.invokevirtual 32, 3) := by decide +kernel
theorem dX8_expect_19 : decode cX8_expect 19 = .ok (.return_, 1) := by decide +kernel
theorem dX8_isDigit_0 : decode cX8_isDigit 0 = .ok (.iload_n 0, 1) := by decide +kernel
theorem dX8_isDigit_1 : decode cX8_isDigit 1 = .ok (.bipush 48, 2) := by decide +kernel
theorem dX8_isDigit_3 : decode cX8_isDigit 3 = .ok (.if_icmp .lt 13, 3) := by decide +kernel
theorem dX8_isDigit_6 : decode cX8_isDigit 6 = .ok (.iload_n 0, 1) := by decide +kernel
theorem dX8_isDigit_7 : decode cX8_isDigit 7 = .ok (.bipush 57, 2) := by decide +kernel
theorem dX8_isDigit_9 : decode cX8_isDigit 9 = .ok (.if_icmp .gt 7, 3) := by decide +kernel
theorem dX8_isDigit_12 : decode cX8_isDigit 12 = .ok (.iconst 1, 1) := by decide +kernel
theorem dX8_isDigit_13 : decode cX8_isDigit 13 = .ok (.goto 4, 3) := by decide +kernel
theorem dX8_isDigit_16 : decode cX8_isDigit 16 = .ok (.iconst 0, 1) := by decide +kernel
theorem dX8_isDigit_17 : decode cX8_isDigit 17 = .ok (.ireturn, 1) := by decide +kernel
theorem dX8_number_0 : decode cX8_number 0 = .ok (.aload_n 0, 1) := by decide +kernel
theorem dX8_number_1 : decode cX8_number 1 = .ok (.invokevirtual 25, 3) := by decide +kernel
theorem dX8_number_4 : decode cX8_number 4 = .ok (.invokestatic 35, 3) := by decide +kernel
theorem dX8_number_7 : decode cX8_number 7 = .ok (.ifCond .ne 9, 3) := by decide +kernel
theorem dX8_number_10 : decode cX8_number 10 = .ok (.aload_n 0, 1) := by decide +kernel
theorem dX8_number_11 : decode cX8_number 11 = .ok (.invokevirtual 32, 3) := by decide +kernel
theorem dX8_number_14 : decode cX8_number 14 = .ok (.iconst 0, 1) := by decide +kernel
theorem dX8_number_15 : decode cX8_number 15 = .ok (.ireturn, 1) := by decide +kernel
theorem dX8_number_16 : decode cX8_number 16 = .ok (.iconst 0, 1) := by decide +kernel
theorem dX8_number_17 : decode cX8_number 17 = .ok (.istore_n 2, 1) := by decide +kernel
theorem dX8_number_18 : decode cX8_number 18 = .ok (.iconst 0, 1) := by decide +kernel
theorem dX8_number_19 : decode cX8_number 19 = .ok (.istore_n 3, 1) := by decide +kernel
theorem dX8_number_20 : decode cX8_number 20 = .ok (.iload_n 3, 1) := by decide +kernel
theorem dX8_number_21 : decode cX8_number 21 = .ok (.iload_n 1, 1) := by decide +kernel
theorem dX8_number_22 : decode cX8_number 22 = .ok (.if_icmp .ge 63, 3) := by decide +kernel
theorem dX8_number_25 : decode cX8_number 25 = .ok (.aload_n 0, 1) := by decide +kernel
theorem dX8_number_26 : decode cX8_number 26 = .ok (.getfield 22, 3) := by decide +kernel
theorem dX8_number_29 : decode cX8_number 29 = .ok (.aload_n 0, 1) := by decide +kernel
theorem dX8_number_30 : decode cX8_number 30 = .ok (.getfield 15, 3) := by decide +kernel
theorem dX8_number_33 : decode cX8_number 33 = .ok (.if_icmp .ge 52, 3) := by decide +kernel
theorem dX8_number_36 : decode cX8_number 36 = .ok (.aload_n 0, 1) := by decide +kernel
theorem dX8_number_37 : decode cX8_number 37 = .ok (.getfield 11, 3) := by decide +kernel
theorem dX8_number_40 : decode cX8_number 40 = .ok (.aload_n 0, 1) := by decide +kernel
theorem dX8_number_41 : decode cX8_number 41 = .ok (.getfield 22, 3) := by decide +kernel
theorem dX8_number_44 : decode cX8_number 44 = .ok (.iaload, 1) := by decide +kernel
theorem dX8_number_45 : decode cX8_number 45 = .ok (.invokestatic 35, 3) := by decide +kernel
theorem dX8_number_48 : decode cX8_number 48 = .ok (.ifCond .eq 37, 3) := by decide +kernel
theorem dX8_number_51 : decode cX8_number 51 = .ok (.iload_n 2, 1) := by decide +kernel
theorem dX8_number_52 : decode cX8_number 52 = .ok (.bipush 10, 2) := by decide +kernel
theorem dX8_number_54 : decode cX8_number 54 = .ok (.imul, 1) := by decide +kernel
theorem dX8_number_55 : decode cX8_number 55 = .ok (.aload_n 0, 1) := by decide +kernel
theorem dX8_number_56 : decode cX8_number 56 = .ok (.getfield 11, 3) := by decide +kernel
theorem dX8_number_59 : decode cX8_number 59 = .ok (.aload_n 0, 1) := by decide +kernel
theorem dX8_number_60 : decode cX8_number 60 = .ok (.getfield 22, 3) := by decide +kernel
theorem dX8_number_63 : decode cX8_number 63 = .ok (.iaload, 1) := by decide +kernel
theorem dX8_number_64 : decode cX8_number 64 = .ok (.iadd, 1) := by decide +kernel
theorem dX8_number_65 : decode cX8_number 65 = .ok (.bipush 48, 2) := by decide +kernel
theorem dX8_number_67 : decode cX8_number 67 = .ok (.isub, 1) := by decide +kernel
theorem dX8_number_68 : decode cX8_number 68 = .ok (.istore_n 2, 1) := by decide +kernel
theorem dX8_number_69 : decode cX8_number 69 = .ok (.aload_n 0, 1) := by decide +kernel
theorem dX8_number_70 : decode cX8_number 70 = .ok (.dup, 1) := by decide +kernel
theorem dX8_number_71 : decode cX8_number 71 = .ok (.getfield 22, 3) := by decide +kernel
theorem dX8_number_74 : decode cX8_number 74 = .ok (.iconst 1, 1) := by decide +kernel
theorem dX8_number_75 : decode cX8_number 75 = .ok (.iadd, 1) := by decide +kernel
theorem dX8_number_76 : decode cX8_number 76 = .ok (.putfield 22, 3) := by decide +kernel
theorem dX8_number_79 : decode cX8_number 79 = .ok (.iinc 3 1, 3) := by decide +kernel
theorem dX8_number_82 : decode cX8_number 82 = .ok (.goto (-62), 3) := by decide +kernel
theorem dX8_number_85 : decode cX8_number 85 = .ok (.aload_n 0, 1) := by decide +kernel
theorem dX8_number_86 : decode cX8_number 86 = .ok (.getfield 22, 3) := by decide +kernel
theorem dX8_number_89 : decode cX8_number 89 = .ok (.aload_n 0, 1) := by decide +kernel
theorem dX8_number_90 : decode cX8_number 90 = .ok (.getfield 15, 3) := by decide +kernel
theorem dX8_number_93 : decode cX8_number 93 = .ok (.if_icmp .ge 22, 3) := by decide +kernel
theorem dX8_number_96 : decode cX8_number 96 = .ok (.aload_n 0, 1) := by decide +kernel
theorem dX8_number_97 : decode cX8_number 97 = .ok (.getfield 11, 3) := by decide +kernel
theorem dX8_number_100 : decode cX8_number 100 = .ok (.aload_n 0, 1) := by decide +kernel
theorem dX8_number_101 : decode cX8_number 101 = .ok (.getfield 22, 3) := by decide +kernel
theorem dX8_number_104 : decode cX8_number 104 = .ok (.iaload, 1) := by decide +kernel
theorem dX8_number_105 : decode cX8_number 105 = .ok (.invokestatic 35, 3) := by decide +kernel
theorem dX8_number_108 : decode cX8_number 108 = .ok (.ifCond .eq 7, 3) := by decide +kernel
theorem dX8_number_111 : decode cX8_number 111 = .ok (.aload_n 0, 1) := by decide +kernel
theorem dX8_number_112 : decode cX8_number 112 = .ok (.invokevirtual 32, 3) := by decide +kernel
theorem dX8_number_115 : decode cX8_number 115 = .ok (.iload_n 2, 1) := by decide +kernel
theorem dX8_number_116 : decode cX8_number 116 = .ok (.ireturn, 1) := by decide +kernel
theorem dX8_bounded_0 : decode cX8_bounded 0 = .ok (.aload_n 0, 1) := by decide +kernel
theorem dX8_bounded_1 : decode cX8_bounded 1 = .ok (.iconst 2, 1) := by decide +kernel
theorem dX8_bounded_2 : decode cX8_bounded 2 = .ok (.invokevirtual 39, 3) := by decide +kernel
theorem dX8_bounded_5 : decode cX8_bounded 5 = .ok (.istore_n 3, 1) := by decide +kernel
theorem dX8_bounded_6 : decode cX8_bounded 6 = .ok (.aload_n 0, 1) := by decide +kernel
theorem dX8_bounded_7 : decode cX8_bounded 7 = .ok (.getfield 19, 3) := by decide +kernel
theorem dX8_bounded_10 : decode cX8_bounded 10 = .ok (.iconst (-1), 1) := by decide +kernel
theorem dX8_bounded_11 : decode cX8_bounded 11 = .ok (.if_icmp .ne 23, 3) := by decide +kernel
theorem dX8_bounded_14 : decode cX8_bounded 14 = .ok (.iload_n 3, 1) := by decide +kernel
theorem dX8_bounded_15 : decode cX8_bounded 15 = .ok (.iload_n 1, 1) := by decide +kernel
theorem dX8_bounded_16 : decode cX8_bounded 16 = .ok (.if_icmp .lt 8, 3) := by decide +kernel
theorem dX8_bounded_19 : decode cX8_bounded 19 = .ok (.iload_n 3, 1) := by decide +kernel
theorem dX8_bounded_20 : decode cX8_bounded 20 = .ok (.iload_n 2, 1) := by decide +kernel
theorem dX8_bounded_21 : decode cX8_bounded 21 = .ok (.if_icmp .le 13, 3) := by decide +kernel
theorem dX8_bounded_24 : decode cX8_bounded 24 = .ok (.aload_n 0, 1) := by decide +kernel
theorem dX8_bounded_25 : decode cX8_bounded 25 = .ok (.aload_n 0, 1) := by decide +kernel
theorem dX8_bounded_26 : decode cX8_bounded 26 = .ok (.getfield 22, 3) := by decide +kernel
theorem dX8_bounded_29 : decode cX8_bounded 29 = .ok (.iconst 1, 1) := by decide +kernel
theorem dX8_bounded_30 : decode cX8_bounded 30 = .ok (.isub, 1) := by decide +kernel
theorem dX8_bounded_31 : decode cX8_bounded 31 = .ok (.putfield 19, 3) := by decide +kernel
theorem dX8_bounded_34 : decode cX8_bounded 34 = .ok (.iload_n 3, 1) := by decide +kernel
theorem dX8_bounded_35 : decode cX8_bounded 35 = .ok (.ireturn, 1) := by decide +kernel
theorem dX9_init_0 : decode cX9_init 0 = .ok (.aload_n 0, 1) := by decide +kernel
theorem dX9_init_1 : decode cX9_init 1 = .ok (.invokespecial 1, 3) := by decide +kernel
theorem dX9_init_4 : decode cX9_init 4 = .ok (.aload_n 0, 1) := by decide +kernel
theorem dX9_init_5 : decode cX9_init 5 = .ok (.new 7, 3) := by decide +kernel
theorem dX9_init_8 : decode cX9_init 8 = .ok (.dup, 1) := by decide +kernel
theorem dX9_init_9 : decode cX9_init 9 = .ok (.invokespecial 9, 3) := by decide +kernel
theorem dX9_init_12 : decode cX9_init 12 = .ok (.putfield 10, 3) := by decide +kernel
theorem dX9_init_15 : decode cX9_init 15 = .ok (.aload_n 0, 1) := by decide +kernel
theorem dX9_init_16 : decode cX9_init 16 = .ok (.new 16, 3) := by decide +kernel
theorem dX9_init_19 : decode cX9_init 19 = .ok (.dup, 1) := by decide +kernel
theorem dX9_init_20 : decode cX9_init 20 = .ok (.aload_n 0, 1) := by decide +kernel
theorem dX9_init_21 : decode cX9_init 21 = .ok (.getfield 10, 3) := by decide +kernel
theorem dX9_init_24 : decode cX9_init 24 = .ok (.invokespecial 18, 3) := by decide +kernel
theorem dX9_init_27 : decode cX9_init 27 = .ok (.putfield 21, 3) := by decide +kernel
theorem dX9_init_30 : decode cX9_init 30 = .ok (.aload_n 0, 1) := by decide +kernel
theorem dX9_init_31 : decode cX9_init 31 = .ok (.new 25, 3) := by decide +kernel
theorem dX9_init_34 : decode cX9_init 34 = .ok (.dup, 1) := by decide +kernel
theorem dX9_init_35 : decode cX9_init 35 = .ok (.aload_n 0, 1) := by decide +kernel
theorem dX9_init_36 : decode cX9_init 36 = .ok (.getfield 10, 3) := by decide +kernel
theorem dX9_init_39 : decode cX9_init 39 = .ok (.invokespecial 27, 3) := by decide +kernel
theorem dX9_init_42 : decode cX9_init 42 = .ok (.putfield 28, 3) := by decide +kernel
theorem dX9_init_45 : decode cX9_init 45 = .ok (.aload_n 0, 1) := by decide +kernel
theorem dX9_init_46 : decode cX9_init 46 = .ok (.iconst 4, 1) := by decide +kernel
theorem dX9_init_47 : decode cX9_init 47 = .ok (.anewarray 32, 3) := by decide +kernel
theorem dX9_init_50 : decode cX9_init 50 = .ok (.putfield 34, 3) := by decide +kernel
theorem dX9_init_53 : decode cX9_init 53 = .ok (.aload_n 0, 1) := by decide +kernel
theorem dX9_init_54 : decode cX9_init 54 = .ok (.iconst 0, 1) := by decide +kernel
theorem dX9_init_55 : decode cX9_init 55 = .ok (.putfield 38, 3) := by decide +kernel
theorem dX9_init_58 : decode cX9_init 58 = .ok (.aload_n 0, 1) := by decide +kernel
theorem dX9_init_59 : decode cX9_init 59 = .ok (.iconst (-1), 1) := by decide +kernel
theorem dX9_init_60 : decode cX9_init 60 = .ok (.putfield 42, 3) := by decide +kernel
theorem dX9_init_63 : decode cX9_init 63 = .ok (.aload_n 0, 1) := by decide +kernel
theorem dX9_init_64 : decode cX9_init 64 = .ok (.iconst 3, 1) := by decide +kernel
theorem dX9_init_65 : decode cX9_init 65 = .ok (.putfield 45, 3) := by decide +kernel
theorem dX9_init_68 : decode cX9_init 68 = .ok (.aload_n 0, 1) := by decide +kernel
theorem dX9_init_69 : decode cX9_init 69 = .ok (.iconst 5, 1) := by decide +kernel
theorem dX9_init_70 : decode cX9_init 70 = .ok (.newarray .int, 2) := by decide +kernel
theorem dX9_init_72 : decode cX9_init 72 = .ok (.putfield 48, 3) := by decide +kernel
theorem dX9_init_75 : decode cX9_init 75 = .ok (.aload_n 0, 1) := by decide +kernel
theorem dX9_init_76 : decode cX9_init 76 = .ok (.new 52, 3) := by decide +kernel
theorem dX9_init_79 : decode cX9_init 79 = .ok (.dup, 1) := by decide +kernel
theorem dX9_init_80 : decode cX9_init 80 = .ok (.invokespecial 54, 3) := by decide +kernel
theorem dX9_init_83 : decode cX9_init 83 = .ok (.putfield 55, 3) := by decide +kernel
theorem dX9_init_86 : decode cX9_init 86 = .ok (.aload_n 0, 1) := by decide +kernel
theorem dX9_init_87 : decode cX9_init 87 = .ok (.new 52, 3) := by decide +kernel
theorem dX9_init_90 : decode cX9_init 90 = .ok (.dup, 1) := by decide +kernel
theorem dX9_init_91 : decode cX9_init 91 = .ok (.invokespecial 54, 3) := by decide +kernel
theorem dX9_init_94 : decode cX9_init 94 = .ok (.putfield 59, 3) := by decide +kernel
theorem dX9_init_97 : decode cX9_init 97 = .ok (.aload_n 0, 1) := by decide +kernel
theorem dX9_init_98 : decode cX9_init 98 = .ok (.new 52, 3) := by decide +kernel
theorem dX9_init_101 : decode cX9_init 101 = .ok (.dup, 1) := by decide +kernel
theorem dX9_init_102 : decode cX9_init 102 = .ok (.invokespecial 54, 3) := by decide +kernel
theorem dX9_init_105 : decode cX9_init 105 = .ok (.putfield 62, 3) := by decide +kernel
theorem dX9_init_108 : decode cX9_init 108 = .ok (.aload_n 0, 1) := by decide +kernel
theorem dX9_init_109 : decode cX9_init 109 = .ok (.new 65, 3) := by decide +kernel
theorem dX9_init_112 : decode cX9_init 112 = .ok (.dup, 1) := by decide +kernel
theorem dX9_init_113 : decode cX9_init 113 = .ok (.invokespecial 67, 3) := by decide +kernel
theorem dX9_init_116 : decode cX9_init 116 = .ok (.putfield 68, 3) := by decide +kernel
theorem dX9_init_119 : decode cX9_init 119 = .ok (.aload_n 0, 1) := by decide +kernel
theorem dX9_init_120 : decode cX9_init 120 = .ok (.new 72, 3) := by decide +kernel
theorem dX9_init_123 : decode cX9_init 123 = .ok (.dup, 1) := by decide +kernel
theorem dX9_init_124 : decode cX9_init 124 = .ok (.invokespecial 74, 3) := by decide +kernel
theorem dX9_init_127 : decode cX9_init 127 = .ok (.putfield 75, 3) := by decide +kernel
theorem dX9_init_130 : decode cX9_init 130 = .ok (.aload_n 0, 1) := by decide +kernel
theorem dX9_init_131 : decode cX9_init 131 = .ok (.new 79, 3) := by decide +kernel
theorem dX9_init_134 : decode cX9_init 134 = .ok (.dup, 1) := by decide +kernel
theorem dX9_init_135 : decode cX9_init 135 = .ok (.invokespecial 81, 3) := by decide +kernel
theorem dX9_init_138 : decode cX9_init 138 = .ok (.putfield 82, 3) := by decide +kernel
theorem dX9_init_141 : decode cX9_init 141 = .ok (.aload_n 0, 1) := by decide +kernel
theorem dX9_init_142 : decode cX9_init 142 = .ok (.new 86, 3) := by decide +kernel
theorem dX9_init_145 : decode cX9_init 145 = .ok (.dup, 1) := by decide +kernel
theorem dX9_init_146 : decode cX9_init 146 = .ok (.invokespecial 88, 3) := by decide +kernel
theorem dX9_init_149 : decode cX9_init 149 = .ok (.putfield 89, 3) := by decide +kernel
theorem dX9_init_152 : decode cX9_init 152 = .ok (.aload_n 0, 1) := by decide +kernel
theorem dX9_init_153 : decode cX9_init 153 = .ok (.lconst 0, 1) := by decide +kernel
theorem dX9_init_154 : decode cX9_init 154 = .ok (.putfield 93, 3) := by decide +kernel
theorem dX9_init_157 : decode cX9_init 157 = .ok (.return_, 1) := by decide +kernel
theorem dX9_feed_0 : decode cX9_feed 0 = .ok (.iload_n 1, 1) := by decide +kernel
theorem dX9_feed_1 : decode cX9_feed 1 = .ok (.invokestatic 97, 3) := by decide +kernel
theorem dX9_feed_4 : decode cX9_feed 4 = .ok (.iload_n 2, 1) := by decide +kernel
theorem dX9_feed_5 : decode cX9_feed 5 = .ok (.invokestatic 97, 3) := by decide +kernel
theorem dX9_feed_8 : decode cX9_feed 8 = .ok (.iadd, 1) := by decide +kernel
theorem dX9_feed_9 : decode cX9_feed 9 = .ok (.iload_n 3, 1) := by decide +kernel
theorem dX9_feed_10 : decode cX9_feed 10 = .ok (.invokestatic 97, 3) := by decide +kernel
theorem dX9_feed_13 : decode cX9_feed 13 = .ok (.iadd, 1) := by decide +kernel
theorem dX9_feed_14 : decode cX9_feed 14 = .ok (.iload 4, 2) := by decide +kernel
theorem dX9_feed_16 : decode cX9_feed 16 = .ok (.invokestatic 97, 3) := by decide +kernel
theorem dX9_feed_19 : decode cX9_feed 19 = .ok (.iadd, 1) := by decide +kernel
theorem dX9_feed_20 : decode cX9_feed 20 = .ok (.iload 5, 2) := by decide +kernel
theorem dX9_feed_22 : decode cX9_feed 22 = .ok (.invokestatic 97, 3) := by decide +kernel
theorem dX9_feed_25 : decode cX9_feed 25 = .ok (.iadd, 1) := by decide +kernel
theorem dX9_feed_26 : decode cX9_feed 26 = .ok (.istore 6, 2) := by decide +kernel
theorem dX9_feed_28 : decode cX9_feed 28 = .ok (.aload_n 0, 1) := by decide +kernel
theorem dX9_feed_29 : decode cX9_feed 29 = .ok (.getfield 10, 3) := by decide +kernel
theorem dX9_feed_32 : decode cX9_feed 32 = .ok (.getfield 101, 3) := by decide +kernel
theorem dX9_feed_35 : decode cX9_feed 35 = .ok (.iload 6, 2) := by decide +kernel
theorem dX9_feed_37 : decode cX9_feed 37 = .ok (.iadd, 1) := by decide +kernel
theorem dX9_feed_38 : decode cX9_feed 38 = .ok (.sipush 240, 3) := by decide +kernel
theorem dX9_feed_41 : decode cX9_feed 41 = .ok (.if_icmp .le 5, 3) := by decide +kernel
theorem dX9_feed_44 : decode cX9_feed 44 = .ok (.iconst (-1), 1) := by decide +kernel
theorem dX9_feed_45 : decode cX9_feed 45 = .ok (.ireturn, 1) := by decide +kernel
theorem dX9_feed_46 : decode cX9_feed 46 = .ok (.aload_n 0, 1) := by decide +kernel
theorem dX9_feed_47 : decode cX9_feed 47 = .ok (.getfield 10, 3) := by decide +kernel
theorem dX9_feed_50 : decode cX9_feed 50 = .ok (.iload_n 1, 1) := by decide +kernel
theorem dX9_feed_51 : decode cX9_feed 51 = .ok (.invokevirtual 104, 3) := by decide +kernel
theorem dX9_feed_54 : decode cX9_feed 54 = .ok (.aload_n 0, 1) := by decide +kernel
theorem dX9_feed_55 : decode cX9_feed 55 = .ok (.getfield 10, 3) := by decide +kernel
theorem dX9_feed_58 : decode cX9_feed 58 = .ok (.iload_n 2, 1) := by decide +kernel
theorem dX9_feed_59 : decode cX9_feed 59 = .ok (.invokevirtual 104, 3) := by decide +kernel
theorem dX9_feed_62 : decode cX9_feed 62 = .ok (.aload_n 0, 1) := by decide +kernel
theorem dX9_feed_63 : decode cX9_feed 63 = .ok (.getfield 10, 3) := by decide +kernel
theorem dX9_feed_66 : decode cX9_feed 66 = .ok (.iload_n 3, 1) := by decide +kernel
theorem dX9_feed_67 : decode cX9_feed 67 = .ok (.invokevirtual 104, 3) := by decide +kernel
theorem dX9_feed_70 : decode cX9_feed 70 = .ok (.aload_n 0, 1) := by decide +kernel
theorem dX9_feed_71 : decode cX9_feed 71 = .ok (.getfield 10, 3) := by decide +kernel
theorem dX9_feed_74 : decode cX9_feed 74 = .ok (.iload 4, 2) := by decide +kernel
theorem dX9_feed_76 : decode cX9_feed 76 = .ok (.invokevirtual 104, 3) := by decide +kernel
theorem dX9_feed_79 : decode cX9_feed 79 = .ok (.aload_n 0, 1) := by decide +kernel
theorem dX9_feed_80 : decode cX9_feed 80 = .ok (.getfield 10, 3) := by decide +kernel
theorem dX9_feed_83 : decode cX9_feed 83 = .ok (.iload 5, 2) := by decide +kernel
theorem dX9_feed_85 : decode cX9_feed 85 = .ok (.invokevirtual 104, 3) := by decide +kernel
theorem dX9_feed_88 : decode cX9_feed 88 = .ok (.aload_n 0, 1) := by decide +kernel
theorem dX9_feed_89 : decode cX9_feed 89 = .ok (.getfield 10, 3) := by decide +kernel
theorem dX9_feed_92 : decode cX9_feed 92 = .ok (.getfield 101, 3) := by decide +kernel
theorem dX9_feed_95 : decode cX9_feed 95 = .ok (.ireturn, 1) := by decide +kernel
theorem dX9_end_0 : decode cX9_end 0 = .ok (.iload_n 1, 1) := by decide +kernel
theorem dX9_end_1 : decode cX9_end 1 = .ok (.ifCond .lt 14, 3) := by decide +kernel
theorem dX9_end_4 : decode cX9_end 4 = .ok (.iload_n 1, 1) := by decide +kernel
theorem dX9_end_5 : decode cX9_end 5 = .ok (.aload_n 0, 1) := by decide +kernel
theorem dX9_end_6 : decode cX9_end 6 = .ok (.getfield 10, 3) := by decide +kernel
theorem dX9_end_9 : decode cX9_end 9 = .ok (.getfield 101, 3) := by decide +kernel
theorem dX9_end_12 : decode cX9_end 12 = .ok (.if_icmp .le 5, 3) := by decide +kernel
theorem dX9_end_15 : decode cX9_end 15 = .ok (.iconst 0, 1) := by decide +kernel
theorem dX9_end_16 : decode cX9_end 16 = .ok (.ireturn, 1) := by decide +kernel
theorem dX9_end_17 : decode cX9_end 17 = .ok (.aload_n 0, 1) := by decide +kernel
theorem dX9_end_18 : decode cX9_end 18 = .ok (.getfield 10, 3) := by decide +kernel
theorem dX9_end_21 : decode cX9_end 21 = .ok (.iload_n 1, 1) := by decide +kernel
theorem dX9_end_22 : decode cX9_end 22 = .ok (.putfield 101, 3) := by decide +kernel
theorem dX9_end_25 : decode cX9_end 25 = .ok (.iconst 1, 1) := by decide +kernel
theorem dX9_end_26 : decode cX9_end 26 = .ok (.ireturn, 1) := by decide +kernel
theorem dX9_fault_0 : decode cX9_fault 0 = .ok (.iload_n 1, 1) := by decide +kernel
theorem dX9_fault_1 : decode cX9_fault 1 = .ok (.ifCond .ne 11, 3) := by decide +kernel
theorem dX9_fault_4 : decode cX9_fault 4 = .ok (.aload_n 0, 1) := by decide +kernel
theorem dX9_fault_5 : decode cX9_fault 5 = .ok (.getfield 21, 3) := by decide +kernel
theorem dX9_fault_8 : decode cX9_fault 8 = .ok (.invokevirtual 108, 3) := by decide +kernel
theorem dX9_fault_11 : decode cX9_fault 11 = .ok (.ireturn, 1) := by decide +kernel
theorem dX9_fault_12 : decode cX9_fault 12 = .ok (.iload_n 1, 1) := by decide +kernel
theorem dX9_fault_13 : decode cX9_fault 13 = .ok (.iconst 1, 1) := by decide +kernel
theorem dX9_fault_14 : decode cX9_fault 14 = .ok (.if_icmp .ne 13, 3) := by decide +kernel
theorem dX9_fault_17 : decode cX9_fault 17 = .ok (.aload_n 0, 1) := by decide +kernel
theorem dX9_fault_18 : decode cX9_fault 18 = .ok (.getfield 28, 3) := by decide +kernel
theorem dX9_fault_21 : decode cX9_fault 21 = .ok (.invokevirtual 112, 3) := by decide +kernel
theorem dX9_fault_24 : decode cX9_fault 24 = .ok (.goto 5, 3) := by decide +kernel
theorem dX9_fault_27 : decode cX9_fault 27 = .ok (.bipush (-2), 2) := by decide +kernel
theorem dX9_fault_29 : decode cX9_fault 29 = .ok (.ireturn, 1) := by decide +kernel
theorem dX9_text_0 : decode cX9_text 0 = .ok (.iload_n 1, 1) := by decide +kernel
theorem dX9_text_1 : decode cX9_text 1 = .ok (.ifCond .ne 8, 3) := by decide +kernel
theorem dX9_text_4 : decode cX9_text 4 = .ok (.aload_n 0, 1) := by decide +kernel
theorem dX9_text_5 : decode cX9_text 5 = .ok (.invokevirtual 113, 3) := by decide +kernel
theorem dX9_text_8 : decode cX9_text 8 = .ok (.ireturn, 1) := by decide +kernel
theorem dX9_text_9 : decode cX9_text 9 = .ok (.iload_n 1, 1) := by decide +kernel
theorem dX9_text_10 : decode cX9_text 10 = .ok (.iconst 1, 1) := by decide +kernel
theorem dX9_text_11 : decode cX9_text 11 = .ok (.if_icmp .ne 10, 3) := by decide +kernel
theorem dX9_text_14 : decode cX9_text 14 = .ok (.aload_n 0, 1) := by decide +kernel
theorem dX9_text_15 : decode cX9_text 15 = .ok (.invokevirtual 116, 3) := by decide +kernel
theorem dX9_text_18 : decode cX9_text 18 = .ok (.goto 4, 3) := by decide +kernel
theorem dX9_text_21 : decode cX9_text 21 = .ok (.iconst (-1), 1) := by decide +kernel
theorem dX9_text_22 : decode cX9_text 22 = .ok (.ireturn, 1) := by decide +kernel
theorem dX9_takeLand_0 : decode cX9_takeLand 0 = .ok (.aload_n 0, 1) := by decide +kernel
theorem dX9_takeLand_1 : decode cX9_takeLand 1 = .ok (.getfield 21, 3) := by decide +kernel
theorem dX9_takeLand_4 : decode cX9_takeLand 4 = .ok (.invokevirtual 108, 3) := by decide +kernel
theorem dX9_takeLand_7 : decode cX9_takeLand 7 = .ok (.iconst (-1), 1) := by decide +kernel
theorem dX9_takeLand_8 : decode cX9_takeLand 8 = .ok (.if_icmp .eq 5, 3) := by decide +kernel
theorem dX9_takeLand_11 : decode cX9_takeLand 11 = .ok (.iconst (-1), 1) := by decide +kernel
theorem dX9_takeLand_12 : decode cX9_takeLand 12 = .ok (.ireturn, 1) := by decide +kernel
theorem dX9_takeLand_13 : decode cX9_takeLand 13 = .ok (.aload_n 0, 1) := by decide +kernel
theorem dX9_takeLand_14 : decode cX9_takeLand 14 = .ok (.getfield 21, 3) := by decide +kernel
theorem dX9_takeLand_17 : decode cX9_takeLand 17 = .ok (.aload_n 0, 1) := by decide +kernel
theorem dX9_takeLand_18 : decode cX9_takeLand 18 = .ok (.getfield 59, 3) := by decide +kernel
theorem dX9_takeLand_21 : decode cX9_takeLand 21 = .ok (.invokevirtual 119, 3) := by decide +kernel
theorem dX9_takeLand_24 : decode cX9_takeLand 24 = .ok (.aload_n 0, 1) := by decide +kernel
theorem dX9_takeLand_25 : decode cX9_takeLand 25 = .ok (.getfield 55, 3) := by decide +kernel
theorem dX9_takeLand_28 : decode cX9_takeLand 28 = .ok (.aload_n 0, 1) := by decide +kernel
theorem dX9_takeLand_29 : decode cX9_takeLand 29 = .ok (.getfield 59, 3) := by decide +kernel
theorem dX9_takeLand_32 : decode cX9_takeLand 32 = .ok (.invokevirtual 123, 3) := by decide +kernel
theorem dX9_takeLand_35 : decode cX9_takeLand 35 = .ok (.aload_n 0, 1) := by decide +kernel
theorem dX9_takeLand_36 : decode cX9_takeLand 36 = .ok (.getfield 68, 3) := by decide +kernel
theorem dX9_takeLand_39 : decode cX9_takeLand 39 = .ok (.invokevirtual 126, 3) := by decide +kernel
theorem dX9_takeLand_42 : decode cX9_takeLand 42 = .ok (.aload_n 0, 1) := by decide +kernel
theorem dX9_takeLand_43 : decode cX9_takeLand 43 = .ok (.getfield 75, 3) := by decide +kernel
theorem dX9_takeLand_46 : decode cX9_takeLand 46 = .ok (.invokevirtual 129, 3) := by decide +kernel
theorem dX9_takeLand_49 : decode cX9_takeLand 49 = .ok (.aload_n 0, 1) := by decide +kernel
theorem dX9_takeLand_50 : decode cX9_takeLand 50 = .ok (.getfield 10, 3) := by decide +kernel
theorem dX9_takeLand_53 : decode cX9_takeLand 53 = .ok (.iconst 0, 1) := by decide +kernel
theorem dX9_takeLand_54 : decode cX9_takeLand 54 = .ok (.putfield 101, 3) := by decide +kernel
theorem dX9_takeLand_57 : decode cX9_takeLand 57 = .ok (.aload_n 0, 1) := by decide +kernel
theorem dX9_takeLand_58 : decode cX9_takeLand 58 = .ok (.getfield 55, 3) := by decide +kernel
theorem dX9_takeLand_61 : decode cX9_takeLand 61 = .ok (.getfield 130, 3) := by decide +kernel
theorem dX9_takeLand_64 : decode cX9_takeLand 64 = .ok (.ireturn, 1) := by decide +kernel
theorem dX9_takeLaw_0 : decode cX9_takeLaw 0 = .ok (.aload_n 0, 1) := by decide +kernel
theorem dX9_takeLaw_1 : decode cX9_takeLaw 1 = .ok (.getfield 38, 3) := by decide +kernel
theorem dX9_takeLaw_4 : decode cX9_takeLaw 4 = .ok (.iconst 4, 1) := by decide +kernel
theorem dX9_takeLaw_5 : decode cX9_takeLaw 5 = .ok (.if_icmp .ge 14, 3) := by decide +kernel
theorem dX9_takeLaw_8 : decode cX9_takeLaw 8 = .ok (.aload_n 0, 1) := by decide +kernel
theorem dX9_takeLaw_9 : decode cX9_takeLaw 9 = .ok (.getfield 28, 3) := by decide +kernel
theorem dX9_takeLaw_12 : decode cX9_takeLaw 12 = .ok (.invokevirtual 112, 3) := by decide +kernel
theorem dX9_takeLaw_15 : decode cX9_takeLaw 15 = .ok (.iconst (-1), 1) := by decide +kernel
theorem dX9_takeLaw_16 : decode cX9_takeLaw 16 = .ok (.if_icmp .eq 5, 3) := by decide +kernel
theorem dX9_takeLaw_19 : decode cX9_takeLaw 19 = .ok (.iconst (-1), 1) := by decide +kernel
theorem dX9_takeLaw_20 : decode cX9_takeLaw 20 = .ok (.ireturn, 1) := by decide +kernel
theorem dX9_takeLaw_21 : decode cX9_takeLaw 21 = .ok (.aload_n 0, 1) := by decide +kernel
theorem dX9_takeLaw_22 : decode cX9_takeLaw 22 = .ok (.getfield 34, 3) := by decide +kernel
theorem dX9_takeLaw_25 : decode cX9_takeLaw 25 = .ok (.aload_n 0, 1) := by decide +kernel
theorem dX9_takeLaw_26 : decode cX9_takeLaw 26 = .ok (.getfield 38, 3) := by decide +kernel
theorem dX9_takeLaw_29 : decode cX9_takeLaw 29 = .ok (.aload_n 0, 1) := by decide +kernel
theorem dX9_takeLaw_30 : decode cX9_takeLaw 30 = .ok (.getfield 28, 3) := by decide +kernel
theorem dX9_takeLaw_33 : decode cX9_takeLaw 33 = .ok (.invokevirtual 133, 3) := by decide +kernel
theorem dX9_takeLaw_36 : decode cX9_takeLaw 36 = .ok (.aastore, 1) := by decide +kernel
theorem dX9_takeLaw_37 : decode cX9_takeLaw 37 = .ok (.aload_n 0, 1) := by decide +kernel
theorem dX9_takeLaw_38 : decode cX9_takeLaw 38 = .ok (.dup, 1) := by decide +kernel
theorem dX9_takeLaw_39 : decode cX9_takeLaw 39 = .ok (.getfield 38, 3) := by decide +kernel
theorem dX9_takeLaw_42 : decode cX9_takeLaw 42 = .ok (.iconst 1, 1) := by decide +kernel
theorem dX9_takeLaw_43 : decode cX9_takeLaw 43 = .ok (.iadd, 1) := by decide +kernel
theorem dX9_takeLaw_44 : decode cX9_takeLaw 44 = .ok (.putfield 38, 3) := by decide +kernel
theorem dX9_takeLaw_47 : decode cX9_takeLaw 47 = .ok (.aload_n 0, 1) := by decide +kernel
theorem dX9_takeLaw_48 : decode cX9_takeLaw 48 = .ok (.getfield 10, 3) := by decide +kernel
theorem dX9_takeLaw_51 : decode cX9_takeLaw 51 = .ok (.iconst 0, 1) := by decide +kernel
theorem dX9_takeLaw_52 : decode cX9_takeLaw 52 = .ok (.putfield 101, 3) := by decide +kernel
theorem dX9_takeLaw_55 : decode cX9_takeLaw 55 = .ok (.aload_n 0, 1) := by decide +kernel
theorem dX9_takeLaw_56 : decode cX9_takeLaw 56 = .ok (.getfield 38, 3) := by decide +kernel
theorem dX9_takeLaw_59 : decode cX9_takeLaw 59 = .ok (.iconst 1, 1) := by decide +kernel
theorem dX9_takeLaw_60 : decode cX9_takeLaw 60 = .ok (.isub, 1) := by decide +kernel
theorem dX9_takeLaw_61 : decode cX9_takeLaw 61 = .ok (.ireturn, 1) := by decide +kernel
theorem dX9_rule_0 : decode cX9_rule 0 = .ok (.aload_n 0, 1) := by decide +kernel
theorem dX9_rule_1 : decode cX9_rule 1 = .ok (.invokevirtual 137, 3) := by decide +kernel
theorem dX9_rule_4 : decode cX9_rule 4 = .ok (.ifCond .eq 5, 3) := by decide +kernel
theorem dX9_rule_7 : decode cX9_rule 7 = .ok (.iconst (-1), 1) := by decide +kernel
theorem dX9_rule_8 : decode cX9_rule 8 = .ok (.ireturn, 1) := by decide +kernel
theorem dX9_rule_9 : decode cX9_rule 9 = .ok (.iload_n 1, 1) := by decide +kernel
theorem dX9_rule_10 : decode cX9_rule 10 = .ok (.tableswitch 62 0 3 #[30, 38, 46, 54], 30) := by decide +kernel
theorem dX9_rule_40 : decode cX9_rule 40 = .ok (.aload_n 0, 1) := by decide +kernel
theorem dX9_rule_41 : decode cX9_rule 41 = .ok (.getfield 55, 3) := by decide +kernel
theorem dX9_rule_44 : decode cX9_rule 44 = .ok (.getfield 141, 3) := by decide +kernel
theorem dX9_rule_47 : decode cX9_rule 47 = .ok (.ireturn, 1) := by decide +kernel
theorem dX9_rule_48 : decode cX9_rule 48 = .ok (.aload_n 0, 1) := by decide +kernel
theorem dX9_rule_49 : decode cX9_rule 49 = .ok (.getfield 55, 3) := by decide +kernel
theorem dX9_rule_52 : decode cX9_rule 52 = .ok (.getfield 144, 3) := by decide +kernel
theorem dX9_rule_55 : decode cX9_rule 55 = .ok (.ireturn, 1) := by decide +kernel
theorem dX9_rule_56 : decode cX9_rule 56 = .ok (.aload_n 0, 1) := by decide +kernel
theorem dX9_rule_57 : decode cX9_rule 57 = .ok (.getfield 55, 3) := by decide +kernel
theorem dX9_rule_60 : decode cX9_rule 60 = .ok (.getfield 147, 3) := by decide +kernel
theorem dX9_rule_63 : decode cX9_rule 63 = .ok (.ireturn, 1) := by decide +kernel
theorem dX9_rule_64 : decode cX9_rule 64 = .ok (.aload_n 0, 1) := by decide +kernel
theorem dX9_rule_65 : decode cX9_rule 65 = .ok (.getfield 55, 3) := by decide +kernel
theorem dX9_rule_68 : decode cX9_rule 68 = .ok (.getfield 150, 3) := by decide +kernel
theorem dX9_rule_71 : decode cX9_rule 71 = .ok (.ireturn, 1) := by decide +kernel
theorem dX9_rule_72 : decode cX9_rule 72 = .ok (.iconst (-1), 1) := by decide +kernel
theorem dX9_rule_73 : decode cX9_rule 73 = .ok (.ireturn, 1) := by decide +kernel
theorem dX9_height_0 : decode cX9_height 0 = .ok (.aload_n 0, 1) := by decide +kernel
theorem dX9_height_1 : decode cX9_height 1 = .ok (.getfield 55, 3) := by decide +kernel
theorem dX9_height_4 : decode cX9_height 4 = .ok (.iload_n 1, 1) := by decide +kernel
theorem dX9_height_5 : decode cX9_height 5 = .ok (.invokevirtual 153, 3) := by decide +kernel
theorem dX9_height_8 : decode cX9_height 8 = .ok (.ifCond .eq 15, 3) := by decide +kernel
theorem dX9_height_11 : decode cX9_height 11 = .ok (.aload_n 0, 1) := by decide +kernel
theorem dX9_height_12 : decode cX9_height 12 = .ok (.getfield 55, 3) := by decide +kernel
theorem dX9_height_15 : decode cX9_height 15 = .ok (.getfield 157, 3) := by decide +kernel
theorem dX9_height_18 : decode cX9_height 18 = .ok (.iload_n 1, 1) := by decide +kernel
theorem dX9_height_19 : decode cX9_height 19 = .ok (.iaload, 1) := by decide +kernel
theorem dX9_height_20 : decode cX9_height 20 = .ok (.goto 4, 3) := by decide +kernel
theorem dX9_height_23 : decode cX9_height 23 = .ok (.iconst (-1), 1) := by decide +kernel
theorem dX9_height_24 : decode cX9_height 24 = .ok (.ireturn, 1) := by decide +kernel
theorem dX9_tower_0 : decode cX9_tower 0 = .ok (.aload_n 0, 1) := by decide +kernel
theorem dX9_tower_1 : decode cX9_tower 1 = .ok (.getfield 55, 3) := by decide +kernel
theorem dX9_tower_4 : decode cX9_tower 4 = .ok (.iload_n 1, 1) := by decide +kernel
theorem dX9_tower_5 : decode cX9_tower 5 = .ok (.invokevirtual 160, 3) := by decide +kernel
theorem dX9_tower_8 : decode cX9_tower 8 = .ok (.ifCond .eq 12, 3) := by decide +kernel
theorem dX9_tower_11 : decode cX9_tower 11 = .ok (.iload_n 2, 1) := by decide +kernel
theorem dX9_tower_12 : decode cX9_tower 12 = .ok (.ifCond .lt 8, 3) := by decide +kernel
theorem dX9_tower_15 : decode cX9_tower 15 = .ok (.iload_n 2, 1) := by decide +kernel
theorem dX9_tower_16 : decode cX9_tower 16 = .ok (.iconst 5, 1) := by decide +kernel
theorem dX9_tower_17 : decode cX9_tower 17 = .ok (.if_icmp .le 13, 3) := by decide +kernel
theorem dX9_tower_20 : decode cX9_tower 20 = .ok (.new 163, 3) := by decide +kernel
theorem dX9_tower_23 : decode cX9_tower 23 = .ok (.dup, 1) := by decide +kernel
theorem dX9_tower_24 : decode cX9_tower 24 = .ok (.ldc 165, 2) := by decide +kernel
theorem dX9_tower_26 : decode cX9_tower 26 = .ok (.invokespecial 167, 3) := by decide +kernel
theorem dX9_tower_29 : decode cX9_tower 29 = .ok (.athrow, 1) := by decide +kernel
theorem dX9_tower_30 : decode cX9_tower 30 = .ok (.iload_n 2, 1) := by decide +kernel
theorem dX9_tower_31 : decode cX9_tower 31 = .ok (.tableswitch 88 0 4 #[33, 43, 53, 63, 76], 33) := by decide +kernel
theorem dX9_tower_64 : decode cX9_tower 64 = .ok (.aload_n 0, 1) := by decide +kernel
theorem dX9_tower_65 : decode cX9_tower 65 = .ok (.getfield 55, 3) := by decide +kernel
theorem dX9_tower_68 : decode cX9_tower 68 = .ok (.getfield 170, 3) := by decide +kernel
theorem dX9_tower_71 : decode cX9_tower 71 = .ok (.iload_n 1, 1) := by decide +kernel
theorem dX9_tower_72 : decode cX9_tower 72 = .ok (.iaload, 1) := by decide +kernel
theorem dX9_tower_73 : decode cX9_tower 73 = .ok (.ireturn, 1) := by decide +kernel
theorem dX9_tower_74 : decode cX9_tower 74 = .ok (.aload_n 0, 1) := by decide +kernel
theorem dX9_tower_75 : decode cX9_tower 75 = .ok (.getfield 55, 3) := by decide +kernel
theorem dX9_tower_78 : decode cX9_tower 78 = .ok (.getfield 173, 3) := by decide +kernel
theorem dX9_tower_81 : decode cX9_tower 81 = .ok (.iload_n 1, 1) := by decide +kernel
theorem dX9_tower_82 : decode cX9_tower 82 = .ok (.iaload, 1) := by decide +kernel
theorem dX9_tower_83 : decode cX9_tower 83 = .ok (.ireturn, 1) := by decide +kernel
theorem dX9_tower_84 : decode cX9_tower 84 = .ok (.aload_n 0, 1) := by decide +kernel
theorem dX9_tower_85 : decode cX9_tower 85 = .ok (.getfield 55, 3) := by decide +kernel
theorem dX9_tower_88 : decode cX9_tower 88 = .ok (.getfield 176, 3) := by decide +kernel
theorem dX9_tower_91 : decode cX9_tower 91 = .ok (.iload_n 1, 1) := by decide +kernel
theorem dX9_tower_92 : decode cX9_tower 92 = .ok (.iaload, 1) := by decide +kernel
theorem dX9_tower_93 : decode cX9_tower 93 = .ok (.ireturn, 1) := by decide +kernel
theorem dX9_tower_94 : decode cX9_tower 94 = .ok (.aload_n 0, 1) := by decide +kernel
theorem dX9_tower_95 : decode cX9_tower 95 = .ok (.getfield 55, 3) := by decide +kernel
theorem dX9_tower_98 : decode cX9_tower 98 = .ok (.iload_n 1, 1) := by decide +kernel
theorem dX9_tower_99 : decode cX9_tower 99 = .ok (.aload_n 0, 1) := by decide +kernel
theorem dX9_tower_100 : decode cX9_tower 100 = .ok (.invokevirtual 179, 3) := by decide +kernel
theorem dX9_tower_103 : decode cX9_tower 103 = .ok (.invokevirtual 182, 3) := by decide +kernel
theorem dX9_tower_106 : decode cX9_tower 106 = .ok (.ireturn, 1) := by decide +kernel
theorem dX9_tower_107 : decode cX9_tower 107 = .ok (.aload_n 0, 1) := by decide +kernel
theorem dX9_tower_108 : decode cX9_tower 108 = .ok (.getfield 55, 3) := by decide +kernel
theorem dX9_tower_111 : decode cX9_tower 111 = .ok (.getfield 186, 3) := by decide +kernel
theorem dX9_tower_114 : decode cX9_tower 114 = .ok (.iload_n 1, 1) := by decide +kernel
theorem dX9_tower_115 : decode cX9_tower 115 = .ok (.ishr, 1) := by decide +kernel
theorem dX9_tower_116 : decode cX9_tower 116 = .ok (.iconst 1, 1) := by decide +kernel
theorem dX9_tower_117 : decode cX9_tower 117 = .ok (.iand, 1) := by decide +kernel
theorem dX9_tower_118 : decode cX9_tower 118 = .ok (.ireturn, 1) := by decide +kernel
theorem dX9_tower_119 : decode cX9_tower 119 = .ok (.aload_n 0, 1) := by decide +kernel
theorem dX9_tower_120 : decode cX9_tower 120 = .ok (.getfield 55, 3) := by decide +kernel
theorem dX9_tower_123 : decode cX9_tower 123 = .ok (.iload_n 1, 1) := by decide +kernel
theorem dX9_tower_124 : decode cX9_tower 124 = .ok (.aload_n 0, 1) := by decide +kernel
theorem dX9_tower_125 : decode cX9_tower 125 = .ok (.invokevirtual 179, 3) := by decide +kernel
theorem dX9_tower_128 : decode cX9_tower 128 = .ok (.invokevirtual 189, 3) := by decide +kernel
theorem dX9_tower_131 : decode cX9_tower 131 = .ok (.invokestatic 192, 3) := by decide +kernel
theorem dX9_tower_134 : decode cX9_tower 134 = .ok (.ireturn, 1) := by decide +kernel
theorem dX9_law_0 : decode cX9_law 0 = .ok (.iload_n 1, 1) := by decide +kernel
theorem dX9_law_1 : decode cX9_law 1 = .ok (.iconst (-1), 1) := by decide +kernel
theorem dX9_law_2 : decode cX9_law 2 = .ok (.if_icmp .lt 11, 3) := by decide +kernel
theorem dX9_law_5 : decode cX9_law 5 = .ok (.iload_n 1, 1) := by decide +kernel
theorem dX9_law_6 : decode cX9_law 6 = .ok (.aload_n 0, 1) := by decide +kernel
theorem dX9_law_7 : decode cX9_law 7 = .ok (.getfield 38, 3) := by decide +kernel
theorem dX9_law_10 : decode cX9_law 10 = .ok (.if_icmp .lt 5, 3) := by decide +kernel
theorem dX9_law_13 : decode cX9_law 13 = .ok (.iconst 0, 1) := by decide +kernel
theorem dX9_law_14 : decode cX9_law 14 = .ok (.ireturn, 1) := by decide +kernel
theorem dX9_law_15 : decode cX9_law 15 = .ok (.aload_n 0, 1) := by decide +kernel
theorem dX9_law_16 : decode cX9_law 16 = .ok (.iload_n 1, 1) := by decide +kernel
theorem dX9_law_17 : decode cX9_law 17 = .ok (.putfield 42, 3) := by decide +kernel
theorem dX9_law_20 : decode cX9_law 20 = .ok (.iconst 1, 1) := by decide +kernel
theorem dX9_law_21 : decode cX9_law 21 = .ok (.ireturn, 1) := by decide +kernel
theorem dX9_ruling_0 : decode cX9_ruling 0 = .ok (.aload_n 0, 1) := by decide +kernel
theorem dX9_ruling_1 : decode cX9_ruling 1 = .ok (.getfield 42, 3) := by decide +kernel
theorem dX9_ruling_4 : decode cX9_ruling 4 = .ok (.ifCond .lt 26, 3) := by decide +kernel
theorem dX9_ruling_7 : decode cX9_ruling 7 = .ok (.aload_n 0, 1) := by decide +kernel
theorem dX9_ruling_8 : decode cX9_ruling 8 = .ok (.getfield 42, 3) := by decide +kernel
theorem dX9_ruling_11 : decode cX9_ruling 11 = .ok (.aload_n 0, 1) := by decide +kernel
theorem dX9_ruling_12 : decode cX9_ruling 12 = .ok (.getfield 38, 3) := by decide +kernel
theorem dX9_ruling_15 : decode cX9_ruling 15 = .ok (.if_icmp .ge 15, 3) := by decide +kernel
theorem dX9_ruling_18 : decode cX9_ruling 18 = .ok (.aload_n 0, 1) := by decide +kernel
theorem dX9_ruling_19 : decode cX9_ruling 19 = .ok (.getfield 34, 3) := by decide +kernel
theorem dX9_ruling_22 : decode cX9_ruling 22 = .ok (.aload_n 0, 1) := by decide +kernel
theorem dX9_ruling_23 : decode cX9_ruling 23 = .ok (.getfield 42, 3) := by decide +kernel
theorem dX9_ruling_26 : decode cX9_ruling 26 = .ok (.aaload, 1) := by decide +kernel
theorem dX9_ruling_27 : decode cX9_ruling 27 = .ok (.goto 4, 3) := by decide +kernel
theorem dX9_ruling_30 : decode cX9_ruling 30 = .ok (.aconst_null, 1) := by decide +kernel
theorem dX9_ruling_31 : decode cX9_ruling 31 = .ok (.areturn, 1) := by decide +kernel
theorem dX9_noLand_0 : decode cX9_noLand 0 = .ok (.aload_n 0, 1) := by decide +kernel
theorem dX9_noLand_1 : decode cX9_noLand 1 = .ok (.getfield 55, 3) := by decide +kernel
theorem dX9_noLand_4 : decode cX9_noLand 4 = .ok (.getfield 130, 3) := by decide +kernel
theorem dX9_noLand_7 : decode cX9_noLand 7 = .ok (.ifCond .ne 7, 3) := by decide +kernel
theorem dX9_noLand_10 : decode cX9_noLand 10 = .ok (.iconst 1, 1) := by decide +kernel
theorem dX9_noLand_11 : decode cX9_noLand 11 = .ok (.goto 4, 3) := by decide +kernel
theorem dX9_noLand_14 : decode cX9_noLand 14 = .ok (.iconst 0, 1) := by decide +kernel
theorem dX9_noLand_15 : decode cX9_noLand 15 = .ok (.ireturn, 1) := by decide +kernel
theorem dX9_hours_0 : decode cX9_hours 0 = .ok (.aload_n 0, 1) := by decide +kernel
theorem dX9_hours_1 : decode cX9_hours 1 = .ok (.invokevirtual 137, 3) := by decide +kernel
theorem dX9_hours_4 : decode cX9_hours 4 = .ok (.ifCond .eq 9, 3) := by decide +kernel
theorem dX9_hours_7 : decode cX9_hours 7 = .ok (.aload_n 0, 1) := by decide +kernel
theorem dX9_hours_8 : decode cX9_hours 8 = .ok (.iconst 0, 1) := by decide +kernel
theorem dX9_hours_9 : decode cX9_hours 9 = .ok (.invokevirtual 197, 3) := by decide +kernel
theorem dX9_hours_12 : decode cX9_hours 12 = .ok (.ireturn, 1) := by decide +kernel
theorem dX9_hours_13 : decode cX9_hours 13 = .ok (.iload_n 1, 1) := by decide +kernel
theorem dX9_hours_14 : decode cX9_hours 14 = .ok (.iconst 1, 1) := by decide +kernel
theorem dX9_hours_15 : decode cX9_hours 15 = .ok (.if_icmp .lt 9, 3) := by decide +kernel
theorem dX9_hours_18 : decode cX9_hours 18 = .ok (.iload_n 1, 1) := by decide +kernel
theorem dX9_hours_19 : decode cX9_hours 19 = .ok (.bipush 60, 2) := by decide +kernel
theorem dX9_hours_21 : decode cX9_hours 21 = .ok (.if_icmp .le 9, 3) := by decide +kernel
theorem dX9_hours_24 : decode cX9_hours 24 = .ok (.aload_n 0, 1) := by decide +kernel
theorem dX9_hours_25 : decode cX9_hours 25 = .ok (.iconst 1, 1) := by decide +kernel
theorem dX9_hours_26 : decode cX9_hours 26 = .ok (.invokevirtual 197, 3) := by decide +kernel
theorem dX9_hours_29 : decode cX9_hours 29 = .ok (.ireturn, 1) := by decide +kernel
theorem dX9_hours_30 : decode cX9_hours 30 = .ok (.aload_n 0, 1) := by decide +kernel
theorem dX9_hours_31 : decode cX9_hours 31 = .ok (.getfield 55, 3) := by decide +kernel
theorem dX9_hours_34 : decode cX9_hours 34 = .ok (.getfield 200, 3) := by decide +kernel
theorem dX9_hours_37 : decode cX9_hours 37 = .ok (.iload_n 1, 1) := by decide +kernel
theorem dX9_hours_38 : decode cX9_hours 38 = .ok (.iadd, 1) := by decide +kernel
theorem dX9_hours_39 : decode cX9_hours 39 = .ok (.sipush 9999, 3) := by decide +kernel
theorem dX9_hours_42 : decode cX9_hours 42 = .ok (.if_icmp .le 9, 3) := by decide +kernel
theorem dX9_hours_45 : decode cX9_hours 45 = .ok (.aload_n 0, 1) := by decide +kernel
theorem dX9_hours_46 : decode cX9_hours 46 = .ok (.iconst 4, 1) := by decide +kernel
theorem dX9_hours_47 : decode cX9_hours 47 = .ok (.invokevirtual 197, 3) := by decide +kernel
theorem dX9_hours_50 : decode cX9_hours 50 = .ok (.ireturn, 1) := by decide +kernel
theorem dX9_hours_51 : decode cX9_hours 51 = .ok (.iconst 0, 1) := by decide +kernel
theorem dX9_hours_52 : decode cX9_hours 52 = .ok (.istore_n 2, 1) := by decide +kernel
theorem dX9_hours_53 : decode cX9_hours 53 = .ok (.iload_n 2, 1) := by decide +kernel
theorem dX9_hours_54 : decode cX9_hours 54 = .ok (.iload_n 1, 1) := by decide +kernel
theorem dX9_hours_55 : decode cX9_hours 55 = .ok (.if_icmp .ge 24, 3) := by decide +kernel
theorem dX9_hours_58 : decode cX9_hours 58 = .ok (.aload_n 0, 1) := by decide +kernel
theorem dX9_hours_59 : decode cX9_hours 59 = .ok (.getfield 68, 3) := by decide +kernel
theorem dX9_hours_62 : decode cX9_hours 62 = .ok (.aload_n 0, 1) := by decide +kernel
theorem dX9_hours_63 : decode cX9_hours 63 = .ok (.getfield 55, 3) := by decide +kernel
theorem dX9_hours_66 : decode cX9_hours 66 = .ok (.invokevirtual 203, 3) := by decide +kernel
theorem dX9_hours_69 : decode cX9_hours 69 = .ok (.aload_n 0, 1) := by decide +kernel
theorem dX9_hours_70 : decode cX9_hours 70 = .ok (.invokevirtual 206, 3) := by decide +kernel
theorem dX9_hours_73 : decode cX9_hours 73 = .ok (.iinc 2 1, 3) := by decide +kernel
theorem dX9_hours_76 : decode cX9_hours 76 = .ok (.goto (-23), 3) := by decide +kernel
theorem dX9_hours_79 : decode cX9_hours 79 = .ok (.aload_n 0, 1) := by decide +kernel
theorem dX9_hours_80 : decode cX9_hours 80 = .ok (.getfield 55, 3) := by decide +kernel
theorem dX9_hours_83 : decode cX9_hours 83 = .ok (.getfield 200, 3) := by decide +kernel
theorem dX9_hours_86 : decode cX9_hours 86 = .ok (.ireturn, 1) := by decide +kernel
theorem dX9_passHour_0 : decode cX9_passHour 0 = .ok (.aload_n 0, 1) := by decide +kernel
theorem dX9_passHour_1 : decode cX9_passHour 1 = .ok (.getfield 68, 3) := by decide +kernel
theorem dX9_passHour_4 : decode cX9_passHour 4 = .ok (.aload_n 0, 1) := by decide +kernel
theorem dX9_passHour_5 : decode cX9_passHour 5 = .ok (.getfield 55, 3) := by decide +kernel
theorem dX9_passHour_8 : decode cX9_passHour 8 = .ok (.aload_n 0, 1) := by decide +kernel
theorem dX9_passHour_9 : decode cX9_passHour 9 = .ok (.getfield 55, 3) := by decide +kernel
theorem dX9_passHour_12 : decode cX9_passHour 12 = .ok (.aload_n 0, 1) := by decide +kernel
theorem dX9_passHour_13 : decode cX9_passHour 13 = .ok (.invokevirtual 179, 3) := by decide +kernel
theorem dX9_passHour_16 : decode cX9_passHour 16 = .ok (.invokevirtual 209, 3) := by decide +kernel
theorem dX9_passHour_19 : decode cX9_passHour 19 = .ok (.invokestatic 192, 3) := by decide +kernel
theorem dX9_passHour_22 : decode cX9_passHour 22 = .ok (.invokevirtual 213, 3) := by decide +kernel
theorem dX9_passHour_25 : decode cX9_passHour 25 = .ok (.aload_n 0, 1) := by decide +kernel
theorem dX9_passHour_26 : decode cX9_passHour 26 = .ok (.getfield 55, 3) := by decide +kernel
theorem dX9_passHour_29 : decode cX9_passHour 29 = .ok (.getfield 150, 3) := by decide +kernel
theorem dX9_passHour_32 : decode cX9_passHour 32 = .ok (.ifCond .le 16, 3) := by decide +kernel
theorem dX9_passHour_35 : decode cX9_passHour 35 = .ok (.aload_n 0, 1) := by decide +kernel
theorem dX9_passHour_36 : decode cX9_passHour 36 = .ok (.getfield 55, 3) := by decide +kernel
theorem dX9_passHour_39 : decode cX9_passHour 39 = .ok (.dup, 1) := by decide +kernel
theorem dX9_passHour_40 : decode cX9_passHour 40 = .ok (.getfield 150, 3) := by decide +kernel
theorem dX9_passHour_43 : decode cX9_passHour 43 = .ok (.iconst 1, 1) := by decide +kernel
theorem dX9_passHour_44 : decode cX9_passHour 44 = .ok (.isub, 1) := by decide +kernel
theorem dX9_passHour_45 : decode cX9_passHour 45 = .ok (.putfield 150, 3) := by decide +kernel
theorem dX9_passHour_48 : decode cX9_passHour 48 = .ok (.aload_n 0, 1) := by decide +kernel
theorem dX9_passHour_49 : decode cX9_passHour 49 = .ok (.getfield 55, 3) := by decide +kernel
theorem dX9_passHour_52 : decode cX9_passHour 52 = .ok (.getfield 147, 3) := by decide +kernel
theorem dX9_passHour_55 : decode cX9_passHour 55 = .ok (.sipush 999, 3) := by decide +kernel
theorem dX9_passHour_58 : decode cX9_passHour 58 = .ok (.if_icmp .ge 16, 3) := by decide +kernel
theorem dX9_passHour_61 : decode cX9_passHour 61 = .ok (.aload_n 0, 1) := by decide +kernel
theorem dX9_passHour_62 : decode cX9_passHour 62 = .ok (.getfield 55, 3) := by decide +kernel
theorem dX9_passHour_65 : decode cX9_passHour 65 = .ok (.dup, 1) := by decide +kernel
theorem dX9_passHour_66 : decode cX9_passHour 66 = .ok (.getfield 147, 3) := by decide +kernel
theorem dX9_passHour_69 : decode cX9_passHour 69 = .ok (.iconst 1, 1) := by decide +kernel
theorem dX9_passHour_70 : decode cX9_passHour 70 = .ok (.iadd, 1) := by decide +kernel
theorem dX9_passHour_71 : decode cX9_passHour 71 = .ok (.putfield 147, 3) := by decide +kernel
theorem dX9_passHour_74 : decode cX9_passHour 74 = .ok (.aload_n 0, 1) := by decide +kernel
theorem dX9_passHour_75 : decode cX9_passHour 75 = .ok (.getfield 55, 3) := by decide +kernel
theorem dX9_passHour_78 : decode cX9_passHour 78 = .ok (.dup, 1) := by decide +kernel
theorem dX9_passHour_79 : decode cX9_passHour 79 = .ok (.getfield 200, 3) := by decide +kernel
theorem dX9_passHour_82 : decode cX9_passHour 82 = .ok (.iconst 1, 1) := by decide +kernel
theorem dX9_passHour_83 : decode cX9_passHour 83 = .ok (.iadd, 1) := by decide +kernel
theorem dX9_passHour_84 : decode cX9_passHour 84 = .ok (.putfield 200, 3) := by decide +kernel
theorem dX9_passHour_87 : decode cX9_passHour 87 = .ok (.return_, 1) := by decide +kernel
theorem dX9_refuse_0 : decode cX9_refuse 0 = .ok (.iload_n 1, 1) := by decide +kernel
theorem dX9_refuse_1 : decode cX9_refuse 1 = .ok (.ifCond .lt 18, 3) := by decide +kernel
theorem dX9_refuse_4 : decode cX9_refuse 4 = .ok (.iload_n 1, 1) := by decide +kernel
theorem dX9_refuse_5 : decode cX9_refuse 5 = .ok (.iconst 5, 1) := by decide +kernel
theorem dX9_refuse_6 : decode cX9_refuse 6 = .ok (.if_icmp .ge 13, 3) := by decide +kernel
theorem dX9_refuse_9 : decode cX9_refuse 9 = .ok (.aload_n 0, 1) := by decide +kernel
theorem dX9_refuse_10 : decode cX9_refuse 10 = .ok (.getfield 48, 3) := by decide +kernel
theorem dX9_refuse_13 : decode cX9_refuse 13 = .ok (.iload_n 1, 1) := by decide +kernel
theorem dX9_refuse_14 : decode cX9_refuse 14 = .ok (.dup2, 1) := by decide +kernel
theorem dX9_refuse_15 : decode cX9_refuse 15 = .ok (.iaload, 1) := by decide +kernel
theorem dX9_refuse_16 : decode cX9_refuse 16 = .ok (.iconst 1, 1) := by decide +kernel
theorem dX9_refuse_17 : decode cX9_refuse 17 = .ok (.iadd, 1) := by decide +kernel
theorem dX9_refuse_18 : decode cX9_refuse 18 = .ok (.iastore, 1) := by decide +kernel
theorem dX9_refuse_19 : decode cX9_refuse 19 = .ok (.iconst (-1), 1) := by decide +kernel
theorem dX9_refuse_20 : decode cX9_refuse 20 = .ok (.ireturn, 1) := by decide +kernel
theorem dX9_heap_0 : decode cX9_heap 0 = .ok (.aload_n 0, 1) := by decide +kernel
theorem dX9_heap_1 : decode cX9_heap 1 = .ok (.iload_n 1, 1) := by decide +kernel
theorem dX9_heap_2 : decode cX9_heap 2 = .ok (.iconst 1, 1) := by decide +kernel
theorem dX9_heap_3 : decode cX9_heap 3 = .ok (.bipush 9, 2) := by decide +kernel
theorem dX9_heap_5 : decode cX9_heap 5 = .ok (.invokevirtual 217, 3) := by decide +kernel
theorem dX9_heap_8 : decode cX9_heap 8 = .ok (.ireturn, 1) := by decide +kernel
theorem dX9_dig_0 : decode cX9_dig 0 = .ok (.aload_n 0, 1) := by decide +kernel
theorem dX9_dig_1 : decode cX9_dig 1 = .ok (.iload_n 1, 1) := by decide +kernel
theorem dX9_dig_2 : decode cX9_dig 2 = .ok (.iconst (-1), 1) := by decide +kernel
theorem dX9_dig_3 : decode cX9_dig 3 = .ok (.iconst 0, 1) := by decide +kernel
theorem dX9_dig_4 : decode cX9_dig 4 = .ok (.invokevirtual 217, 3) := by decide +kernel
theorem dX9_dig_7 : decode cX9_dig 7 = .ok (.ireturn, 1) := by decide +kernel
theorem dX9_reshape_0 : decode cX9_reshape 0 = .ok (.aload_n 0, 1) := by decide +kernel
theorem dX9_reshape_1 : decode cX9_reshape 1 = .ok (.getfield 55, 3) := by decide +kernel
theorem dX9_reshape_4 : decode cX9_reshape 4 = .ok (.iload_n 1, 1) := by decide +kernel
theorem dX9_reshape_5 : decode cX9_reshape 5 = .ok (.invokevirtual 153, 3) := by decide +kernel
theorem dX9_reshape_8 : decode cX9_reshape 8 = .ok (.ifCond .ne 9, 3) := by decide +kernel
theorem dX9_reshape_11 : decode cX9_reshape 11 = .ok (.aload_n 0, 1) := by decide +kernel
theorem dX9_reshape_12 : decode cX9_reshape 12 = .ok (.iconst 0, 1) := by decide +kernel
theorem dX9_reshape_13 : decode cX9_reshape 13 = .ok (.invokevirtual 197, 3) := by decide +kernel
theorem dX9_reshape_16 : decode cX9_reshape 16 = .ok (.ireturn, 1) := by decide +kernel
theorem dX9_reshape_17 : decode cX9_reshape 17 = .ok (.aload_n 0, 1) := by decide +kernel
theorem dX9_reshape_18 : decode cX9_reshape 18 = .ok (.getfield 55, 3) := by decide +kernel
theorem dX9_reshape_21 : decode cX9_reshape 21 = .ok (.getfield 157, 3) := by decide +kernel
theorem dX9_reshape_24 : decode cX9_reshape 24 = .ok (.iload_n 1, 1) := by decide +kernel
theorem dX9_reshape_25 : decode cX9_reshape 25 = .ok (.iaload, 1) := by decide +kernel
theorem dX9_reshape_26 : decode cX9_reshape 26 = .ok (.iload_n 3, 1) := by decide +kernel
theorem dX9_reshape_27 : decode cX9_reshape 27 = .ok (.if_icmp .ne 9, 3) := by decide +kernel
theorem dX9_reshape_30 : decode cX9_reshape 30 = .ok (.aload_n 0, 1) := by decide +kernel
theorem dX9_reshape_31 : decode cX9_reshape 31 = .ok (.iconst 2, 1) := by decide +kernel
theorem dX9_reshape_32 : decode cX9_reshape 32 = .ok (.invokevirtual 197, 3) := by decide +kernel
theorem dX9_reshape_35 : decode cX9_reshape 35 = .ok (.ireturn, 1) := by decide +kernel
theorem dX9_reshape_36 : decode cX9_reshape 36 = .ok (.aload_n 0, 1) := by decide +kernel
theorem dX9_reshape_37 : decode cX9_reshape 37 = .ok (.getfield 55, 3) := by decide +kernel
theorem dX9_reshape_40 : decode cX9_reshape 40 = .ok (.getfield 147, 3) := by decide +kernel
theorem dX9_reshape_43 : decode cX9_reshape 43 = .ok (.iconst 1, 1) := by decide +kernel
theorem dX9_reshape_44 : decode cX9_reshape 44 = .ok (.if_icmp .ge 9, 3) := by decide +kernel
theorem dX9_reshape_47 : decode cX9_reshape 47 = .ok (.aload_n 0, 1) := by decide +kernel
theorem dX9_reshape_48 : decode cX9_reshape 48 = .ok (.iconst 3, 1) := by decide +kernel
theorem dX9_reshape_49 : decode cX9_reshape 49 = .ok (.invokevirtual 197, 3) := by decide +kernel
theorem dX9_reshape_52 : decode cX9_reshape 52 = .ok (.ireturn, 1) := by decide +kernel
theorem dX9_reshape_53 : decode cX9_reshape 53 = .ok (.aload_n 0, 1) := by decide +kernel
theorem dX9_reshape_54 : decode cX9_reshape 54 = .ok (.getfield 68, 3) := by decide +kernel
theorem dX9_reshape_57 : decode cX9_reshape 57 = .ok (.aload_n 0, 1) := by decide +kernel
theorem dX9_reshape_58 : decode cX9_reshape 58 = .ok (.getfield 55, 3) := by decide +kernel
theorem dX9_reshape_61 : decode cX9_reshape 61 = .ok (.invokevirtual 203, 3) := by decide +kernel
theorem dX9_reshape_64 : decode cX9_reshape 64 = .ok (.aload_n 0, 1) := by decide +kernel
theorem dX9_reshape_65 : decode cX9_reshape 65 = .ok (.getfield 55, 3) := by decide +kernel
theorem dX9_reshape_68 : decode cX9_reshape 68 = .ok (.dup, 1) := by decide +kernel
theorem dX9_reshape_69 : decode cX9_reshape 69 = .ok (.getfield 147, 3) := by decide +kernel
theorem dX9_reshape_72 : decode cX9_reshape 72 = .ok (.iconst 1, 1) := by decide +kernel
theorem dX9_reshape_73 : decode cX9_reshape 73 = .ok (.isub, 1) := by decide +kernel
theorem dX9_reshape_74 : decode cX9_reshape 74 = .ok (.putfield 147, 3) := by decide +kernel
theorem dX9_reshape_77 : decode cX9_reshape 77 = .ok (.aload_n 0, 1) := by decide +kernel
theorem dX9_reshape_78 : decode cX9_reshape 78 = .ok (.getfield 55, 3) := by decide +kernel
theorem dX9_reshape_81 : decode cX9_reshape 81 = .ok (.getfield 157, 3) := by decide +kernel
theorem dX9_reshape_84 : decode cX9_reshape 84 = .ok (.iload_n 1, 1) := by decide +kernel
theorem dX9_reshape_85 : decode cX9_reshape 85 = .ok (.dup2, 1) := by decide +kernel
theorem dX9_reshape_86 : decode cX9_reshape 86 = .ok (.iaload, 1) := by decide +kernel
theorem dX9_reshape_87 : decode cX9_reshape 87 = .ok (.iload_n 2, 1) := by decide +kernel
theorem dX9_reshape_88 : decode cX9_reshape 88 = .ok (.iadd, 1) := by decide +kernel
theorem dX9_reshape_89 : decode cX9_reshape 89 = .ok (.iastore, 1) := by decide +kernel
theorem dX9_reshape_90 : decode cX9_reshape 90 = .ok (.aload_n 0, 1) := by decide +kernel
theorem dX9_reshape_91 : decode cX9_reshape 91 = .ok (.getfield 55, 3) := by decide +kernel
theorem dX9_reshape_94 : decode cX9_reshape 94 = .ok (.getfield 157, 3) := by decide +kernel
theorem dX9_reshape_97 : decode cX9_reshape 97 = .ok (.iload_n 1, 1) := by decide +kernel
theorem dX9_reshape_98 : decode cX9_reshape 98 = .ok (.iaload, 1) := by decide +kernel
theorem dX9_reshape_99 : decode cX9_reshape 99 = .ok (.ireturn, 1) := by decide +kernel
theorem dX9_mast_0 : decode cX9_mast 0 = .ok (.aload_n 0, 1) := by decide +kernel
theorem dX9_mast_1 : decode cX9_mast 1 = .ok (.getfield 55, 3) := by decide +kernel
theorem dX9_mast_4 : decode cX9_mast 4 = .ok (.iload_n 1, 1) := by decide +kernel
theorem dX9_mast_5 : decode cX9_mast 5 = .ok (.invokevirtual 160, 3) := by decide +kernel
theorem dX9_mast_8 : decode cX9_mast 8 = .ok (.ifCond .ne 9, 3) := by decide +kernel
theorem dX9_mast_11 : decode cX9_mast 11 = .ok (.aload_n 0, 1) := by decide +kernel
theorem dX9_mast_12 : decode cX9_mast 12 = .ok (.iconst 0, 1) := by decide +kernel
theorem dX9_mast_13 : decode cX9_mast 13 = .ok (.invokevirtual 197, 3) := by decide +kernel
theorem dX9_mast_16 : decode cX9_mast 16 = .ok (.ireturn, 1) := by decide +kernel
theorem dX9_mast_17 : decode cX9_mast 17 = .ok (.aload_n 0, 1) := by decide +kernel
theorem dX9_mast_18 : decode cX9_mast 18 = .ok (.getfield 55, 3) := by decide +kernel
theorem dX9_mast_21 : decode cX9_mast 21 = .ok (.getfield 173, 3) := by decide +kernel
theorem dX9_mast_24 : decode cX9_mast 24 = .ok (.iload_n 1, 1) := by decide +kernel
theorem dX9_mast_25 : decode cX9_mast 25 = .ok (.iaload, 1) := by decide +kernel
theorem dX9_mast_26 : decode cX9_mast 26 = .ok (.bipush 9, 2) := by decide +kernel
theorem dX9_mast_28 : decode cX9_mast 28 = .ok (.if_icmp .lt 9, 3) := by decide +kernel
theorem dX9_mast_31 : decode cX9_mast 31 = .ok (.aload_n 0, 1) := by decide +kernel
theorem dX9_mast_32 : decode cX9_mast 32 = .ok (.iconst 2, 1) := by decide +kernel
theorem dX9_mast_33 : decode cX9_mast 33 = .ok (.invokevirtual 197, 3) := by decide +kernel
theorem dX9_mast_36 : decode cX9_mast 36 = .ok (.ireturn, 1) := by decide +kernel
theorem dX9_mast_37 : decode cX9_mast 37 = .ok (.aload_n 0, 1) := by decide +kernel
theorem dX9_mast_38 : decode cX9_mast 38 = .ok (.getfield 55, 3) := by decide +kernel
theorem dX9_mast_41 : decode cX9_mast 41 = .ok (.getfield 147, 3) := by decide +kernel
theorem dX9_mast_44 : decode cX9_mast 44 = .ok (.iconst 2, 1) := by decide +kernel
theorem dX9_mast_45 : decode cX9_mast 45 = .ok (.if_icmp .ge 9, 3) := by decide +kernel
theorem dX9_mast_48 : decode cX9_mast 48 = .ok (.aload_n 0, 1) := by decide +kernel
theorem dX9_mast_49 : decode cX9_mast 49 = .ok (.iconst 3, 1) := by decide +kernel
theorem dX9_mast_50 : decode cX9_mast 50 = .ok (.invokevirtual 197, 3) := by decide +kernel
theorem dX9_mast_53 : decode cX9_mast 53 = .ok (.ireturn, 1) := by decide +kernel
theorem dX9_mast_54 : decode cX9_mast 54 = .ok (.aload_n 0, 1) := by decide +kernel
theorem dX9_mast_55 : decode cX9_mast 55 = .ok (.getfield 68, 3) := by decide +kernel
theorem dX9_mast_58 : decode cX9_mast 58 = .ok (.aload_n 0, 1) := by decide +kernel
theorem dX9_mast_59 : decode cX9_mast 59 = .ok (.getfield 55, 3) := by decide +kernel
theorem dX9_mast_62 : decode cX9_mast 62 = .ok (.invokevirtual 203, 3) := by decide +kernel
theorem dX9_mast_65 : decode cX9_mast 65 = .ok (.aload_n 0, 1) := by decide +kernel
theorem dX9_mast_66 : decode cX9_mast 66 = .ok (.getfield 55, 3) := by decide +kernel
theorem dX9_mast_69 : decode cX9_mast 69 = .ok (.dup, 1) := by decide +kernel
theorem dX9_mast_70 : decode cX9_mast 70 = .ok (.getfield 147, 3) := by decide +kernel
theorem dX9_mast_73 : decode cX9_mast 73 = .ok (.iconst 2, 1) := by decide +kernel
theorem dX9_mast_74 : decode cX9_mast 74 = .ok (.isub, 1) := by decide +kernel
theorem dX9_mast_75 : decode cX9_mast 75 = .ok (.putfield 147, 3) := by decide +kernel
theorem dX9_mast_78 : decode cX9_mast 78 = .ok (.aload_n 0, 1) := by decide +kernel
theorem dX9_mast_79 : decode cX9_mast 79 = .ok (.getfield 55, 3) := by decide +kernel
theorem dX9_mast_82 : decode cX9_mast 82 = .ok (.getfield 173, 3) := by decide +kernel
theorem dX9_mast_85 : decode cX9_mast 85 = .ok (.iload_n 1, 1) := by decide +kernel
theorem dX9_mast_86 : decode cX9_mast 86 = .ok (.dup2, 1) := by decide +kernel
theorem dX9_mast_87 : decode cX9_mast 87 = .ok (.iaload, 1) := by decide +kernel
theorem dX9_mast_88 : decode cX9_mast 88 = .ok (.iconst 1, 1) := by decide +kernel
theorem dX9_mast_89 : decode cX9_mast 89 = .ok (.iadd, 1) := by decide +kernel
theorem dX9_mast_90 : decode cX9_mast 90 = .ok (.iastore, 1) := by decide +kernel
theorem dX9_mast_91 : decode cX9_mast 91 = .ok (.aload_n 0, 1) := by decide +kernel
theorem dX9_mast_92 : decode cX9_mast 92 = .ok (.getfield 55, 3) := by decide +kernel
theorem dX9_mast_95 : decode cX9_mast 95 = .ok (.getfield 173, 3) := by decide +kernel
theorem dX9_mast_98 : decode cX9_mast 98 = .ok (.iload_n 1, 1) := by decide +kernel
theorem dX9_mast_99 : decode cX9_mast 99 = .ok (.iaload, 1) := by decide +kernel
theorem dX9_mast_100 : decode cX9_mast 100 = .ok (.ireturn, 1) := by decide +kernel
theorem dX9_moves_0 : decode cX9_moves 0 = .ok (.aload_n 0, 1) := by decide +kernel
theorem dX9_moves_1 : decode cX9_moves 1 = .ok (.getfield 55, 3) := by decide +kernel
theorem dX9_moves_4 : decode cX9_moves 4 = .ok (.iload_n 1, 1) := by decide +kernel
theorem dX9_moves_5 : decode cX9_moves 5 = .ok (.invokevirtual 160, 3) := by decide +kernel
theorem dX9_moves_8 : decode cX9_moves 8 = .ok (.ifCond .ne 9, 3) := by decide +kernel
theorem dX9_moves_11 : decode cX9_moves 11 = .ok (.aload_n 0, 1) := by decide +kernel
theorem dX9_moves_12 : decode cX9_moves 12 = .ok (.iconst 0, 1) := by decide +kernel
theorem dX9_moves_13 : decode cX9_moves 13 = .ok (.invokevirtual 197, 3) := by decide +kernel
theorem dX9_moves_16 : decode cX9_moves 16 = .ok (.ireturn, 1) := by decide +kernel
theorem dX9_moves_17 : decode cX9_moves 17 = .ok (.aload_n 0, 1) := by decide +kernel
theorem dX9_moves_18 : decode cX9_moves 18 = .ok (.getfield 55, 3) := by decide +kernel
theorem dX9_moves_21 : decode cX9_moves 21 = .ok (.iload_n 2, 1) := by decide +kernel
theorem dX9_moves_22 : decode cX9_moves 22 = .ok (.invokevirtual 153, 3) := by decide +kernel
theorem dX9_moves_25 : decode cX9_moves 25 = .ok (.ifCond .ne 9, 3) := by decide +kernel
theorem dX9_moves_28 : decode cX9_moves 28 = .ok (.aload_n 0, 1) := by decide +kernel
theorem dX9_moves_29 : decode cX9_moves 29 = .ok (.iconst 1, 1) := by decide +kernel
theorem dX9_moves_30 : decode cX9_moves 30 = .ok (.invokevirtual 197, 3) := by decide +kernel
theorem dX9_moves_33 : decode cX9_moves 33 = .ok (.ireturn, 1) := by decide +kernel
theorem dX9_moves_34 : decode cX9_moves 34 = .ok (.aload_n 0, 1) := by decide +kernel
theorem dX9_moves_35 : decode cX9_moves 35 = .ok (.getfield 55, 3) := by decide +kernel
theorem dX9_moves_38 : decode cX9_moves 38 = .ok (.getfield 170, 3) := by decide +kernel
theorem dX9_moves_41 : decode cX9_moves 41 = .ok (.iload_n 1, 1) := by decide +kernel
theorem dX9_moves_42 : decode cX9_moves 42 = .ok (.iaload, 1) := by decide +kernel
theorem dX9_moves_43 : decode cX9_moves 43 = .ok (.iload_n 2, 1) := by decide +kernel
theorem dX9_moves_44 : decode cX9_moves 44 = .ok (.if_icmp .ne 9, 3) := by decide +kernel
theorem dX9_moves_47 : decode cX9_moves 47 = .ok (.aload_n 0, 1) := by decide +kernel
theorem dX9_moves_48 : decode cX9_moves 48 = .ok (.iconst 2, 1) := by decide +kernel
theorem dX9_moves_49 : decode cX9_moves 49 = .ok (.invokevirtual 197, 3) := by decide +kernel
theorem dX9_moves_52 : decode cX9_moves 52 = .ok (.ireturn, 1) := by decide +kernel
theorem dX9_moves_53 : decode cX9_moves 53 = .ok (.aload_n 0, 1) := by decide +kernel
theorem dX9_moves_54 : decode cX9_moves 54 = .ok (.getfield 55, 3) := by decide +kernel
theorem dX9_moves_57 : decode cX9_moves 57 = .ok (.getfield 147, 3) := by decide +kernel
theorem dX9_moves_60 : decode cX9_moves 60 = .ok (.iconst 3, 1) := by decide +kernel
theorem dX9_moves_61 : decode cX9_moves 61 = .ok (.if_icmp .ge 9, 3) := by decide +kernel
theorem dX9_moves_64 : decode cX9_moves 64 = .ok (.aload_n 0, 1) := by decide +kernel
theorem dX9_moves_65 : decode cX9_moves 65 = .ok (.iconst 3, 1) := by decide +kernel
theorem dX9_moves_66 : decode cX9_moves 66 = .ok (.invokevirtual 197, 3) := by decide +kernel
theorem dX9_moves_69 : decode cX9_moves 69 = .ok (.ireturn, 1) := by decide +kernel
theorem dX9_moves_70 : decode cX9_moves 70 = .ok (.aload_n 0, 1) := by decide +kernel
theorem dX9_moves_71 : decode cX9_moves 71 = .ok (.getfield 68, 3) := by decide +kernel
theorem dX9_moves_74 : decode cX9_moves 74 = .ok (.aload_n 0, 1) := by decide +kernel
theorem dX9_moves_75 : decode cX9_moves 75 = .ok (.getfield 55, 3) := by decide +kernel
theorem dX9_moves_78 : decode cX9_moves 78 = .ok (.invokevirtual 203, 3) := by decide +kernel
theorem dX9_moves_81 : decode cX9_moves 81 = .ok (.aload_n 0, 1) := by decide +kernel
theorem dX9_moves_82 : decode cX9_moves 82 = .ok (.getfield 55, 3) := by decide +kernel
theorem dX9_moves_85 : decode cX9_moves 85 = .ok (.getfield 170, 3) := by decide +kernel
theorem dX9_moves_88 : decode cX9_moves 88 = .ok (.iload_n 1, 1) := by decide +kernel
theorem dX9_moves_89 : decode cX9_moves 89 = .ok (.iaload, 1) := by decide +kernel
theorem dX9_moves_90 : decode cX9_moves 90 = .ok (.istore_n 3, 1) := by decide +kernel
theorem dX9_moves_91 : decode cX9_moves 91 = .ok (.aload_n 0, 1) := by decide +kernel
theorem dX9_moves_92 : decode cX9_moves 92 = .ok (.getfield 55, 3) := by decide +kernel
theorem dX9_moves_95 : decode cX9_moves 95 = .ok (.dup, 1) := by decide +kernel
theorem dX9_moves_96 : decode cX9_moves 96 = .ok (.getfield 147, 3) := by decide +kernel
theorem dX9_moves_99 : decode cX9_moves 99 = .ok (.iconst 3, 1) := by decide +kernel
theorem dX9_moves_100 : decode cX9_moves 100 = .ok (.isub, 1) := by decide +kernel
theorem dX9_moves_101 : decode cX9_moves 101 = .ok (.putfield 147, 3) := by decide +kernel
theorem dX9_moves_104 : decode cX9_moves 104 = .ok (.aload_n 0, 1) := by decide +kernel
theorem dX9_moves_105 : decode cX9_moves 105 = .ok (.getfield 55, 3) := by decide +kernel
theorem dX9_moves_108 : decode cX9_moves 108 = .ok (.getfield 170, 3) := by decide +kernel
theorem dX9_moves_111 : decode cX9_moves 111 = .ok (.iload_n 1, 1) := by decide +kernel
theorem dX9_moves_112 : decode cX9_moves 112 = .ok (.iload_n 2, 1) := by decide +kernel
theorem dX9_moves_113 : decode cX9_moves 113 = .ok (.iastore, 1) := by decide +kernel
theorem dX9_moves_114 : decode cX9_moves 114 = .ok (.iload_n 3, 1) := by decide +kernel
theorem dX9_moves_115 : decode cX9_moves 115 = .ok (.ireturn, 1) := by decide +kernel
theorem dX9_fog_0 : decode cX9_fog 0 = .ok (.aload_n 0, 1) := by decide +kernel
theorem dX9_fog_1 : decode cX9_fog 1 = .ok (.invokevirtual 137, 3) := by decide +kernel
theorem dX9_fog_4 : decode cX9_fog 4 = .ok (.ifCond .eq 9, 3) := by decide +kernel
theorem dX9_fog_7 : decode cX9_fog 7 = .ok (.aload_n 0, 1) := by decide +kernel
theorem dX9_fog_8 : decode cX9_fog 8 = .ok (.iconst 0, 1) := by decide +kernel
theorem dX9_fog_9 : decode cX9_fog 9 = .ok (.invokevirtual 197, 3) := by decide +kernel
theorem dX9_fog_12 : decode cX9_fog 12 = .ok (.ireturn, 1) := by decide +kernel
theorem dX9_fog_13 : decode cX9_fog 13 = .ok (.iload_n 1, 1) := by decide +kernel
theorem dX9_fog_14 : decode cX9_fog 14 = .ok (.ifCond .lt 9, 3) := by decide +kernel
theorem dX9_fog_17 : decode cX9_fog 17 = .ok (.iload_n 1, 1) := by decide +kernel
theorem dX9_fog_18 : decode cX9_fog 18 = .ok (.bipush 9, 2) := by decide +kernel
theorem dX9_fog_20 : decode cX9_fog 20 = .ok (.if_icmp .le 9, 3) := by decide +kernel
theorem dX9_fog_23 : decode cX9_fog 23 = .ok (.aload_n 0, 1) := by decide +kernel
theorem dX9_fog_24 : decode cX9_fog 24 = .ok (.iconst 1, 1) := by decide +kernel
theorem dX9_fog_25 : decode cX9_fog 25 = .ok (.invokevirtual 197, 3) := by decide +kernel
theorem dX9_fog_28 : decode cX9_fog 28 = .ok (.ireturn, 1) := by decide +kernel
theorem dX9_fog_29 : decode cX9_fog 29 = .ok (.aload_n 0, 1) := by decide +kernel
theorem dX9_fog_30 : decode cX9_fog 30 = .ok (.getfield 55, 3) := by decide +kernel
theorem dX9_fog_33 : decode cX9_fog 33 = .ok (.getfield 150, 3) := by decide +kernel
theorem dX9_fog_36 : decode cX9_fog 36 = .ok (.iload_n 1, 1) := by decide +kernel
theorem dX9_fog_37 : decode cX9_fog 37 = .ok (.if_icmp .ne 9, 3) := by decide +kernel
theorem dX9_fog_40 : decode cX9_fog 40 = .ok (.aload_n 0, 1) := by decide +kernel
theorem dX9_fog_41 : decode cX9_fog 41 = .ok (.iconst 2, 1) := by decide +kernel
theorem dX9_fog_42 : decode cX9_fog 42 = .ok (.invokevirtual 197, 3) := by decide +kernel
theorem dX9_fog_45 : decode cX9_fog 45 = .ok (.ireturn, 1) := by decide +kernel
theorem dX9_fog_46 : decode cX9_fog 46 = .ok (.aload_n 0, 1) := by decide +kernel
theorem dX9_fog_47 : decode cX9_fog 47 = .ok (.getfield 68, 3) := by decide +kernel
theorem dX9_fog_50 : decode cX9_fog 50 = .ok (.aload_n 0, 1) := by decide +kernel
theorem dX9_fog_51 : decode cX9_fog 51 = .ok (.getfield 55, 3) := by decide +kernel
theorem dX9_fog_54 : decode cX9_fog 54 = .ok (.invokevirtual 203, 3) := by decide +kernel
theorem dX9_fog_57 : decode cX9_fog 57 = .ok (.aload_n 0, 1) := by decide +kernel
theorem dX9_fog_58 : decode cX9_fog 58 = .ok (.getfield 55, 3) := by decide +kernel
theorem dX9_fog_61 : decode cX9_fog 61 = .ok (.getfield 150, 3) := by decide +kernel
theorem dX9_fog_64 : decode cX9_fog 64 = .ok (.istore_n 2, 1) := by decide +kernel
theorem dX9_fog_65 : decode cX9_fog 65 = .ok (.aload_n 0, 1) := by decide +kernel
theorem dX9_fog_66 : decode cX9_fog 66 = .ok (.getfield 55, 3) := by decide +kernel
theorem dX9_fog_69 : decode cX9_fog 69 = .ok (.iload_n 1, 1) := by decide +kernel
theorem dX9_fog_70 : decode cX9_fog 70 = .ok (.putfield 150, 3) := by decide +kernel
theorem dX9_fog_73 : decode cX9_fog 73 = .ok (.iload_n 2, 1) := by decide +kernel
theorem dX9_fog_74 : decode cX9_fog 74 = .ok (.ireturn, 1) := by decide +kernel
theorem dX9_oath_0 : decode cX9_oath 0 = .ok (.aload_n 0, 1) := by decide +kernel
theorem dX9_oath_1 : decode cX9_oath 1 = .ok (.getfield 55, 3) := by decide +kernel
theorem dX9_oath_4 : decode cX9_oath 4 = .ok (.iload_n 1, 1) := by decide +kernel
theorem dX9_oath_5 : decode cX9_oath 5 = .ok (.invokevirtual 160, 3) := by decide +kernel
theorem dX9_oath_8 : decode cX9_oath 8 = .ok (.ifCond .ne 9, 3) := by decide +kernel
theorem dX9_oath_11 : decode cX9_oath 11 = .ok (.aload_n 0, 1) := by decide +kernel
theorem dX9_oath_12 : decode cX9_oath 12 = .ok (.iconst 0, 1) := by decide +kernel
theorem dX9_oath_13 : decode cX9_oath 13 = .ok (.invokevirtual 197, 3) := by decide +kernel
theorem dX9_oath_16 : decode cX9_oath 16 = .ok (.ireturn, 1) := by decide +kernel
theorem dX9_oath_17 : decode cX9_oath 17 = .ok (.aload_n 0, 1) := by decide +kernel
theorem dX9_oath_18 : decode cX9_oath 18 = .ok (.getfield 68, 3) := by decide +kernel
theorem dX9_oath_21 : decode cX9_oath 21 = .ok (.aload_n 0, 1) := by decide +kernel
theorem dX9_oath_22 : decode cX9_oath 22 = .ok (.getfield 55, 3) := by decide +kernel
theorem dX9_oath_25 : decode cX9_oath 25 = .ok (.invokevirtual 203, 3) := by decide +kernel
theorem dX9_oath_28 : decode cX9_oath 28 = .ok (.aload_n 0, 1) := by decide +kernel
theorem dX9_oath_29 : decode cX9_oath 29 = .ok (.getfield 55, 3) := by decide +kernel
theorem dX9_oath_32 : decode cX9_oath 32 = .ok (.dup, 1) := by decide +kernel
theorem dX9_oath_33 : decode cX9_oath 33 = .ok (.getfield 186, 3) := by decide +kernel
theorem dX9_oath_36 : decode cX9_oath 36 = .ok (.iconst 1, 1) := by decide +kernel
theorem dX9_oath_37 : decode cX9_oath 37 = .ok (.iload_n 1, 1) := by decide +kernel
theorem dX9_oath_38 : decode cX9_oath 38 = .ok (.ishl, 1) := by decide +kernel
theorem dX9_oath_39 : decode cX9_oath 39 = .ok (.ixor, 1) := by decide +kernel
theorem dX9_oath_40 : decode cX9_oath 40 = .ok (.putfield 186, 3) := by decide +kernel
theorem dX9_oath_43 : decode cX9_oath 43 = .ok (.aload_n 0, 1) := by decide +kernel
theorem dX9_oath_44 : decode cX9_oath 44 = .ok (.getfield 55, 3) := by decide +kernel
theorem dX9_oath_47 : decode cX9_oath 47 = .ok (.getfield 186, 3) := by decide +kernel
theorem dX9_oath_50 : decode cX9_oath 50 = .ok (.iload_n 1, 1) := by decide +kernel
theorem dX9_oath_51 : decode cX9_oath 51 = .ok (.ishr, 1) := by decide +kernel
theorem dX9_oath_52 : decode cX9_oath 52 = .ok (.iconst 1, 1) := by decide +kernel
theorem dX9_oath_53 : decode cX9_oath 53 = .ok (.iand, 1) := by decide +kernel
theorem dX9_oath_54 : decode cX9_oath 54 = .ok (.ireturn, 1) := by decide +kernel
theorem dX9_give_0 : decode cX9_give 0 = .ok (.aload_n 0, 1) := by decide +kernel
theorem dX9_give_1 : decode cX9_give 1 = .ok (.invokevirtual 137, 3) := by decide +kernel
theorem dX9_give_4 : decode cX9_give 4 = .ok (.ifCond .eq 9, 3) := by decide +kernel
theorem dX9_give_7 : decode cX9_give 7 = .ok (.aload_n 0, 1) := by decide +kernel
theorem dX9_give_8 : decode cX9_give 8 = .ok (.iconst 0, 1) := by decide +kernel
theorem dX9_give_9 : decode cX9_give 9 = .ok (.invokevirtual 197, 3) := by decide +kernel
theorem dX9_give_12 : decode cX9_give 12 = .ok (.ireturn, 1) := by decide +kernel
theorem dX9_give_13 : decode cX9_give 13 = .ok (.iload_n 1, 1) := by decide +kernel
theorem dX9_give_14 : decode cX9_give 14 = .ok (.iconst 1, 1) := by decide +kernel
theorem dX9_give_15 : decode cX9_give 15 = .ok (.if_icmp .lt 24, 3) := by decide +kernel
theorem dX9_give_18 : decode cX9_give 18 = .ok (.iload_n 1, 1) := by decide +kernel
theorem dX9_give_19 : decode cX9_give 19 = .ok (.bipush 50, 2) := by decide +kernel
theorem dX9_give_21 : decode cX9_give 21 = .ok (.if_icmp .gt 18, 3) := by decide +kernel
theorem dX9_give_24 : decode cX9_give 24 = .ok (.aload_n 0, 1) := by decide +kernel
theorem dX9_give_25 : decode cX9_give 25 = .ok (.getfield 55, 3) := by decide +kernel
theorem dX9_give_28 : decode cX9_give 28 = .ok (.getfield 147, 3) := by decide +kernel
theorem dX9_give_31 : decode cX9_give 31 = .ok (.iload_n 1, 1) := by decide +kernel
theorem dX9_give_32 : decode cX9_give 32 = .ok (.iadd, 1) := by decide +kernel
theorem dX9_give_33 : decode cX9_give 33 = .ok (.sipush 999, 3) := by decide +kernel
theorem dX9_give_36 : decode cX9_give 36 = .ok (.if_icmp .le 9, 3) := by decide +kernel
theorem dX9_give_39 : decode cX9_give 39 = .ok (.aload_n 0, 1) := by decide +kernel
theorem dX9_give_40 : decode cX9_give 40 = .ok (.iconst 1, 1) := by decide +kernel
theorem dX9_give_41 : decode cX9_give 41 = .ok (.invokevirtual 197, 3) := by decide +kernel
theorem dX9_give_44 : decode cX9_give 44 = .ok (.ireturn, 1) := by decide +kernel
theorem dX9_give_45 : decode cX9_give 45 = .ok (.aload_n 0, 1) := by decide +kernel
theorem dX9_give_46 : decode cX9_give 46 = .ok (.getfield 68, 3) := by decide +kernel
theorem dX9_give_49 : decode cX9_give 49 = .ok (.aload_n 0, 1) := by decide +kernel
theorem dX9_give_50 : decode cX9_give 50 = .ok (.getfield 55, 3) := by decide +kernel
theorem dX9_give_53 : decode cX9_give 53 = .ok (.invokevirtual 203, 3) := by decide +kernel
theorem dX9_give_56 : decode cX9_give 56 = .ok (.aload_n 0, 1) := by decide +kernel
theorem dX9_give_57 : decode cX9_give 57 = .ok (.getfield 55, 3) := by decide +kernel
theorem dX9_give_60 : decode cX9_give 60 = .ok (.dup, 1) := by decide +kernel
theorem dX9_give_61 : decode cX9_give 61 = .ok (.getfield 147, 3) := by decide +kernel
theorem dX9_give_64 : decode cX9_give 64 = .ok (.iload_n 1, 1) := by decide +kernel
theorem dX9_give_65 : decode cX9_give 65 = .ok (.iadd, 1) := by decide +kernel
theorem dX9_give_66 : decode cX9_give 66 = .ok (.putfield 147, 3) := by decide +kernel
theorem dX9_give_69 : decode cX9_give 69 = .ok (.aload_n 0, 1) := by decide +kernel
theorem dX9_give_70 : decode cX9_give 70 = .ok (.getfield 55, 3) := by decide +kernel
theorem dX9_give_73 : decode cX9_give 73 = .ok (.getfield 147, 3) := by decide +kernel
theorem dX9_give_76 : decode cX9_give 76 = .ok (.ireturn, 1) := by decide +kernel
theorem dX9_mist_0 : decode cX9_mist 0 = .ok (.iload_n 1, 1) := by decide +kernel
theorem dX9_mist_1 : decode cX9_mist 1 = .ok (.ifCond .lt 17, 3) := by decide +kernel
theorem dX9_mist_4 : decode cX9_mist 4 = .ok (.iload_n 1, 1) := by decide +kernel
theorem dX9_mist_5 : decode cX9_mist 5 = .ok (.bipush 9, 2) := by decide +kernel
theorem dX9_mist_7 : decode cX9_mist 7 = .ok (.if_icmp .gt 11, 3) := by decide +kernel
theorem dX9_mist_10 : decode cX9_mist 10 = .ok (.iload_n 1, 1) := by decide +kernel
theorem dX9_mist_11 : decode cX9_mist 11 = .ok (.aload_n 0, 1) := by decide +kernel
theorem dX9_mist_12 : decode cX9_mist 12 = .ok (.getfield 45, 3) := by decide +kernel
theorem dX9_mist_15 : decode cX9_mist 15 = .ok (.if_icmp .ne 5, 3) := by decide +kernel
theorem dX9_mist_18 : decode cX9_mist 18 = .ok (.iconst 0, 1) := by decide +kernel
theorem dX9_mist_19 : decode cX9_mist 19 = .ok (.ireturn, 1) := by decide +kernel
theorem dX9_mist_20 : decode cX9_mist 20 = .ok (.aload_n 0, 1) := by decide +kernel
theorem dX9_mist_21 : decode cX9_mist 21 = .ok (.iload_n 1, 1) := by decide +kernel
theorem dX9_mist_22 : decode cX9_mist 22 = .ok (.putfield 45, 3) := by decide +kernel
theorem dX9_mist_25 : decode cX9_mist 25 = .ok (.iconst 1, 1) := by decide +kernel
theorem dX9_mist_26 : decode cX9_mist 26 = .ok (.ireturn, 1) := by decide +kernel
theorem dX9_years_0 : decode cX9_years 0 = .ok (.aload_n 0, 1) := by decide +kernel
theorem dX9_years_1 : decode cX9_years 1 = .ok (.invokevirtual 137, 3) := by decide +kernel
theorem dX9_years_4 : decode cX9_years 4 = .ok (.ifCond .ne 29, 3) := by decide +kernel
theorem dX9_years_7 : decode cX9_years 7 = .ok (.iload_n 1, 1) := by decide +kernel
theorem dX9_years_8 : decode cX9_years 8 = .ok (.iconst 1, 1) := by decide +kernel
theorem dX9_years_9 : decode cX9_years 9 = .ok (.if_icmp .lt 24, 3) := by decide +kernel
theorem dX9_years_12 : decode cX9_years 12 = .ok (.iload_n 1, 1) := by decide +kernel
theorem dX9_years_13 : decode cX9_years 13 = .ok (.bipush 60, 2) := by decide +kernel
theorem dX9_years_15 : decode cX9_years 15 = .ok (.if_icmp .gt 18, 3) := by decide +kernel
theorem dX9_years_18 : decode cX9_years 18 = .ok (.aload_n 0, 1) := by decide +kernel
theorem dX9_years_19 : decode cX9_years 19 = .ok (.getfield 55, 3) := by decide +kernel
theorem dX9_years_22 : decode cX9_years 22 = .ok (.getfield 200, 3) := by decide +kernel
theorem dX9_years_25 : decode cX9_years 25 = .ok (.iload_n 1, 1) := by decide +kernel
theorem dX9_years_26 : decode cX9_years 26 = .ok (.iadd, 1) := by decide +kernel
theorem dX9_years_27 : decode cX9_years 27 = .ok (.sipush 9999, 3) := by decide +kernel
theorem dX9_years_30 : decode cX9_years 30 = .ok (.if_icmp .le 5, 3) := by decide +kernel
theorem dX9_years_33 : decode cX9_years 33 = .ok (.iconst (-1), 1) := by decide +kernel
theorem dX9_years_34 : decode cX9_years 34 = .ok (.ireturn, 1) := by decide +kernel
theorem dX9_years_35 : decode cX9_years 35 = .ok (.aload_n 0, 1) := by decide +kernel
theorem dX9_years_36 : decode cX9_years 36 = .ok (.lload_n 2, 1) := by decide +kernel
theorem dX9_years_37 : decode cX9_years 37 = .ok (.putfield 93, 3) := by decide +kernel
theorem dX9_years_40 : decode cX9_years 40 = .ok (.iconst 0, 1) := by decide +kernel
theorem dX9_years_41 : decode cX9_years 41 = .ok (.istore 4, 2) := by decide +kernel
theorem dX9_years_43 : decode cX9_years 43 = .ok (.iload 4, 2) := by decide +kernel
theorem dX9_years_45 : decode cX9_years 45 = .ok (.iload_n 1, 1) := by decide +kernel
theorem dX9_years_46 : decode cX9_years 46 = .ok (.if_icmp .ge 28, 3) := by decide +kernel
theorem dX9_years_49 : decode cX9_years 49 = .ok (.aload_n 0, 1) := by decide +kernel
theorem dX9_years_50 : decode cX9_years 50 = .ok (.getfield 68, 3) := by decide +kernel
theorem dX9_years_53 : decode cX9_years 53 = .ok (.aload_n 0, 1) := by decide +kernel
theorem dX9_years_54 : decode cX9_years 54 = .ok (.getfield 55, 3) := by decide +kernel
theorem dX9_years_57 : decode cX9_years 57 = .ok (.invokevirtual 203, 3) := by decide +kernel
theorem dX9_years_60 : decode cX9_years 60 = .ok (.aload_n 0, 1) := by decide +kernel
theorem dX9_years_61 : decode cX9_years 61 = .ok (.invokevirtual 221, 3) := by decide +kernel
theorem dX9_years_64 : decode cX9_years 64 = .ok (.aload_n 0, 1) := by decide +kernel
theorem dX9_years_65 : decode cX9_years 65 = .ok (.invokevirtual 206, 3) := by decide +kernel
theorem dX9_years_68 : decode cX9_years 68 = .ok (.iinc 4 1, 3) := by decide +kernel
theorem dX9_years_71 : decode cX9_years 71 = .ok (.goto (-28), 3) := by decide +kernel
theorem dX9_years_74 : decode cX9_years 74 = .ok (.aload_n 0, 1) := by decide +kernel
theorem dX9_years_75 : decode cX9_years 75 = .ok (.getfield 55, 3) := by decide +kernel
theorem dX9_years_78 : decode cX9_years 78 = .ok (.getfield 200, 3) := by decide +kernel
theorem dX9_years_81 : decode cX9_years 81 = .ok (.ireturn, 1) := by decide +kernel
theorem dX9_changeByDraws_0 : decode cX9_changeByDraws 0 = .ok (.aload_n 0, 1) := by decide +kernel
theorem dX9_changeByDraws_1 : decode cX9_changeByDraws 1 = .ok (.aload_n 0, 1) := by decide +kernel
theorem dX9_changeByDraws_2 : decode cX9_changeByDraws 2 = .ok (.getfield 55, 3) := by decide +kernel
theorem dX9_changeByDraws_5 : decode cX9_changeByDraws 5 = .ok (.getfield 130, 3) := by decide +kernel
theorem dX9_changeByDraws_8 : decode cX9_changeByDraws 8 = .ok (.invokevirtual 224, 3) := by decide +kernel
theorem dX9_changeByDraws_11 : decode cX9_changeByDraws 11 = .ok (.istore_n 1, 1) := by decide +kernel
theorem dX9_changeByDraws_12 : decode cX9_changeByDraws 12 = .ok (.aload_n 0, 1) := by decide +kernel
theorem dX9_changeByDraws_13 : decode cX9_changeByDraws 13 = .ok (.iconst 3, 1) := by decide +kernel
theorem dX9_changeByDraws_14 : decode cX9_changeByDraws 14 = .ok (.invokevirtual 224, 3) := by decide +kernel
theorem dX9_changeByDraws_17 : decode cX9_changeByDraws 17 = .ok (.iconst 1, 1) := by decide +kernel
theorem dX9_changeByDraws_18 : decode cX9_changeByDraws 18 = .ok (.isub, 1) := by decide +kernel
theorem dX9_changeByDraws_19 : decode cX9_changeByDraws 19 = .ok (.istore_n 2, 1) := by decide +kernel
theorem dX9_changeByDraws_20 : decode cX9_changeByDraws 20 = .ok (.aload_n 0, 1) := by decide +kernel
theorem dX9_changeByDraws_21 : decode cX9_changeByDraws 21 = .ok (.getfield 55, 3) := by decide +kernel
theorem dX9_changeByDraws_24 : decode cX9_changeByDraws 24 = .ok (.iload_n 1, 1) := by decide +kernel
theorem dX9_changeByDraws_25 : decode cX9_changeByDraws 25 = .ok (.invokevirtual 153, 3) := by decide +kernel
theorem dX9_changeByDraws_28 : decode cX9_changeByDraws 28 = .ok (.ifCond .eq 29, 3) := by decide +kernel
theorem dX9_changeByDraws_31 : decode cX9_changeByDraws 31 = .ok (.aload_n 0, 1) := by decide +kernel
theorem dX9_changeByDraws_32 : decode cX9_changeByDraws 32 = .ok (.getfield 55, 3) := by decide +kernel
theorem dX9_changeByDraws_35 : decode cX9_changeByDraws 35 = .ok (.getfield 157, 3) := by decide +kernel
theorem dX9_changeByDraws_38 : decode cX9_changeByDraws 38 = .ok (.iload_n 1, 1) := by decide +kernel
theorem dX9_changeByDraws_39 : decode cX9_changeByDraws 39 = .ok (.aload_n 0, 1) := by decide +kernel
theorem dX9_changeByDraws_40 : decode cX9_changeByDraws 40 = .ok (.getfield 55, 3) := by decide +kernel
theorem dX9_changeByDraws_43 : decode cX9_changeByDraws 43 = .ok (.getfield 157, 3) := by decide +kernel
theorem dX9_changeByDraws_46 : decode cX9_changeByDraws 46 = .ok (.iload_n 1, 1) := by decide +kernel
theorem dX9_changeByDraws_47 : decode cX9_changeByDraws 47 = .ok (.iaload, 1) := by decide +kernel
theorem dX9_changeByDraws_48 : decode cX9_changeByDraws 48 = .ok (.iload_n 2, 1) := by decide +kernel
theorem dX9_changeByDraws_49 : decode cX9_changeByDraws 49 = .ok (.iadd, 1) := by decide +kernel
theorem dX9_changeByDraws_50 : decode cX9_changeByDraws 50 = .ok (.iconst 0, 1) := by decide +kernel
theorem dX9_changeByDraws_51 : decode cX9_changeByDraws 51 = .ok (.bipush 9, 2) := by decide +kernel
theorem dX9_changeByDraws_53 : decode cX9_changeByDraws 53 = .ok (.invokestatic 227, 3) := by decide +kernel
theorem dX9_changeByDraws_56 : decode cX9_changeByDraws 56 = .ok (.iastore, 1) := by decide +kernel
theorem dX9_changeByDraws_57 : decode cX9_changeByDraws 57 = .ok (.aload_n 0, 1) := by decide +kernel
theorem dX9_changeByDraws_58 : decode cX9_changeByDraws 58 = .ok (.bipush 10, 2) := by decide +kernel
theorem dX9_changeByDraws_60 : decode cX9_changeByDraws 60 = .ok (.invokevirtual 224, 3) := by decide +kernel
theorem dX9_changeByDraws_63 : decode cX9_changeByDraws 63 = .ok (.aload_n 0, 1) := by decide +kernel
theorem dX9_changeByDraws_64 : decode cX9_changeByDraws 64 = .ok (.getfield 45, 3) := by decide +kernel
theorem dX9_changeByDraws_67 : decode cX9_changeByDraws 67 = .ok (.if_icmp .ge 24, 3) := by decide +kernel
theorem dX9_changeByDraws_70 : decode cX9_changeByDraws 70 = .ok (.aload_n 0, 1) := by decide +kernel
theorem dX9_changeByDraws_71 : decode cX9_changeByDraws 71 = .ok (.getfield 55, 3) := by decide +kernel
theorem dX9_changeByDraws_74 : decode cX9_changeByDraws 74 = .ok (.bipush 9, 2) := by decide +kernel
theorem dX9_changeByDraws_76 : decode cX9_changeByDraws 76 = .ok (.aload_n 0, 1) := by decide +kernel
theorem dX9_changeByDraws_77 : decode cX9_changeByDraws 77 = .ok (.getfield 55, 3) := by decide +kernel
theorem dX9_changeByDraws_80 : decode cX9_changeByDraws 80 = .ok (.getfield 150, 3) := by decide +kernel
theorem dX9_changeByDraws_83 : decode cX9_changeByDraws 83 = .ok (.iconst 2, 1) := by decide +kernel
theorem dX9_changeByDraws_84 : decode cX9_changeByDraws 84 = .ok (.iadd, 1) := by decide +kernel
theorem dX9_changeByDraws_85 : decode cX9_changeByDraws 85 = .ok (.invokestatic 230, 3) := by decide +kernel
theorem dX9_changeByDraws_88 : decode cX9_changeByDraws 88 = .ok (.putfield 150, 3) := by decide +kernel
theorem dX9_changeByDraws_91 : decode cX9_changeByDraws 91 = .ok (.return_, 1) := by decide +kernel
theorem dX9_draw_0 : decode cX9_draw 0 = .ok (.aload_n 0, 1) := by decide +kernel
theorem dX9_draw_1 : decode cX9_draw 1 = .ok (.aload_n 0, 1) := by decide +kernel
theorem dX9_draw_2 : decode cX9_draw 2 = .ok (.getfield 93, 3) := by decide +kernel
theorem dX9_draw_5 : decode cX9_draw 5 = .ok (.ldc2_w 236, 3) := by decide +kernel
theorem dX9_draw_8 : decode cX9_draw 8 = .ok (.lmul, 1) := by decide +kernel
theorem dX9_draw_9 : decode cX9_draw 9 = .ok (.ldc2_w 238, 3) := by decide +kernel
theorem dX9_draw_12 : decode cX9_draw 12 = .ok (.ladd, 1) := by decide +kernel
theorem dX9_draw_13 : decode cX9_draw 13 = .ok (.putfield 93, 3) := by decide +kernel
theorem dX9_draw_16 : decode cX9_draw 16 = .ok (.iload_n 1, 1) := by decide +kernel
theorem dX9_draw_17 : decode cX9_draw 17 = .ok (.iconst 1, 1) := by decide +kernel
theorem dX9_draw_18 : decode cX9_draw 18 = .ok (.if_icmp .ge 7, 3) := by decide +kernel
theorem dX9_draw_21 : decode cX9_draw 21 = .ok (.iconst 0, 1) := by decide +kernel
theorem dX9_draw_22 : decode cX9_draw 22 = .ok (.goto 14, 3) := by decide +kernel
theorem dX9_draw_25 : decode cX9_draw 25 = .ok (.aload_n 0, 1) := by decide +kernel
theorem dX9_draw_26 : decode cX9_draw 26 = .ok (.getfield 93, 3) := by decide +kernel
theorem dX9_draw_29 : decode cX9_draw 29 = .ok (.bipush 33, 2) := by decide +kernel
theorem dX9_draw_31 : decode cX9_draw 31 = .ok (.lushr, 1) := by decide +kernel
theorem dX9_draw_32 : decode cX9_draw 32 = .ok (.iload_n 1, 1) := by decide +kernel
theorem dX9_draw_33 : decode cX9_draw 33 = .ok (.i2l, 1) := by decide +kernel
theorem dX9_draw_34 : decode cX9_draw 34 = .ok (.lrem, 1) := by decide +kernel
theorem dX9_draw_35 : decode cX9_draw 35 = .ok (.l2i, 1) := by decide +kernel
theorem dX9_draw_36 : decode cX9_draw 36 = .ok (.ireturn, 1) := by decide +kernel
theorem dX9_within_0 : decode cX9_within 0 = .ok (.iload_n 1, 1) := by decide +kernel
theorem dX9_within_1 : decode cX9_within 1 = .ok (.iload_n 2, 1) := by decide +kernel
theorem dX9_within_2 : decode cX9_within 2 = .ok (.iload_n 0, 1) := by decide +kernel
theorem dX9_within_3 : decode cX9_within 3 = .ok (.invokestatic 230, 3) := by decide +kernel
theorem dX9_within_6 : decode cX9_within 6 = .ok (.invokestatic 240, 3) := by decide +kernel
theorem dX9_within_9 : decode cX9_within 9 = .ok (.ireturn, 1) := by decide +kernel
theorem dX9_status_0 : decode cX9_status 0 = .ok (.iload_n 1, 1) := by decide +kernel
theorem dX9_status_1 : decode cX9_status 1 = .ok (.ifCond .lt 17, 3) := by decide +kernel
theorem dX9_status_4 : decode cX9_status 4 = .ok (.iload_n 1, 1) := by decide +kernel
theorem dX9_status_5 : decode cX9_status 5 = .ok (.iconst 5, 1) := by decide +kernel
theorem dX9_status_6 : decode cX9_status 6 = .ok (.if_icmp .ge 12, 3) := by decide +kernel
theorem dX9_status_9 : decode cX9_status 9 = .ok (.aload_n 0, 1) := by decide +kernel
theorem dX9_status_10 : decode cX9_status 10 = .ok (.getfield 48, 3) := by decide +kernel
theorem dX9_status_13 : decode cX9_status 13 = .ok (.iload_n 1, 1) := by decide +kernel
theorem dX9_status_14 : decode cX9_status 14 = .ok (.iaload, 1) := by decide +kernel
theorem dX9_status_15 : decode cX9_status 15 = .ok (.goto 4, 3) := by decide +kernel
theorem dX9_status_18 : decode cX9_status 18 = .ok (.iconst (-1), 1) := by decide +kernel
theorem dX9_status_19 : decode cX9_status 19 = .ok (.ireturn, 1) := by decide +kernel
theorem dX9_undo_0 : decode cX9_undo 0 = .ok (.aload_n 0, 1) := by decide +kernel
theorem dX9_undo_1 : decode cX9_undo 1 = .ok (.getfield 68, 3) := by decide +kernel
theorem dX9_undo_4 : decode cX9_undo 4 = .ok (.aload_n 0, 1) := by decide +kernel
theorem dX9_undo_5 : decode cX9_undo 5 = .ok (.getfield 55, 3) := by decide +kernel
theorem dX9_undo_8 : decode cX9_undo 8 = .ok (.invokevirtual 243, 3) := by decide +kernel
theorem dX9_undo_11 : decode cX9_undo 11 = .ok (.ireturn, 1) := by decide +kernel
theorem dX9_log_0 : decode cX9_log 0 = .ok (.aload_n 0, 1) := by decide +kernel
theorem dX9_log_1 : decode cX9_log 1 = .ok (.getfield 68, 3) := by decide +kernel
theorem dX9_log_4 : decode cX9_log 4 = .ok (.aload_n 0, 1) := by decide +kernel
theorem dX9_log_5 : decode cX9_log 5 = .ok (.getfield 55, 3) := by decide +kernel
theorem dX9_log_8 : decode cX9_log 8 = .ok (.iload_n 1, 1) := by decide +kernel
theorem dX9_log_9 : decode cX9_log 9 = .ok (.iload_n 2, 1) := by decide +kernel
theorem dX9_log_10 : decode cX9_log 10 = .ok (.invokevirtual 247, 3) := by decide +kernel
theorem dX9_log_13 : decode cX9_log 13 = .ok (.ireturn, 1) := by decide +kernel
theorem dX9_image_0 : decode cX9_image 0 = .ok (.aload_n 0, 1) := by decide +kernel
theorem dX9_image_1 : decode cX9_image 1 = .ok (.invokevirtual 137, 3) := by decide +kernel
theorem dX9_image_4 : decode cX9_image 4 = .ok (.ifCond .eq 5, 3) := by decide +kernel
theorem dX9_image_7 : decode cX9_image 7 = .ok (.iconst (-1), 1) := by decide +kernel
theorem dX9_image_8 : decode cX9_image 8 = .ok (.ireturn, 1) := by decide +kernel
theorem dX9_image_9 : decode cX9_image 9 = .ok (.aload_n 0, 1) := by decide +kernel
theorem dX9_image_10 : decode cX9_image 10 = .ok (.getfield 68, 3) := by decide +kernel
theorem dX9_image_13 : decode cX9_image 13 = .ok (.aload_n 0, 1) := by decide +kernel
theorem dX9_image_14 : decode cX9_image 14 = .ok (.getfield 55, 3) := by decide +kernel
theorem dX9_image_17 : decode cX9_image 17 = .ok (.invokevirtual 250, 3) := by decide +kernel
theorem dX9_image_20 : decode cX9_image 20 = .ok (.aload_n 0, 1) := by decide +kernel
theorem dX9_image_21 : decode cX9_image 21 = .ok (.getfield 55, 3) := by decide +kernel
theorem dX9_image_24 : decode cX9_image 24 = .ok (.getfield 200, 3) := by decide +kernel
theorem dX9_image_27 : decode cX9_image 27 = .ok (.ireturn, 1) := by decide +kernel
theorem dX9_back_0 : decode cX9_back 0 = .ok (.aload_n 0, 1) := by decide +kernel
theorem dX9_back_1 : decode cX9_back 1 = .ok (.getfield 68, 3) := by decide +kernel
theorem dX9_back_4 : decode cX9_back 4 = .ok (.aload_n 0, 1) := by decide +kernel
theorem dX9_back_5 : decode cX9_back 5 = .ok (.getfield 55, 3) := by decide +kernel
theorem dX9_back_8 : decode cX9_back 8 = .ok (.invokevirtual 252, 3) := by decide +kernel
theorem dX9_back_11 : decode cX9_back 11 = .ok (.ifCond .eq 13, 3) := by decide +kernel
theorem dX9_back_14 : decode cX9_back 14 = .ok (.aload_n 0, 1) := by decide +kernel
theorem dX9_back_15 : decode cX9_back 15 = .ok (.getfield 55, 3) := by decide +kernel
theorem dX9_back_18 : decode cX9_back 18 = .ok (.getfield 200, 3) := by decide +kernel
theorem dX9_back_21 : decode cX9_back 21 = .ok (.goto 4, 3) := by decide +kernel
theorem dX9_back_24 : decode cX9_back 24 = .ok (.iconst (-1), 1) := by decide +kernel
theorem dX9_back_25 : decode cX9_back 25 = .ok (.ireturn, 1) := by decide +kernel
theorem dX9_sees_0 : decode cX9_sees 0 = .ok (.aload_n 0, 1) := by decide +kernel
theorem dX9_sees_1 : decode cX9_sees 1 = .ok (.getfield 55, 3) := by decide +kernel
theorem dX9_sees_4 : decode cX9_sees 4 = .ok (.iload_n 1, 1) := by decide +kernel
theorem dX9_sees_5 : decode cX9_sees 5 = .ok (.invokevirtual 160, 3) := by decide +kernel
theorem dX9_sees_8 : decode cX9_sees 8 = .ok (.ifCond .eq 14, 3) := by decide +kernel
theorem dX9_sees_11 : decode cX9_sees 11 = .ok (.aload_n 0, 1) := by decide +kernel
theorem dX9_sees_12 : decode cX9_sees 12 = .ok (.getfield 55, 3) := by decide +kernel
theorem dX9_sees_15 : decode cX9_sees 15 = .ok (.iload_n 2, 1) := by decide +kernel
theorem dX9_sees_16 : decode cX9_sees 16 = .ok (.invokevirtual 153, 3) := by decide +kernel
theorem dX9_sees_19 : decode cX9_sees 19 = .ok (.ifCond .ne 5, 3) := by decide +kernel
theorem dX9_sees_22 : decode cX9_sees 22 = .ok (.iconst (-1), 1) := by decide +kernel
theorem dX9_sees_23 : decode cX9_sees 23 = .ok (.ireturn, 1) := by decide +kernel
theorem dX9_sees_24 : decode cX9_sees 24 = .ok (.aload_n 0, 1) := by decide +kernel
theorem dX9_sees_25 : decode cX9_sees 25 = .ok (.getfield 55, 3) := by decide +kernel
theorem dX9_sees_28 : decode cX9_sees 28 = .ok (.iload_n 1, 1) := by decide +kernel
theorem dX9_sees_29 : decode cX9_sees 29 = .ok (.iload_n 2, 1) := by decide +kernel
theorem dX9_sees_30 : decode cX9_sees 30 = .ok (.aload_n 0, 1) := by decide +kernel
theorem dX9_sees_31 : decode cX9_sees 31 = .ok (.invokevirtual 179, 3) := by decide +kernel
theorem dX9_sees_34 : decode cX9_sees 34 = .ok (.invokevirtual 256, 3) := by decide +kernel
theorem dX9_sees_37 : decode cX9_sees 37 = .ok (.ifCond .eq 7, 3) := by decide +kernel
theorem dX9_sees_40 : decode cX9_sees 40 = .ok (.iconst 1, 1) := by decide +kernel
theorem dX9_sees_41 : decode cX9_sees 41 = .ok (.goto 4, 3) := by decide +kernel
theorem dX9_sees_44 : decode cX9_sees 44 = .ok (.iconst 0, 1) := by decide +kernel
theorem dX9_sees_45 : decode cX9_sees 45 = .ok (.ireturn, 1) := by decide +kernel
theorem dX9_map_0 : decode cX9_map 0 = .ok (.aload_n 0, 1) := by decide +kernel
theorem dX9_map_1 : decode cX9_map 1 = .ok (.getfield 55, 3) := by decide +kernel
theorem dX9_map_4 : decode cX9_map 4 = .ok (.iload_n 1, 1) := by decide +kernel
theorem dX9_map_5 : decode cX9_map 5 = .ok (.invokevirtual 160, 3) := by decide +kernel
theorem dX9_map_8 : decode cX9_map 8 = .ok (.ifCond .ne 5, 3) := by decide +kernel
theorem dX9_map_11 : decode cX9_map 11 = .ok (.iconst (-1), 1) := by decide +kernel
theorem dX9_map_12 : decode cX9_map 12 = .ok (.ireturn, 1) := by decide +kernel
theorem dX9_map_13 : decode cX9_map 13 = .ok (.aload_n 0, 1) := by decide +kernel
theorem dX9_map_14 : decode cX9_map 14 = .ok (.getfield 55, 3) := by decide +kernel
theorem dX9_map_17 : decode cX9_map 17 = .ok (.iload_n 1, 1) := by decide +kernel
theorem dX9_map_18 : decode cX9_map 18 = .ok (.aload_n 0, 1) := by decide +kernel
theorem dX9_map_19 : decode cX9_map 19 = .ok (.invokevirtual 179, 3) := by decide +kernel
theorem dX9_map_22 : decode cX9_map 22 = .ok (.invokevirtual 189, 3) := by decide +kernel
theorem dX9_map_25 : decode cX9_map 25 = .ok (.istore_n 3, 1) := by decide +kernel
theorem dX9_map_26 : decode cX9_map 26 = .ok (.aload_n 0, 1) := by decide +kernel
theorem dX9_map_27 : decode cX9_map 27 = .ok (.getfield 55, 3) := by decide +kernel
theorem dX9_map_30 : decode cX9_map 30 = .ok (.invokevirtual 260, 3) := by decide +kernel
theorem dX9_map_33 : decode cX9_map 33 = .ok (.iload_n 3, 1) := by decide +kernel
theorem dX9_map_34 : decode cX9_map 34 = .ok (.iconst (-1), 1) := by decide +kernel
theorem dX9_map_35 : decode cX9_map 35 = .ok (.ixor, 1) := by decide +kernel
theorem dX9_map_36 : decode cX9_map 36 = .ok (.iand, 1) := by decide +kernel
theorem dX9_map_37 : decode cX9_map 37 = .ok (.istore 4, 2) := by decide +kernel
theorem dX9_map_39 : decode cX9_map 39 = .ok (.iload_n 2, 1) := by decide +kernel
theorem dX9_map_40 : decode cX9_map 40 = .ok (.tableswitch 82 0 2 #[28, 31, 53], 28) := by decide +kernel
theorem dX9_map_68 : decode cX9_map 68 = .ok (.iload 4, 2) := by decide +kernel
theorem dX9_map_70 : decode cX9_map 70 = .ok (.ireturn, 1) := by decide +kernel
theorem dX9_map_71 : decode cX9_map 71 = .ok (.aload_n 0, 1) := by decide +kernel
theorem dX9_map_72 : decode cX9_map 72 = .ok (.getfield 55, 3) := by decide +kernel
theorem dX9_map_75 : decode cX9_map 75 = .ok (.getfield 186, 3) := by decide +kernel
theorem dX9_map_78 : decode cX9_map 78 = .ok (.iload_n 1, 1) := by decide +kernel
theorem dX9_map_79 : decode cX9_map 79 = .ok (.ishr, 1) := by decide +kernel
theorem dX9_map_80 : decode cX9_map 80 = .ok (.iconst 1, 1) := by decide +kernel
theorem dX9_map_81 : decode cX9_map 81 = .ok (.iand, 1) := by decide +kernel
theorem dX9_map_82 : decode cX9_map 82 = .ok (.iconst 1, 1) := by decide +kernel
theorem dX9_map_83 : decode cX9_map 83 = .ok (.if_icmp .ne 7, 3) := by decide +kernel
theorem dX9_map_86 : decode cX9_map 86 = .ok (.iload_n 3, 1) := by decide +kernel
theorem dX9_map_87 : decode cX9_map 87 = .ok (.goto 5, 3) := by decide +kernel
theorem dX9_map_90 : decode cX9_map 90 = .ok (.iload 4, 2) := by decide +kernel
theorem dX9_map_92 : decode cX9_map 92 = .ok (.ireturn, 1) := by decide +kernel
theorem dX9_map_93 : decode cX9_map 93 = .ok (.iload_n 3, 1) := by decide +kernel
theorem dX9_map_94 : decode cX9_map 94 = .ok (.aload_n 0, 1) := by decide +kernel
theorem dX9_map_95 : decode cX9_map 95 = .ok (.getfield 55, 3) := by decide +kernel
theorem dX9_map_98 : decode cX9_map 98 = .ok (.aload_n 0, 1) := by decide +kernel
theorem dX9_map_99 : decode cX9_map 99 = .ok (.getfield 55, 3) := by decide +kernel
theorem dX9_map_102 : decode cX9_map 102 = .ok (.invokevirtual 263, 3) := by decide +kernel
theorem dX9_map_105 : decode cX9_map 105 = .ok (.iconst 1, 1) := by decide +kernel
theorem dX9_map_106 : decode cX9_map 106 = .ok (.iload_n 1, 1) := by decide +kernel
theorem dX9_map_107 : decode cX9_map 107 = .ok (.ishl, 1) := by decide +kernel
theorem dX9_map_108 : decode cX9_map 108 = .ok (.iconst (-1), 1) := by decide +kernel
theorem dX9_map_109 : decode cX9_map 109 = .ok (.ixor, 1) := by decide +kernel
theorem dX9_map_110 : decode cX9_map 110 = .ok (.iand, 1) := by decide +kernel
theorem dX9_map_111 : decode cX9_map 111 = .ok (.aload_n 0, 1) := by decide +kernel
theorem dX9_map_112 : decode cX9_map 112 = .ok (.invokevirtual 179, 3) := by decide +kernel
theorem dX9_map_115 : decode cX9_map 115 = .ok (.invokevirtual 266, 3) := by decide +kernel
theorem dX9_map_118 : decode cX9_map 118 = .ok (.iconst (-1), 1) := by decide +kernel
theorem dX9_map_119 : decode cX9_map 119 = .ok (.ixor, 1) := by decide +kernel
theorem dX9_map_120 : decode cX9_map 120 = .ok (.iand, 1) := by decide +kernel
theorem dX9_map_121 : decode cX9_map 121 = .ok (.ireturn, 1) := by decide +kernel
theorem dX9_map_122 : decode cX9_map 122 = .ok (.iconst (-1), 1) := by decide +kernel
theorem dX9_map_123 : decode cX9_map 123 = .ok (.ireturn, 1) := by decide +kernel
theorem dX9_way_0 : decode cX9_way 0 = .ok (.aload_n 0, 1) := by decide +kernel
theorem dX9_way_1 : decode cX9_way 1 = .ok (.getfield 55, 3) := by decide +kernel
theorem dX9_way_4 : decode cX9_way 4 = .ok (.iload_n 1, 1) := by decide +kernel
theorem dX9_way_5 : decode cX9_way 5 = .ok (.invokevirtual 153, 3) := by decide +kernel
theorem dX9_way_8 : decode cX9_way 8 = .ok (.ifCond .eq 23, 3) := by decide +kernel
theorem dX9_way_11 : decode cX9_way 11 = .ok (.aload_n 0, 1) := by decide +kernel
theorem dX9_way_12 : decode cX9_way 12 = .ok (.getfield 55, 3) := by decide +kernel
theorem dX9_way_15 : decode cX9_way 15 = .ok (.iload_n 2, 1) := by decide +kernel
theorem dX9_way_16 : decode cX9_way 16 = .ok (.invokevirtual 153, 3) := by decide +kernel
theorem dX9_way_19 : decode cX9_way 19 = .ok (.ifCond .eq 12, 3) := by decide +kernel
theorem dX9_way_22 : decode cX9_way 22 = .ok (.iload_n 3, 1) := by decide +kernel
theorem dX9_way_23 : decode cX9_way 23 = .ok (.ifCond .lt 8, 3) := by decide +kernel
theorem dX9_way_26 : decode cX9_way 26 = .ok (.iload_n 3, 1) := by decide +kernel
theorem dX9_way_27 : decode cX9_way 27 = .ok (.iconst 1, 1) := by decide +kernel
theorem dX9_way_28 : decode cX9_way 28 = .ok (.if_icmp .le 5, 3) := by decide +kernel
theorem dX9_way_31 : decode cX9_way 31 = .ok (.iconst (-1), 1) := by decide +kernel
theorem dX9_way_32 : decode cX9_way 32 = .ok (.ireturn, 1) := by decide +kernel
theorem dX9_way_33 : decode cX9_way 33 = .ok (.aload_n 0, 1) := by decide +kernel
theorem dX9_way_34 : decode cX9_way 34 = .ok (.getfield 82, 3) := by decide +kernel
theorem dX9_way_37 : decode cX9_way 37 = .ok (.aload_n 0, 1) := by decide +kernel
theorem dX9_way_38 : decode cX9_way 38 = .ok (.getfield 55, 3) := by decide +kernel
theorem dX9_way_41 : decode cX9_way 41 = .ok (.iload_n 2, 1) := by decide +kernel
theorem dX9_way_42 : decode cX9_way 42 = .ok (.aload_n 0, 1) := by decide +kernel
theorem dX9_way_43 : decode cX9_way 43 = .ok (.getfield 55, 3) := by decide +kernel
theorem dX9_way_46 : decode cX9_way 46 = .ok (.aload_n 0, 1) := by decide +kernel
theorem dX9_way_47 : decode cX9_way 47 = .ok (.invokevirtual 179, 3) := by decide +kernel
theorem dX9_way_50 : decode cX9_way 50 = .ok (.invokevirtual 209, 3) := by decide +kernel
theorem dX9_way_53 : decode cX9_way 53 = .ok (.iconst 1, 1) := by decide +kernel
theorem dX9_way_54 : decode cX9_way 54 = .ok (.sipush 1000, 3) := by decide +kernel
theorem dX9_way_57 : decode cX9_way 57 = .ok (.invokevirtual 269, 3) := by decide +kernel
theorem dX9_way_60 : decode cX9_way 60 = .ok (.iload_n 3, 1) := by decide +kernel
theorem dX9_way_61 : decode cX9_way 61 = .ok (.ifCond .ne 14, 3) := by decide +kernel
theorem dX9_way_64 : decode cX9_way 64 = .ok (.aload_n 0, 1) := by decide +kernel
theorem dX9_way_65 : decode cX9_way 65 = .ok (.getfield 82, 3) := by decide +kernel
theorem dX9_way_68 : decode cX9_way 68 = .ok (.iload_n 1, 1) := by decide +kernel
theorem dX9_way_69 : decode cX9_way 69 = .ok (.invokevirtual 273, 3) := by decide +kernel
theorem dX9_way_72 : decode cX9_way 72 = .ok (.goto 15, 3) := by decide +kernel
theorem dX9_way_75 : decode cX9_way 75 = .ok (.aload_n 0, 1) := by decide +kernel
theorem dX9_way_76 : decode cX9_way 76 = .ok (.getfield 82, 3) := by decide +kernel
theorem dX9_way_79 : decode cX9_way 79 = .ok (.aload_n 0, 1) := by decide +kernel
theorem dX9_way_80 : decode cX9_way 80 = .ok (.getfield 55, 3) := by decide +kernel
theorem dX9_way_83 : decode cX9_way 83 = .ok (.iload_n 1, 1) := by decide +kernel
theorem dX9_way_84 : decode cX9_way 84 = .ok (.invokevirtual 276, 3) := by decide +kernel
theorem dX9_way_87 : decode cX9_way 87 = .ok (.ireturn, 1) := by decide +kernel
theorem dX9_risk_0 : decode cX9_risk 0 = .ok (.aload_n 0, 1) := by decide +kernel
theorem dX9_risk_1 : decode cX9_risk 1 = .ok (.getfield 55, 3) := by decide +kernel
theorem dX9_risk_4 : decode cX9_risk 4 = .ok (.iload_n 1, 1) := by decide +kernel
theorem dX9_risk_5 : decode cX9_risk 5 = .ok (.invokevirtual 153, 3) := by decide +kernel
theorem dX9_risk_8 : decode cX9_risk 8 = .ok (.ifCond .eq 14, 3) := by decide +kernel
theorem dX9_risk_11 : decode cX9_risk 11 = .ok (.aload_n 0, 1) := by decide +kernel
theorem dX9_risk_12 : decode cX9_risk 12 = .ok (.getfield 55, 3) := by decide +kernel
theorem dX9_risk_15 : decode cX9_risk 15 = .ok (.iload_n 2, 1) := by decide +kernel
theorem dX9_risk_16 : decode cX9_risk 16 = .ok (.invokevirtual 153, 3) := by decide +kernel
theorem dX9_risk_19 : decode cX9_risk 19 = .ok (.ifCond .ne 5, 3) := by decide +kernel
theorem dX9_risk_22 : decode cX9_risk 22 = .ok (.iconst (-1), 1) := by decide +kernel
theorem dX9_risk_23 : decode cX9_risk 23 = .ok (.ireturn, 1) := by decide +kernel
theorem dX9_risk_24 : decode cX9_risk 24 = .ok (.aload_n 0, 1) := by decide +kernel
theorem dX9_risk_25 : decode cX9_risk 25 = .ok (.getfield 82, 3) := by decide +kernel
theorem dX9_risk_28 : decode cX9_risk 28 = .ok (.aload_n 0, 1) := by decide +kernel
theorem dX9_risk_29 : decode cX9_risk 29 = .ok (.getfield 55, 3) := by decide +kernel
theorem dX9_risk_32 : decode cX9_risk 32 = .ok (.iload_n 2, 1) := by decide +kernel
theorem dX9_risk_33 : decode cX9_risk 33 = .ok (.aload_n 0, 1) := by decide +kernel
theorem dX9_risk_34 : decode cX9_risk 34 = .ok (.getfield 55, 3) := by decide +kernel
theorem dX9_risk_37 : decode cX9_risk 37 = .ok (.aload_n 0, 1) := by decide +kernel
theorem dX9_risk_38 : decode cX9_risk 38 = .ok (.invokevirtual 179, 3) := by decide +kernel
theorem dX9_risk_41 : decode cX9_risk 41 = .ok (.invokevirtual 209, 3) := by decide +kernel
theorem dX9_risk_44 : decode cX9_risk 44 = .ok (.iconst 0, 1) := by decide +kernel
theorem dX9_risk_45 : decode cX9_risk 45 = .ok (.iconst 1, 1) := by decide +kernel
theorem dX9_risk_46 : decode cX9_risk 46 = .ok (.invokevirtual 269, 3) := by decide +kernel
theorem dX9_risk_49 : decode cX9_risk 49 = .ok (.aload_n 0, 1) := by decide +kernel
theorem dX9_risk_50 : decode cX9_risk 50 = .ok (.getfield 82, 3) := by decide +kernel
theorem dX9_risk_53 : decode cX9_risk 53 = .ok (.iload_n 1, 1) := by decide +kernel
theorem dX9_risk_54 : decode cX9_risk 54 = .ok (.invokevirtual 280, 3) := by decide +kernel
theorem dX9_risk_57 : decode cX9_risk 57 = .ok (.ireturn, 1) := by decide +kernel
theorem dX9_enough_0 : decode cX9_enough 0 = .ok (.aload_n 0, 1) := by decide +kernel
theorem dX9_enough_1 : decode cX9_enough 1 = .ok (.invokevirtual 137, 3) := by decide +kernel
theorem dX9_enough_4 : decode cX9_enough 4 = .ok (.ifCond .eq 5, 3) := by decide +kernel
theorem dX9_enough_7 : decode cX9_enough 7 = .ok (.iconst (-1), 1) := by decide +kernel
theorem dX9_enough_8 : decode cX9_enough 8 = .ok (.ireturn, 1) := by decide +kernel
theorem dX9_enough_9 : decode cX9_enough 9 = .ok (.aload_n 0, 1) := by decide +kernel
theorem dX9_enough_10 : decode cX9_enough 10 = .ok (.getfield 55, 3) := by decide +kernel
theorem dX9_enough_13 : decode cX9_enough 13 = .ok (.invokevirtual 263, 3) := by decide +kernel
theorem dX9_enough_16 : decode cX9_enough 16 = .ok (.istore_n 1, 1) := by decide +kernel
theorem dX9_enough_17 : decode cX9_enough 17 = .ok (.aload_n 0, 1) := by decide +kernel
theorem dX9_enough_18 : decode cX9_enough 18 = .ok (.getfield 55, 3) := by decide +kernel
theorem dX9_enough_21 : decode cX9_enough 21 = .ok (.iload_n 1, 1) := by decide +kernel
theorem dX9_enough_22 : decode cX9_enough 22 = .ok (.aload_n 0, 1) := by decide +kernel
theorem dX9_enough_23 : decode cX9_enough 23 = .ok (.invokevirtual 179, 3) := by decide +kernel
theorem dX9_enough_26 : decode cX9_enough 26 = .ok (.invokevirtual 266, 3) := by decide +kernel
theorem dX9_enough_29 : decode cX9_enough 29 = .ok (.istore_n 2, 1) := by decide +kernel
theorem dX9_enough_30 : decode cX9_enough 30 = .ok (.iload_n 1, 1) := by decide +kernel
theorem dX9_enough_31 : decode cX9_enough 31 = .ok (.istore_n 3, 1) := by decide +kernel
theorem dX9_enough_32 : decode cX9_enough 32 = .ok (.iconst 0, 1) := by decide +kernel
theorem dX9_enough_33 : decode cX9_enough 33 = .ok (.istore 4, 2) := by decide +kernel
theorem dX9_enough_35 : decode cX9_enough 35 = .ok (.iload 4, 2) := by decide +kernel
theorem dX9_enough_37 : decode cX9_enough 37 = .ok (.iload_n 1, 1) := by decide +kernel
theorem dX9_enough_38 : decode cX9_enough 38 = .ok (.if_icmp .ge 41, 3) := by decide +kernel
theorem dX9_enough_41 : decode cX9_enough 41 = .ok (.iload 4, 2) := by decide +kernel
theorem dX9_enough_43 : decode cX9_enough 43 = .ok (.invokestatic 192, 3) := by decide +kernel
theorem dX9_enough_46 : decode cX9_enough 46 = .ok (.iload_n 3, 1) := by decide +kernel
theorem dX9_enough_47 : decode cX9_enough 47 = .ok (.invokestatic 192, 3) := by decide +kernel
theorem dX9_enough_50 : decode cX9_enough 50 = .ok (.if_icmp .ge 23, 3) := by decide +kernel
theorem dX9_enough_53 : decode cX9_enough 53 = .ok (.aload_n 0, 1) := by decide +kernel
theorem dX9_enough_54 : decode cX9_enough 54 = .ok (.getfield 55, 3) := by decide +kernel
theorem dX9_enough_57 : decode cX9_enough 57 = .ok (.iload 4, 2) := by decide +kernel
theorem dX9_enough_59 : decode cX9_enough 59 = .ok (.aload_n 0, 1) := by decide +kernel
theorem dX9_enough_60 : decode cX9_enough 60 = .ok (.invokevirtual 179, 3) := by decide +kernel
theorem dX9_enough_63 : decode cX9_enough 63 = .ok (.invokevirtual 266, 3) := by decide +kernel
theorem dX9_enough_66 : decode cX9_enough 66 = .ok (.iload_n 2, 1) := by decide +kernel
theorem dX9_enough_67 : decode cX9_enough 67 = .ok (.if_icmp .ne 6, 3) := by decide +kernel
theorem dX9_enough_70 : decode cX9_enough 70 = .ok (.iload 4, 2) := by decide +kernel
theorem dX9_enough_72 : decode cX9_enough 72 = .ok (.istore_n 3, 1) := by decide +kernel
theorem dX9_enough_73 : decode cX9_enough 73 = .ok (.iinc 4 1, 3) := by decide +kernel
theorem dX9_enough_76 : decode cX9_enough 76 = .ok (.goto (-41), 3) := by decide +kernel
theorem dX9_enough_79 : decode cX9_enough 79 = .ok (.iload_n 3, 1) := by decide +kernel
theorem dX9_enough_80 : decode cX9_enough 80 = .ok (.ireturn, 1) := by decide +kernel
theorem dX9_site_0 : decode cX9_site 0 = .ok (.aload_n 0, 1) := by decide +kernel
theorem dX9_site_1 : decode cX9_site 1 = .ok (.invokevirtual 137, 3) := by decide +kernel
theorem dX9_site_4 : decode cX9_site 4 = .ok (.ifCond .ne 32, 3) := by decide +kernel
theorem dX9_site_7 : decode cX9_site 7 = .ok (.iload_n 1, 1) := by decide +kernel
theorem dX9_site_8 : decode cX9_site 8 = .ok (.ifCond .lt 28, 3) := by decide +kernel
theorem dX9_site_11 : decode cX9_site 11 = .ok (.iload_n 1, 1) := by decide +kernel
theorem dX9_site_12 : decode cX9_site 12 = .ok (.bipush 9, 2) := by decide +kernel
theorem dX9_site_14 : decode cX9_site 14 = .ok (.if_icmp .gt 22, 3) := by decide +kernel
theorem dX9_site_17 : decode cX9_site 17 = .ok (.iload_n 2, 1) := by decide +kernel
theorem dX9_site_18 : decode cX9_site 18 = .ok (.ifCond .lt 18, 3) := by decide +kernel
theorem dX9_site_21 : decode cX9_site 21 = .ok (.iload_n 2, 1) := by decide +kernel
theorem dX9_site_22 : decode cX9_site 22 = .ok (.bipush 9, 2) := by decide +kernel
theorem dX9_site_24 : decode cX9_site 24 = .ok (.if_icmp .gt 12, 3) := by decide +kernel
theorem dX9_site_27 : decode cX9_site 27 = .ok (.iload_n 3, 1) := by decide +kernel
theorem dX9_site_28 : decode cX9_site 28 = .ok (.ifCond .lt 8, 3) := by decide +kernel
theorem dX9_site_31 : decode cX9_site 31 = .ok (.iload_n 3, 1) := by decide +kernel
theorem dX9_site_32 : decode cX9_site 32 = .ok (.iconst 1, 1) := by decide +kernel
theorem dX9_site_33 : decode cX9_site 33 = .ok (.if_icmp .le 5, 3) := by decide +kernel
theorem dX9_site_36 : decode cX9_site 36 = .ok (.iconst (-1), 1) := by decide +kernel
theorem dX9_site_37 : decode cX9_site 37 = .ok (.ireturn, 1) := by decide +kernel
theorem dX9_site_38 : decode cX9_site 38 = .ok (.aload_n 0, 1) := by decide +kernel
theorem dX9_site_39 : decode cX9_site 39 = .ok (.getfield 55, 3) := by decide +kernel
theorem dX9_site_42 : decode cX9_site 42 = .ok (.aload_n 0, 1) := by decide +kernel
theorem dX9_site_43 : decode cX9_site 43 = .ok (.invokevirtual 179, 3) := by decide +kernel
theorem dX9_site_46 : decode cX9_site 46 = .ok (.invokevirtual 209, 3) := by decide +kernel
theorem dX9_site_49 : decode cX9_site 49 = .ok (.istore 4, 2) := by decide +kernel
theorem dX9_site_51 : decode cX9_site 51 = .ok (.iconst (-1), 1) := by decide +kernel
theorem dX9_site_52 : decode cX9_site 52 = .ok (.istore 5, 2) := by decide +kernel
theorem dX9_site_54 : decode cX9_site 54 = .ok (.iconst 0, 1) := by decide +kernel
theorem dX9_site_55 : decode cX9_site 55 = .ok (.istore 6, 2) := by decide +kernel
theorem dX9_site_57 : decode cX9_site 57 = .ok (.iconst 0, 1) := by decide +kernel
theorem dX9_site_58 : decode cX9_site 58 = .ok (.istore 7, 2) := by decide +kernel
theorem dX9_site_60 : decode cX9_site 60 = .ok (.iload 7, 2) := by decide +kernel
theorem dX9_site_62 : decode cX9_site 62 = .ok (.aload_n 0, 1) := by decide +kernel
theorem dX9_site_63 : decode cX9_site 63 = .ok (.getfield 55, 3) := by decide +kernel
theorem dX9_site_66 : decode cX9_site 66 = .ok (.getfield 130, 3) := by decide +kernel
theorem dX9_site_69 : decode cX9_site 69 = .ok (.if_icmp .ge 66, 3) := by decide +kernel
theorem dX9_site_72 : decode cX9_site 72 = .ok (.aload_n 0, 1) := by decide +kernel
theorem dX9_site_73 : decode cX9_site 73 = .ok (.getfield 55, 3) := by decide +kernel
theorem dX9_site_76 : decode cX9_site 76 = .ok (.iload 7, 2) := by decide +kernel
theorem dX9_site_78 : decode cX9_site 78 = .ok (.aload_n 0, 1) := by decide +kernel
theorem dX9_site_79 : decode cX9_site 79 = .ok (.getfield 55, 3) := by decide +kernel
theorem dX9_site_82 : decode cX9_site 82 = .ok (.getfield 157, 3) := by decide +kernel
theorem dX9_site_85 : decode cX9_site 85 = .ok (.iload 7, 2) := by decide +kernel
theorem dX9_site_87 : decode cX9_site 87 = .ok (.iaload, 1) := by decide +kernel
theorem dX9_site_88 : decode cX9_site 88 = .ok (.iload_n 1, 1) := by decide +kernel
theorem dX9_site_89 : decode cX9_site 89 = .ok (.iadd, 1) := by decide +kernel
theorem dX9_site_90 : decode cX9_site 90 = .ok (.iload_n 2, 1) := by decide +kernel
theorem dX9_site_91 : decode cX9_site 91 = .ok (.invokevirtual 283, 3) := by decide +kernel
theorem dX9_site_94 : decode cX9_site 94 = .ok (.istore 8, 2) := by decide +kernel
theorem dX9_site_96 : decode cX9_site 96 = .ok (.iload 4, 2) := by decide +kernel
theorem dX9_site_98 : decode cX9_site 98 = .ok (.iload 8, 2) := by decide +kernel
theorem dX9_site_100 : decode cX9_site 100 = .ok (.iconst (-1), 1) := by decide +kernel
theorem dX9_site_101 : decode cX9_site 101 = .ok (.ixor, 1) := by decide +kernel
theorem dX9_site_102 : decode cX9_site 102 = .ok (.iand, 1) := by decide +kernel
theorem dX9_site_103 : decode cX9_site 103 = .ok (.invokestatic 192, 3) := by decide +kernel
theorem dX9_site_106 : decode cX9_site 106 = .ok (.istore 9, 2) := by decide +kernel
theorem dX9_site_108 : decode cX9_site 108 = .ok (.iload 5, 2) := by decide +kernel
theorem dX9_site_110 : decode cX9_site 110 = .ok (.iconst (-1), 1) := by decide +kernel
theorem dX9_site_111 : decode cX9_site 111 = .ok (.if_icmp .eq 10, 3) := by decide +kernel
theorem dX9_site_114 : decode cX9_site 114 = .ok (.iload 9, 2) := by decide +kernel
theorem dX9_site_116 : decode cX9_site 116 = .ok (.iload 6, 2) := by decide +kernel
theorem dX9_site_118 : decode cX9_site 118 = .ok (.if_icmp .ge 11, 3) := by decide +kernel
theorem dX9_site_121 : decode cX9_site 121 = .ok (.iload 7, 2) := by decide +kernel
theorem dX9_site_123 : decode cX9_site 123 = .ok (.istore 5, 2) := by decide +kernel
theorem dX9_site_125 : decode cX9_site 125 = .ok (.iload 9, 2) := by decide +kernel
theorem dX9_site_127 : decode cX9_site 127 = .ok (.istore 6, 2) := by decide +kernel
theorem dX9_site_129 : decode cX9_site 129 = .ok (.iinc 7 1, 3) := by decide +kernel
theorem dX9_site_132 : decode cX9_site 132 = .ok (.goto (-72), 3) := by decide +kernel
theorem dX9_site_135 : decode cX9_site 135 = .ok (.iload_n 3, 1) := by decide +kernel
theorem dX9_site_136 : decode cX9_site 136 = .ok (.ifCond .ne 8, 3) := by decide +kernel
theorem dX9_site_139 : decode cX9_site 139 = .ok (.iload 5, 2) := by decide +kernel
theorem dX9_site_141 : decode cX9_site 141 = .ok (.goto 5, 3) := by decide +kernel
theorem dX9_site_144 : decode cX9_site 144 = .ok (.iload 6, 2) := by decide +kernel
theorem dX9_site_146 : decode cX9_site 146 = .ok (.ireturn, 1) := by decide +kernel
theorem dX9_watched_0 : decode cX9_watched 0 = .ok (.aload_n 0, 1) := by decide +kernel
theorem dX9_watched_1 : decode cX9_watched 1 = .ok (.invokevirtual 137, 3) := by decide +kernel
theorem dX9_watched_4 : decode cX9_watched 4 = .ok (.ifCond .ne 13, 3) := by decide +kernel
theorem dX9_watched_7 : decode cX9_watched 7 = .ok (.iload_n 1, 1) := by decide +kernel
theorem dX9_watched_8 : decode cX9_watched 8 = .ok (.iconst 1, 1) := by decide +kernel
theorem dX9_watched_9 : decode cX9_watched 9 = .ok (.if_icmp .lt 8, 3) := by decide +kernel
theorem dX9_watched_12 : decode cX9_watched 12 = .ok (.iload_n 1, 1) := by decide +kernel
theorem dX9_watched_13 : decode cX9_watched 13 = .ok (.iconst 4, 1) := by decide +kernel
theorem dX9_watched_14 : decode cX9_watched 14 = .ok (.if_icmp .le 5, 3) := by decide +kernel
theorem dX9_watched_17 : decode cX9_watched 17 = .ok (.iconst (-1), 1) := by decide +kernel
theorem dX9_watched_18 : decode cX9_watched 18 = .ok (.ireturn, 1) := by decide +kernel
theorem dX9_watched_19 : decode cX9_watched 19 = .ok (.aload_n 0, 1) := by decide +kernel
theorem dX9_watched_20 : decode cX9_watched 20 = .ok (.getfield 55, 3) := by decide +kernel
theorem dX9_watched_23 : decode cX9_watched 23 = .ok (.iload_n 1, 1) := by decide +kernel
theorem dX9_watched_24 : decode cX9_watched 24 = .ok (.aload_n 0, 1) := by decide +kernel
theorem dX9_watched_25 : decode cX9_watched 25 = .ok (.invokevirtual 179, 3) := by decide +kernel
theorem dX9_watched_28 : decode cX9_watched 28 = .ok (.invokevirtual 286, 3) := by decide +kernel
theorem dX9_watched_31 : decode cX9_watched 31 = .ok (.ireturn, 1) := by decide +kernel
theorem dX9_given_0 : decode cX9_given 0 = .ok (.aload_n 0, 1) := by decide +kernel
theorem dX9_given_1 : decode cX9_given 1 = .ok (.getfield 55, 3) := by decide +kernel
theorem dX9_given_4 : decode cX9_given 4 = .ok (.iload_n 1, 1) := by decide +kernel
theorem dX9_given_5 : decode cX9_given 5 = .ok (.invokevirtual 160, 3) := by decide +kernel
theorem dX9_given_8 : decode cX9_given 8 = .ok (.ifCond .eq 14, 3) := by decide +kernel
theorem dX9_given_11 : decode cX9_given 11 = .ok (.aload_n 0, 1) := by decide +kernel
theorem dX9_given_12 : decode cX9_given 12 = .ok (.getfield 55, 3) := by decide +kernel
theorem dX9_given_15 : decode cX9_given 15 = .ok (.iload_n 2, 1) := by decide +kernel
theorem dX9_given_16 : decode cX9_given 16 = .ok (.invokevirtual 153, 3) := by decide +kernel
theorem dX9_given_19 : decode cX9_given 19 = .ok (.ifCond .ne 5, 3) := by decide +kernel
theorem dX9_given_22 : decode cX9_given 22 = .ok (.iconst (-1), 1) := by decide +kernel
theorem dX9_given_23 : decode cX9_given 23 = .ok (.ireturn, 1) := by decide +kernel
theorem dX9_given_24 : decode cX9_given 24 = .ok (.aload_n 0, 1) := by decide +kernel
theorem dX9_given_25 : decode cX9_given 25 = .ok (.getfield 75, 3) := by decide +kernel
theorem dX9_given_28 : decode cX9_given 28 = .ok (.iload_n 1, 1) := by decide +kernel
theorem dX9_given_29 : decode cX9_given 29 = .ok (.iload_n 2, 1) := by decide +kernel
theorem dX9_given_30 : decode cX9_given 30 = .ok (.iload_n 3, 1) := by decide +kernel
theorem dX9_given_31 : decode cX9_given 31 = .ok (.invokevirtual 289, 3) := by decide +kernel
theorem dX9_given_34 : decode cX9_given 34 = .ok (.ireturn, 1) := by decide +kernel
theorem dX9_heights_0 : decode cX9_heights 0 = .ok (.aload_n 0, 1) := by decide +kernel
theorem dX9_heights_1 : decode cX9_heights 1 = .ok (.getfield 55, 3) := by decide +kernel
theorem dX9_heights_4 : decode cX9_heights 4 = .ok (.iload_n 1, 1) := by decide +kernel
theorem dX9_heights_5 : decode cX9_heights 5 = .ok (.invokevirtual 153, 3) := by decide +kernel
theorem dX9_heights_8 : decode cX9_heights 8 = .ok (.ifCond .ne 5, 3) := by decide +kernel
theorem dX9_heights_11 : decode cX9_heights 11 = .ok (.iconst (-1), 1) := by decide +kernel
theorem dX9_heights_12 : decode cX9_heights 12 = .ok (.ireturn, 1) := by decide +kernel
theorem dX9_heights_13 : decode cX9_heights 13 = .ok (.aload_n 0, 1) := by decide +kernel
theorem dX9_heights_14 : decode cX9_heights 14 = .ok (.getfield 62, 3) := by decide +kernel
theorem dX9_heights_17 : decode cX9_heights 17 = .ok (.aload_n 0, 1) := by decide +kernel
theorem dX9_heights_18 : decode cX9_heights 18 = .ok (.getfield 59, 3) := by decide +kernel
theorem dX9_heights_21 : decode cX9_heights 21 = .ok (.invokevirtual 123, 3) := by decide +kernel
theorem dX9_heights_24 : decode cX9_heights 24 = .ok (.aload_n 0, 1) := by decide +kernel
theorem dX9_heights_25 : decode cX9_heights 25 = .ok (.getfield 75, 3) := by decide +kernel
theorem dX9_heights_28 : decode cX9_heights 28 = .ok (.aload_n 0, 1) := by decide +kernel
theorem dX9_heights_29 : decode cX9_heights 29 = .ok (.getfield 62, 3) := by decide +kernel
theorem dX9_heights_32 : decode cX9_heights 32 = .ok (.iload_n 1, 1) := by decide +kernel
theorem dX9_heights_33 : decode cX9_heights 33 = .ok (.aload_n 0, 1) := by decide +kernel
theorem dX9_heights_34 : decode cX9_heights 34 = .ok (.invokevirtual 179, 3) := by decide +kernel
theorem dX9_heights_37 : decode cX9_heights 37 = .ok (.invokevirtual 293, 3) := by decide +kernel
theorem dX9_heights_40 : decode cX9_heights 40 = .ok (.istore_n 3, 1) := by decide +kernel
theorem dX9_heights_41 : decode cX9_heights 41 = .ok (.iload_n 2, 1) := by decide +kernel
theorem dX9_heights_42 : decode cX9_heights 42 = .ok (.iconst (-1), 1) := by decide +kernel
theorem dX9_heights_43 : decode cX9_heights 43 = .ok (.if_icmp .ne 10, 3) := by decide +kernel
theorem dX9_heights_46 : decode cX9_heights 46 = .ok (.iload_n 3, 1) := by decide +kernel
theorem dX9_heights_47 : decode cX9_heights 47 = .ok (.invokestatic 192, 3) := by decide +kernel
theorem dX9_heights_50 : decode cX9_heights 50 = .ok (.goto 8, 3) := by decide +kernel
theorem dX9_heights_53 : decode cX9_heights 53 = .ok (.iload_n 3, 1) := by decide +kernel
theorem dX9_heights_54 : decode cX9_heights 54 = .ok (.iload_n 2, 1) := by decide +kernel
theorem dX9_heights_55 : decode cX9_heights 55 = .ok (.invokestatic 297, 3) := by decide +kernel
theorem dX9_heights_58 : decode cX9_heights 58 = .ok (.ireturn, 1) := by decide +kernel
theorem dX9_bitAt_0 : decode cX9_bitAt 0 = .ok (.iload_n 1, 1) := by decide +kernel
theorem dX9_bitAt_1 : decode cX9_bitAt 1 = .ok (.istore_n 2, 1) := by decide +kernel
theorem dX9_bitAt_2 : decode cX9_bitAt 2 = .ok (.iconst 0, 1) := by decide +kernel
theorem dX9_bitAt_3 : decode cX9_bitAt 3 = .ok (.istore_n 3, 1) := by decide +kernel
theorem dX9_bitAt_4 : decode cX9_bitAt 4 = .ok (.iload_n 3, 1) := by decide +kernel
theorem dX9_bitAt_5 : decode cX9_bitAt 5 = .ok (.bipush 9, 2) := by decide +kernel
theorem dX9_bitAt_7 : decode cX9_bitAt 7 = .ok (.if_icmp .gt 27, 3) := by decide +kernel
theorem dX9_bitAt_10 : decode cX9_bitAt 10 = .ok (.iload_n 0, 1) := by decide +kernel
theorem dX9_bitAt_11 : decode cX9_bitAt 11 = .ok (.iload_n 3, 1) := by decide +kernel
theorem dX9_bitAt_12 : decode cX9_bitAt 12 = .ok (.ishr, 1) := by decide +kernel
theorem dX9_bitAt_13 : decode cX9_bitAt 13 = .ok (.iconst 1, 1) := by decide +kernel
theorem dX9_bitAt_14 : decode cX9_bitAt 14 = .ok (.iand, 1) := by decide +kernel
theorem dX9_bitAt_15 : decode cX9_bitAt 15 = .ok (.iconst 1, 1) := by decide +kernel
theorem dX9_bitAt_16 : decode cX9_bitAt 16 = .ok (.if_icmp .ne 12, 3) := by decide +kernel
theorem dX9_bitAt_19 : decode cX9_bitAt 19 = .ok (.iload_n 2, 1) := by decide +kernel
theorem dX9_bitAt_20 : decode cX9_bitAt 20 = .ok (.ifCond .ne 5, 3) := by decide +kernel
theorem dX9_bitAt_23 : decode cX9_bitAt 23 = .ok (.iload_n 3, 1) := by decide +kernel
theorem dX9_bitAt_24 : decode cX9_bitAt 24 = .ok (.ireturn, 1) := by decide +kernel
theorem dX9_bitAt_25 : decode cX9_bitAt 25 = .ok (.iinc 2 (-1), 3) := by decide +kernel
theorem dX9_bitAt_28 : decode cX9_bitAt 28 = .ok (.iinc 3 1, 3) := by decide +kernel
theorem dX9_bitAt_31 : decode cX9_bitAt 31 = .ok (.goto (-27), 3) := by decide +kernel
theorem dX9_bitAt_34 : decode cX9_bitAt 34 = .ok (.iconst (-1), 1) := by decide +kernel
theorem dX9_bitAt_35 : decode cX9_bitAt 35 = .ok (.ireturn, 1) := by decide +kernel
theorem dX9_ask_0 : decode cX9_ask 0 = .ok (.aload_n 0, 1) := by decide +kernel
theorem dX9_ask_1 : decode cX9_ask 1 = .ok (.getfield 55, 3) := by decide +kernel
theorem dX9_ask_4 : decode cX9_ask 4 = .ok (.iload_n 1, 1) := by decide +kernel
theorem dX9_ask_5 : decode cX9_ask 5 = .ok (.invokevirtual 153, 3) := by decide +kernel
theorem dX9_ask_8 : decode cX9_ask 8 = .ok (.ifCond .ne 5, 3) := by decide +kernel
theorem dX9_ask_11 : decode cX9_ask 11 = .ok (.iconst (-1), 1) := by decide +kernel
theorem dX9_ask_12 : decode cX9_ask 12 = .ok (.ireturn, 1) := by decide +kernel
theorem dX9_ask_13 : decode cX9_ask 13 = .ok (.aload_n 0, 1) := by decide +kernel
theorem dX9_ask_14 : decode cX9_ask 14 = .ok (.getfield 62, 3) := by decide +kernel
theorem dX9_ask_17 : decode cX9_ask 17 = .ok (.aload_n 0, 1) := by decide +kernel
theorem dX9_ask_18 : decode cX9_ask 18 = .ok (.getfield 59, 3) := by decide +kernel
theorem dX9_ask_21 : decode cX9_ask 21 = .ok (.invokevirtual 123, 3) := by decide +kernel
theorem dX9_ask_24 : decode cX9_ask 24 = .ok (.aload_n 0, 1) := by decide +kernel
theorem dX9_ask_25 : decode cX9_ask 25 = .ok (.getfield 75, 3) := by decide +kernel
theorem dX9_ask_28 : decode cX9_ask 28 = .ok (.aload_n 0, 1) := by decide +kernel
theorem dX9_ask_29 : decode cX9_ask 29 = .ok (.getfield 62, 3) := by decide +kernel
theorem dX9_ask_32 : decode cX9_ask 32 = .ok (.iload_n 1, 1) := by decide +kernel
theorem dX9_ask_33 : decode cX9_ask 33 = .ok (.aload_n 0, 1) := by decide +kernel
theorem dX9_ask_34 : decode cX9_ask 34 = .ok (.invokevirtual 179, 3) := by decide +kernel
theorem dX9_ask_37 : decode cX9_ask 37 = .ok (.invokevirtual 293, 3) := by decide +kernel
theorem dX9_ask_40 : decode cX9_ask 40 = .ok (.istore_n 2, 1) := by decide +kernel
theorem dX9_ask_41 : decode cX9_ask 41 = .ok (.iload_n 2, 1) := by decide +kernel
theorem dX9_ask_42 : decode cX9_ask 42 = .ok (.ifCond .ne 5, 3) := by decide +kernel
theorem dX9_ask_45 : decode cX9_ask 45 = .ok (.iconst (-1), 1) := by decide +kernel
theorem dX9_ask_46 : decode cX9_ask 46 = .ok (.ireturn, 1) := by decide +kernel
theorem dX9_ask_47 : decode cX9_ask 47 = .ok (.iconst (-1), 1) := by decide +kernel
theorem dX9_ask_48 : decode cX9_ask 48 = .ok (.istore_n 3, 1) := by decide +kernel
theorem dX9_ask_49 : decode cX9_ask 49 = .ok (.iconst 0, 1) := by decide +kernel
theorem dX9_ask_50 : decode cX9_ask 50 = .ok (.istore 4, 2) := by decide +kernel
theorem dX9_ask_52 : decode cX9_ask 52 = .ok (.iconst 0, 1) := by decide +kernel
theorem dX9_ask_53 : decode cX9_ask 53 = .ok (.istore 5, 2) := by decide +kernel
theorem dX9_ask_55 : decode cX9_ask 55 = .ok (.iload 5, 2) := by decide +kernel
theorem dX9_ask_57 : decode cX9_ask 57 = .ok (.aload_n 0, 1) := by decide +kernel
theorem dX9_ask_58 : decode cX9_ask 58 = .ok (.getfield 62, 3) := by decide +kernel
theorem dX9_ask_61 : decode cX9_ask 61 = .ok (.getfield 300, 3) := by decide +kernel
theorem dX9_ask_64 : decode cX9_ask 64 = .ok (.if_icmp .ge 45, 3) := by decide +kernel
