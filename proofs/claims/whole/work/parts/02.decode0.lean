theorem dX0_init_0 : decode cX0_init 0 = .ok (.aload_n 0, 1) := by decide +kernel
theorem dX0_init_1 : decode cX0_init 1 = .ok (.invokespecial 3, 3) := by decide +kernel
theorem dX0_init_4 : decode cX0_init 4 = .ok (.aload_n 0, 1) := by decide +kernel
theorem dX0_init_5 : decode cX0_init 5 = .ok (.iconst 4, 1) := by decide +kernel
theorem dX0_init_6 : decode cX0_init 6 = .ok (.newarray .int, 2) := by decide +kernel
theorem dX0_init_8 : decode cX0_init 8 = .ok (.putfield 11, 3) := by decide +kernel
theorem dX0_init_11 : decode cX0_init 11 = .ok (.aload_n 0, 1) := by decide +kernel
theorem dX0_init_12 : decode cX0_init 12 = .ok (.iconst 4, 1) := by decide +kernel
theorem dX0_init_13 : decode cX0_init 13 = .ok (.newarray .int, 2) := by decide +kernel
theorem dX0_init_15 : decode cX0_init 15 = .ok (.putfield 15, 3) := by decide +kernel
theorem dX0_init_18 : decode cX0_init 18 = .ok (.return_, 1) := by decide +kernel
theorem dX0_mayRaise_0 : decode cX0_mayRaise 0 = .ok (.iload_n 0, 1) := by decide +kernel
theorem dX0_mayRaise_1 : decode cX0_mayRaise 1 = .ok (.ifCond .lt 12, 3) := by decide +kernel
theorem dX0_mayRaise_4 : decode cX0_mayRaise 4 = .ok (.iload_n 0, 1) := by decide +kernel
theorem dX0_mayRaise_5 : decode cX0_mayRaise 5 = .ok (.iconst 3, 1) := by decide +kernel
theorem dX0_mayRaise_6 : decode cX0_mayRaise 6 = .ok (.if_icmp .gt 7, 3) := by decide +kernel
theorem dX0_mayRaise_9 : decode cX0_mayRaise 9 = .ok (.iconst 1, 1) := by decide +kernel
theorem dX0_mayRaise_10 : decode cX0_mayRaise 10 = .ok (.goto 4, 3) := by decide +kernel
theorem dX0_mayRaise_13 : decode cX0_mayRaise 13 = .ok (.iconst 0, 1) := by decide +kernel
theorem dX0_mayRaise_14 : decode cX0_mayRaise 14 = .ok (.ireturn, 1) := by decide +kernel
theorem dX0_prepare_0 : decode cX0_prepare 0 = .ok (.aload_n 1, 1) := by decide +kernel
theorem dX0_prepare_1 : decode cX0_prepare 1 = .ok (.getfield 18, 3) := by decide +kernel
theorem dX0_prepare_4 : decode cX0_prepare 4 = .ok (.iload_n 2, 1) := by decide +kernel
theorem dX0_prepare_5 : decode cX0_prepare 5 = .ok (.iaload, 1) := by decide +kernel
theorem dX0_prepare_6 : decode cX0_prepare 6 = .ok (.istore 5, 2) := by decide +kernel
theorem dX0_prepare_8 : decode cX0_prepare 8 = .ok (.aload_n 1, 1) := by decide +kernel
theorem dX0_prepare_9 : decode cX0_prepare 9 = .ok (.getfield 18, 3) := by decide +kernel
theorem dX0_prepare_12 : decode cX0_prepare 12 = .ok (.iload_n 3, 1) := by decide +kernel
theorem dX0_prepare_13 : decode cX0_prepare 13 = .ok (.iaload, 1) := by decide +kernel
theorem dX0_prepare_14 : decode cX0_prepare 14 = .ok (.istore 6, 2) := by decide +kernel
theorem dX0_prepare_16 : decode cX0_prepare 16 = .ok (.iconst 0, 1) := by decide +kernel
theorem dX0_prepare_17 : decode cX0_prepare 17 = .ok (.istore 7, 2) := by decide +kernel
theorem dX0_prepare_19 : decode cX0_prepare 19 = .ok (.iload 7, 2) := by decide +kernel
theorem dX0_prepare_21 : decode cX0_prepare 21 = .ok (.iconst 3, 1) := by decide +kernel
theorem dX0_prepare_22 : decode cX0_prepare 22 = .ok (.if_icmp .gt 69, 3) := by decide +kernel
theorem dX0_prepare_25 : decode cX0_prepare 25 = .ok (.aload_n 1, 1) := by decide +kernel
theorem dX0_prepare_26 : decode cX0_prepare 26 = .ok (.getfield 18, 3) := by decide +kernel
theorem dX0_prepare_29 : decode cX0_prepare 29 = .ok (.iload_n 2, 1) := by decide +kernel
theorem dX0_prepare_30 : decode cX0_prepare 30 = .ok (.bipush 9, 2) := by decide +kernel
theorem dX0_prepare_32 : decode cX0_prepare 32 = .ok (.iload 5, 2) := by decide +kernel
theorem dX0_prepare_34 : decode cX0_prepare 34 = .ok (.iload 7, 2) := by decide +kernel
theorem dX0_prepare_36 : decode cX0_prepare 36 = .ok (.iadd, 1) := by decide +kernel
theorem dX0_prepare_37 : decode cX0_prepare 37 = .ok (.invokestatic 23, 3) := by decide +kernel
theorem dX0_prepare_40 : decode cX0_prepare 40 = .ok (.iastore, 1) := by decide +kernel
theorem dX0_prepare_41 : decode cX0_prepare 41 = .ok (.aload_n 1, 1) := by decide +kernel
theorem dX0_prepare_42 : decode cX0_prepare 42 = .ok (.getfield 18, 3) := by decide +kernel
theorem dX0_prepare_45 : decode cX0_prepare 45 = .ok (.iload_n 3, 1) := by decide +kernel
theorem dX0_prepare_46 : decode cX0_prepare 46 = .ok (.bipush 9, 2) := by decide +kernel
theorem dX0_prepare_48 : decode cX0_prepare 48 = .ok (.iload 6, 2) := by decide +kernel
theorem dX0_prepare_50 : decode cX0_prepare 50 = .ok (.iload 7, 2) := by decide +kernel
theorem dX0_prepare_52 : decode cX0_prepare 52 = .ok (.iadd, 1) := by decide +kernel
theorem dX0_prepare_53 : decode cX0_prepare 53 = .ok (.invokestatic 23, 3) := by decide +kernel
theorem dX0_prepare_56 : decode cX0_prepare 56 = .ok (.iastore, 1) := by decide +kernel
theorem dX0_prepare_57 : decode cX0_prepare 57 = .ok (.aload_n 0, 1) := by decide +kernel
theorem dX0_prepare_58 : decode cX0_prepare 58 = .ok (.getfield 11, 3) := by decide +kernel
theorem dX0_prepare_61 : decode cX0_prepare 61 = .ok (.iload 7, 2) := by decide +kernel
theorem dX0_prepare_63 : decode cX0_prepare 63 = .ok (.aload_n 1, 1) := by decide +kernel
theorem dX0_prepare_64 : decode cX0_prepare 64 = .ok (.iload_n 2, 1) := by decide +kernel
theorem dX0_prepare_65 : decode cX0_prepare 65 = .ok (.aload 4, 2) := by decide +kernel
theorem dX0_prepare_67 : decode cX0_prepare 67 = .ok (.invokevirtual 29, 3) := by decide +kernel
theorem dX0_prepare_70 : decode cX0_prepare 70 = .ok (.iastore, 1) := by decide +kernel
theorem dX0_prepare_71 : decode cX0_prepare 71 = .ok (.aload_n 0, 1) := by decide +kernel
theorem dX0_prepare_72 : decode cX0_prepare 72 = .ok (.getfield 15, 3) := by decide +kernel
theorem dX0_prepare_75 : decode cX0_prepare 75 = .ok (.iload 7, 2) := by decide +kernel
theorem dX0_prepare_77 : decode cX0_prepare 77 = .ok (.aload_n 1, 1) := by decide +kernel
theorem dX0_prepare_78 : decode cX0_prepare 78 = .ok (.iload_n 3, 1) := by decide +kernel
theorem dX0_prepare_79 : decode cX0_prepare 79 = .ok (.aload 4, 2) := by decide +kernel
theorem dX0_prepare_81 : decode cX0_prepare 81 = .ok (.invokevirtual 29, 3) := by decide +kernel
theorem dX0_prepare_84 : decode cX0_prepare 84 = .ok (.iastore, 1) := by decide +kernel
theorem dX0_prepare_85 : decode cX0_prepare 85 = .ok (.iinc 7 1, 3) := by decide +kernel
theorem dX0_prepare_88 : decode cX0_prepare 88 = .ok (.goto (-69), 3) := by decide +kernel
theorem dX0_prepare_91 : decode cX0_prepare 91 = .ok (.return_, 1) := by decide +kernel
theorem dX0_gainOfOne_0 : decode cX0_gainOfOne 0 = .ok (.aload_n 0, 1) := by decide +kernel
theorem dX0_gainOfOne_1 : decode cX0_gainOfOne 1 = .ok (.getfield 11, 3) := by decide +kernel
theorem dX0_gainOfOne_4 : decode cX0_gainOfOne 4 = .ok (.iload_n 1, 1) := by decide +kernel
theorem dX0_gainOfOne_5 : decode cX0_gainOfOne 5 = .ok (.iaload, 1) := by decide +kernel
theorem dX0_gainOfOne_6 : decode cX0_gainOfOne 6 = .ok (.aload_n 0, 1) := by decide +kernel
theorem dX0_gainOfOne_7 : decode cX0_gainOfOne 7 = .ok (.getfield 15, 3) := by decide +kernel
theorem dX0_gainOfOne_10 : decode cX0_gainOfOne 10 = .ok (.iload_n 2, 1) := by decide +kernel
theorem dX0_gainOfOne_11 : decode cX0_gainOfOne 11 = .ok (.iaload, 1) := by decide +kernel
theorem dX0_gainOfOne_12 : decode cX0_gainOfOne 12 = .ok (.iconst (-1), 1) := by decide +kernel
theorem dX0_gainOfOne_13 : decode cX0_gainOfOne 13 = .ok (.ixor, 1) := by decide +kernel
theorem dX0_gainOfOne_14 : decode cX0_gainOfOne 14 = .ok (.iand, 1) := by decide +kernel
theorem dX0_gainOfOne_15 : decode cX0_gainOfOne 15 = .ok (.invokestatic 33, 3) := by decide +kernel
theorem dX0_gainOfOne_18 : decode cX0_gainOfOne 18 = .ok (.iload_n 1, 1) := by decide +kernel
theorem dX0_gainOfOne_19 : decode cX0_gainOfOne 19 = .ok (.isub, 1) := by decide +kernel
theorem dX0_gainOfOne_20 : decode cX0_gainOfOne 20 = .ok (.ireturn, 1) := by decide +kernel
theorem dX0_gainOfOther_0 : decode cX0_gainOfOther 0 = .ok (.aload_n 0, 1) := by decide +kernel
theorem dX0_gainOfOther_1 : decode cX0_gainOfOther 1 = .ok (.getfield 15, 3) := by decide +kernel
theorem dX0_gainOfOther_4 : decode cX0_gainOfOther 4 = .ok (.iload_n 2, 1) := by decide +kernel
theorem dX0_gainOfOther_5 : decode cX0_gainOfOther 5 = .ok (.iaload, 1) := by decide +kernel
theorem dX0_gainOfOther_6 : decode cX0_gainOfOther 6 = .ok (.aload_n 0, 1) := by decide +kernel
theorem dX0_gainOfOther_7 : decode cX0_gainOfOther 7 = .ok (.getfield 11, 3) := by decide +kernel
theorem dX0_gainOfOther_10 : decode cX0_gainOfOther 10 = .ok (.iload_n 1, 1) := by decide +kernel
theorem dX0_gainOfOther_11 : decode cX0_gainOfOther 11 = .ok (.iaload, 1) := by decide +kernel
theorem dX0_gainOfOther_12 : decode cX0_gainOfOther 12 = .ok (.iconst (-1), 1) := by decide +kernel
theorem dX0_gainOfOther_13 : decode cX0_gainOfOther 13 = .ok (.ixor, 1) := by decide +kernel
theorem dX0_gainOfOther_14 : decode cX0_gainOfOther 14 = .ok (.iand, 1) := by decide +kernel
theorem dX0_gainOfOther_15 : decode cX0_gainOfOther 15 = .ok (.invokestatic 33, 3) := by decide +kernel
theorem dX0_gainOfOther_18 : decode cX0_gainOfOther 18 = .ok (.iload_n 2, 1) := by decide +kernel
theorem dX0_gainOfOther_19 : decode cX0_gainOfOther 19 = .ok (.isub, 1) := by decide +kernel
theorem dX0_gainOfOther_20 : decode cX0_gainOfOther 20 = .ok (.ireturn, 1) := by decide +kernel
theorem dX0_restAt_0 : decode cX0_restAt 0 = .ok (.iconst 0, 1) := by decide +kernel
theorem dX0_restAt_1 : decode cX0_restAt 1 = .ok (.istore_n 2, 1) := by decide +kernel
theorem dX0_restAt_2 : decode cX0_restAt 2 = .ok (.iconst 0, 1) := by decide +kernel
theorem dX0_restAt_3 : decode cX0_restAt 3 = .ok (.istore_n 3, 1) := by decide +kernel
theorem dX0_restAt_4 : decode cX0_restAt 4 = .ok (.iload_n 3, 1) := by decide +kernel
theorem dX0_restAt_5 : decode cX0_restAt 5 = .ok (.iconst 3, 1) := by decide +kernel
theorem dX0_restAt_6 : decode cX0_restAt 6 = .ok (.if_icmp .gt 50, 3) := by decide +kernel
theorem dX0_restAt_9 : decode cX0_restAt 9 = .ok (.iconst 0, 1) := by decide +kernel
theorem dX0_restAt_10 : decode cX0_restAt 10 = .ok (.istore 4, 2) := by decide +kernel
theorem dX0_restAt_12 : decode cX0_restAt 12 = .ok (.iload 4, 2) := by decide +kernel
theorem dX0_restAt_14 : decode cX0_restAt 14 = .ok (.iconst 3, 1) := by decide +kernel
theorem dX0_restAt_15 : decode cX0_restAt 15 = .ok (.if_icmp .gt 35, 3) := by decide +kernel
theorem dX0_restAt_18 : decode cX0_restAt 18 = .ok (.aload_n 0, 1) := by decide +kernel
theorem dX0_restAt_19 : decode cX0_restAt 19 = .ok (.iload_n 3, 1) := by decide +kernel
theorem dX0_restAt_20 : decode cX0_restAt 20 = .ok (.iload 4, 2) := by decide +kernel
theorem dX0_restAt_22 : decode cX0_restAt 22 = .ok (.invokevirtual 39, 3) := by decide +kernel
theorem dX0_restAt_25 : decode cX0_restAt 25 = .ok (.ifCond .eq 19, 3) := by decide +kernel
theorem dX0_restAt_28 : decode cX0_restAt 28 = .ok (.iload_n 2, 1) := by decide +kernel
theorem dX0_restAt_29 : decode cX0_restAt 29 = .ok (.iload_n 1, 1) := by decide +kernel
theorem dX0_restAt_30 : decode cX0_restAt 30 = .ok (.if_icmp .ne 11, 3) := by decide +kernel
theorem dX0_restAt_33 : decode cX0_restAt 33 = .ok (.bipush 10, 2) := by decide +kernel
theorem dX0_restAt_35 : decode cX0_restAt 35 = .ok (.iload_n 3, 1) := by decide +kernel
theorem dX0_restAt_36 : decode cX0_restAt 36 = .ok (.imul, 1) := by decide +kernel
theorem dX0_restAt_37 : decode cX0_restAt 37 = .ok (.iload 4, 2) := by decide +kernel
theorem dX0_restAt_39 : decode cX0_restAt 39 = .ok (.iadd, 1) := by decide +kernel
theorem dX0_restAt_40 : decode cX0_restAt 40 = .ok (.ireturn, 1) := by decide +kernel
theorem dX0_restAt_41 : decode cX0_restAt 41 = .ok (.iinc 2 1, 3) := by decide +kernel
theorem dX0_restAt_44 : decode cX0_restAt 44 = .ok (.iinc 4 1, 3) := by decide +kernel
theorem dX0_restAt_47 : decode cX0_restAt 47 = .ok (.goto (-35), 3) := by decide +kernel
theorem dX0_restAt_50 : decode cX0_restAt 50 = .ok (.iinc 3 1, 3) := by decide +kernel
theorem dX0_restAt_53 : decode cX0_restAt 53 = .ok (.goto (-49), 3) := by decide +kernel
theorem dX0_restAt_56 : decode cX0_restAt 56 = .ok (.iload_n 1, 1) := by decide +kernel
theorem dX0_restAt_57 : decode cX0_restAt 57 = .ok (.iconst (-1), 1) := by decide +kernel
theorem dX0_restAt_58 : decode cX0_restAt 58 = .ok (.if_icmp .ne 7, 3) := by decide +kernel
theorem dX0_restAt_61 : decode cX0_restAt 61 = .ok (.iload_n 2, 1) := by decide +kernel
theorem dX0_restAt_62 : decode cX0_restAt 62 = .ok (.goto 4, 3) := by decide +kernel
theorem dX0_restAt_65 : decode cX0_restAt 65 = .ok (.iconst (-1), 1) := by decide +kernel
theorem dX0_restAt_66 : decode cX0_restAt 66 = .ok (.ireturn, 1) := by decide +kernel
theorem dX0_isRest_0 : decode cX0_isRest 0 = .ok (.iconst 0, 1) := by decide +kernel
theorem dX0_isRest_1 : decode cX0_isRest 1 = .ok (.istore_n 3, 1) := by decide +kernel
theorem dX0_isRest_2 : decode cX0_isRest 2 = .ok (.iload_n 3, 1) := by decide +kernel
theorem dX0_isRest_3 : decode cX0_isRest 3 = .ok (.iconst 3, 1) := by decide +kernel
theorem dX0_isRest_4 : decode cX0_isRest 4 = .ok (.if_icmp .gt 41, 3) := by decide +kernel
theorem dX0_isRest_7 : decode cX0_isRest 7 = .ok (.aload_n 0, 1) := by decide +kernel
theorem dX0_isRest_8 : decode cX0_isRest 8 = .ok (.iload_n 3, 1) := by decide +kernel
theorem dX0_isRest_9 : decode cX0_isRest 9 = .ok (.iload_n 2, 1) := by decide +kernel
theorem dX0_isRest_10 : decode cX0_isRest 10 = .ok (.invokevirtual 43, 3) := by decide +kernel
theorem dX0_isRest_13 : decode cX0_isRest 13 = .ok (.aload_n 0, 1) := by decide +kernel
theorem dX0_isRest_14 : decode cX0_isRest 14 = .ok (.iload_n 1, 1) := by decide +kernel
theorem dX0_isRest_15 : decode cX0_isRest 15 = .ok (.iload_n 2, 1) := by decide +kernel
theorem dX0_isRest_16 : decode cX0_isRest 16 = .ok (.invokevirtual 43, 3) := by decide +kernel
theorem dX0_isRest_19 : decode cX0_isRest 19 = .ok (.if_icmp .gt 18, 3) := by decide +kernel
theorem dX0_isRest_22 : decode cX0_isRest 22 = .ok (.aload_n 0, 1) := by decide +kernel
theorem dX0_isRest_23 : decode cX0_isRest 23 = .ok (.iload_n 1, 1) := by decide +kernel
theorem dX0_isRest_24 : decode cX0_isRest 24 = .ok (.iload_n 3, 1) := by decide +kernel
theorem dX0_isRest_25 : decode cX0_isRest 25 = .ok (.invokevirtual 46, 3) := by decide +kernel
theorem dX0_isRest_28 : decode cX0_isRest 28 = .ok (.aload_n 0, 1) := by decide +kernel
theorem dX0_isRest_29 : decode cX0_isRest 29 = .ok (.iload_n 1, 1) := by decide +kernel
theorem dX0_isRest_30 : decode cX0_isRest 30 = .ok (.iload_n 2, 1) := by decide +kernel
theorem dX0_isRest_31 : decode cX0_isRest 31 = .ok (.invokevirtual 46, 3) := by decide +kernel
theorem dX0_isRest_34 : decode cX0_isRest 34 = .ok (.if_icmp .le 5, 3) := by decide +kernel
theorem dX0_isRest_37 : decode cX0_isRest 37 = .ok (.iconst 0, 1) := by decide +kernel
theorem dX0_isRest_38 : decode cX0_isRest 38 = .ok (.ireturn, 1) := by decide +kernel
theorem dX0_isRest_39 : decode cX0_isRest 39 = .ok (.iinc 3 1, 3) := by decide +kernel
theorem dX0_isRest_42 : decode cX0_isRest 42 = .ok (.goto (-40), 3) := by decide +kernel
theorem dX0_isRest_45 : decode cX0_isRest 45 = .ok (.iconst 1, 1) := by decide +kernel
theorem dX0_isRest_46 : decode cX0_isRest 46 = .ok (.ireturn, 1) := by decide +kernel
theorem dX1_init_0 : decode cX1_init 0 = .ok (.aload_n 0, 1) := by decide +kernel
theorem dX1_init_1 : decode cX1_init 1 = .ok (.invokespecial 3, 3) := by decide +kernel
theorem dX1_init_4 : decode cX1_init 4 = .ok (.aload_n 0, 1) := by decide +kernel
theorem dX1_init_5 : decode cX1_init 5 = .ok (.bipush 10, 2) := by decide +kernel
theorem dX1_init_7 : decode cX1_init 7 = .ok (.newarray .int, 2) := by decide +kernel
theorem dX1_init_9 : decode cX1_init 9 = .ok (.putfield 11, 3) := by decide +kernel
theorem dX1_init_12 : decode cX1_init 12 = .ok (.aload_n 0, 1) := by decide +kernel
theorem dX1_init_13 : decode cX1_init 13 = .ok (.bipush 10, 2) := by decide +kernel
theorem dX1_init_15 : decode cX1_init 15 = .ok (.newarray .int, 2) := by decide +kernel
theorem dX1_init_17 : decode cX1_init 17 = .ok (.putfield 15, 3) := by decide +kernel
theorem dX1_init_20 : decode cX1_init 20 = .ok (.aload_n 0, 1) := by decide +kernel
theorem dX1_init_21 : decode cX1_init 21 = .ok (.bipush 10, 2) := by decide +kernel
theorem dX1_init_23 : decode cX1_init 23 = .ok (.newarray .boolean, 2) := by decide +kernel
theorem dX1_init_25 : decode cX1_init 25 = .ok (.putfield 18, 3) := by decide +kernel
theorem dX1_init_28 : decode cX1_init 28 = .ok (.aload_n 0, 1) := by decide +kernel
theorem dX1_init_29 : decode cX1_init 29 = .ok (.iconst 0, 1) := by decide +kernel
theorem dX1_init_30 : decode cX1_init 30 = .ok (.putfield 22, 3) := by decide +kernel
theorem dX1_init_33 : decode cX1_init 33 = .ok (.aload_n 0, 1) := by decide +kernel
theorem dX1_init_34 : decode cX1_init 34 = .ok (.bipush 10, 2) := by decide +kernel
theorem dX1_init_36 : decode cX1_init 36 = .ok (.newarray .int, 2) := by decide +kernel
theorem dX1_init_38 : decode cX1_init 38 = .ok (.putfield 26, 3) := by decide +kernel
theorem dX1_init_41 : decode cX1_init 41 = .ok (.aload_n 0, 1) := by decide +kernel
theorem dX1_init_42 : decode cX1_init 42 = .ok (.bipush 10, 2) := by decide +kernel
theorem dX1_init_44 : decode cX1_init 44 = .ok (.newarray .int, 2) := by decide +kernel
theorem dX1_init_46 : decode cX1_init 46 = .ok (.putfield 29, 3) := by decide +kernel
theorem dX1_init_49 : decode cX1_init 49 = .ok (.aload_n 0, 1) := by decide +kernel
theorem dX1_init_50 : decode cX1_init 50 = .ok (.iconst 0, 1) := by decide +kernel
theorem dX1_init_51 : decode cX1_init 51 = .ok (.putfield 32, 3) := by decide +kernel
theorem dX1_init_54 : decode cX1_init 54 = .ok (.return_, 1) := by decide +kernel
theorem dX1_forget_0 : decode cX1_forget 0 = .ok (.aload_n 0, 1) := by decide +kernel
theorem dX1_forget_1 : decode cX1_forget 1 = .ok (.iconst 0, 1) := by decide +kernel
theorem dX1_forget_2 : decode cX1_forget 2 = .ok (.putfield 22, 3) := by decide +kernel
theorem dX1_forget_5 : decode cX1_forget 5 = .ok (.aload_n 0, 1) := by decide +kernel
theorem dX1_forget_6 : decode cX1_forget 6 = .ok (.iconst 0, 1) := by decide +kernel
theorem dX1_forget_7 : decode cX1_forget 7 = .ok (.putfield 32, 3) := by decide +kernel
theorem dX1_forget_10 : decode cX1_forget 10 = .ok (.return_, 1) := by decide +kernel
theorem dX1_addGiven_0 : decode cX1_addGiven 0 = .ok (.aload_n 0, 1) := by decide +kernel
theorem dX1_addGiven_1 : decode cX1_addGiven 1 = .ok (.getfield 22, 3) := by decide +kernel
theorem dX1_addGiven_4 : decode cX1_addGiven 4 = .ok (.bipush 10, 2) := by decide +kernel
theorem dX1_addGiven_6 : decode cX1_addGiven 6 = .ok (.if_icmp .lt 5, 3) := by decide +kernel
theorem dX1_addGiven_9 : decode cX1_addGiven 9 = .ok (.iconst (-1), 1) := by decide +kernel
theorem dX1_addGiven_10 : decode cX1_addGiven 10 = .ok (.ireturn, 1) := by decide +kernel
theorem dX1_addGiven_11 : decode cX1_addGiven 11 = .ok (.aload_n 0, 1) := by decide +kernel
theorem dX1_addGiven_12 : decode cX1_addGiven 12 = .ok (.getfield 11, 3) := by decide +kernel
theorem dX1_addGiven_15 : decode cX1_addGiven 15 = .ok (.aload_n 0, 1) := by decide +kernel
theorem dX1_addGiven_16 : decode cX1_addGiven 16 = .ok (.getfield 22, 3) := by decide +kernel
theorem dX1_addGiven_19 : decode cX1_addGiven 19 = .ok (.iload_n 1, 1) := by decide +kernel
theorem dX1_addGiven_20 : decode cX1_addGiven 20 = .ok (.iastore, 1) := by decide +kernel
theorem dX1_addGiven_21 : decode cX1_addGiven 21 = .ok (.aload_n 0, 1) := by decide +kernel
theorem dX1_addGiven_22 : decode cX1_addGiven 22 = .ok (.getfield 15, 3) := by decide +kernel
theorem dX1_addGiven_25 : decode cX1_addGiven 25 = .ok (.aload_n 0, 1) := by decide +kernel
theorem dX1_addGiven_26 : decode cX1_addGiven 26 = .ok (.getfield 22, 3) := by decide +kernel
theorem dX1_addGiven_29 : decode cX1_addGiven 29 = .ok (.iload_n 2, 1) := by decide +kernel
theorem dX1_addGiven_30 : decode cX1_addGiven 30 = .ok (.iastore, 1) := by decide +kernel
theorem dX1_addGiven_31 : decode cX1_addGiven 31 = .ok (.aload_n 0, 1) := by decide +kernel
theorem dX1_addGiven_32 : decode cX1_addGiven 32 = .ok (.getfield 18, 3) := by decide +kernel
theorem dX1_addGiven_35 : decode cX1_addGiven 35 = .ok (.aload_n 0, 1) := by decide +kernel
theorem dX1_addGiven_36 : decode cX1_addGiven 36 = .ok (.getfield 22, 3) := by decide +kernel
theorem dX1_addGiven_39 : decode cX1_addGiven 39 = .ok (.iload_n 3, 1) := by decide +kernel
theorem dX1_addGiven_40 : decode cX1_addGiven 40 = .ok (.bastore, 1) := by decide +kernel
theorem dX1_addGiven_41 : decode cX1_addGiven 41 = .ok (.aload_n 0, 1) := by decide +kernel
theorem dX1_addGiven_42 : decode cX1_addGiven 42 = .ok (.dup, 1) := by decide +kernel
theorem dX1_addGiven_43 : decode cX1_addGiven 43 = .ok (.getfield 22, 3) := by decide +kernel
theorem dX1_addGiven_46 : decode cX1_addGiven 46 = .ok (.iconst 1, 1) := by decide +kernel
theorem dX1_addGiven_47 : decode cX1_addGiven 47 = .ok (.iadd, 1) := by decide +kernel
theorem dX1_addGiven_48 : decode cX1_addGiven 48 = .ok (.putfield 22, 3) := by decide +kernel
theorem dX1_addGiven_51 : decode cX1_addGiven 51 = .ok (.aload_n 0, 1) := by decide +kernel
theorem dX1_addGiven_52 : decode cX1_addGiven 52 = .ok (.getfield 22, 3) := by decide +kernel
theorem dX1_addGiven_55 : decode cX1_addGiven 55 = .ok (.ireturn, 1) := by decide +kernel
theorem dX1_addHeard_0 : decode cX1_addHeard 0 = .ok (.aload_n 0, 1) := by decide +kernel
theorem dX1_addHeard_1 : decode cX1_addHeard 1 = .ok (.getfield 32, 3) := by decide +kernel
theorem dX1_addHeard_4 : decode cX1_addHeard 4 = .ok (.bipush 10, 2) := by decide +kernel
theorem dX1_addHeard_6 : decode cX1_addHeard 6 = .ok (.if_icmp .lt 5, 3) := by decide +kernel
theorem dX1_addHeard_9 : decode cX1_addHeard 9 = .ok (.iconst (-1), 1) := by decide +kernel
theorem dX1_addHeard_10 : decode cX1_addHeard 10 = .ok (.ireturn, 1) := by decide +kernel
theorem dX1_addHeard_11 : decode cX1_addHeard 11 = .ok (.aload_n 0, 1) := by decide +kernel
theorem dX1_addHeard_12 : decode cX1_addHeard 12 = .ok (.getfield 26, 3) := by decide +kernel
theorem dX1_addHeard_15 : decode cX1_addHeard 15 = .ok (.aload_n 0, 1) := by decide +kernel
theorem dX1_addHeard_16 : decode cX1_addHeard 16 = .ok (.getfield 32, 3) := by decide +kernel
theorem dX1_addHeard_19 : decode cX1_addHeard 19 = .ok (.iload_n 1, 1) := by decide +kernel
theorem dX1_addHeard_20 : decode cX1_addHeard 20 = .ok (.iastore, 1) := by decide +kernel
theorem dX1_addHeard_21 : decode cX1_addHeard 21 = .ok (.aload_n 0, 1) := by decide +kernel
theorem dX1_addHeard_22 : decode cX1_addHeard 22 = .ok (.getfield 29, 3) := by decide +kernel
theorem dX1_addHeard_25 : decode cX1_addHeard 25 = .ok (.aload_n 0, 1) := by decide +kernel
theorem dX1_addHeard_26 : decode cX1_addHeard 26 = .ok (.getfield 32, 3) := by decide +kernel
theorem dX1_addHeard_29 : decode cX1_addHeard 29 = .ok (.iload_n 2, 1) := by decide +kernel
theorem dX1_addHeard_30 : decode cX1_addHeard 30 = .ok (.iastore, 1) := by decide +kernel
theorem dX1_addHeard_31 : decode cX1_addHeard 31 = .ok (.aload_n 0, 1) := by decide +kernel
theorem dX1_addHeard_32 : decode cX1_addHeard 32 = .ok (.dup, 1) := by decide +kernel
theorem dX1_addHeard_33 : decode cX1_addHeard 33 = .ok (.getfield 32, 3) := by decide +kernel
theorem dX1_addHeard_36 : decode cX1_addHeard 36 = .ok (.iconst 1, 1) := by decide +kernel
theorem dX1_addHeard_37 : decode cX1_addHeard 37 = .ok (.iadd, 1) := by decide +kernel
theorem dX1_addHeard_38 : decode cX1_addHeard 38 = .ok (.putfield 32, 3) := by decide +kernel
theorem dX1_addHeard_41 : decode cX1_addHeard 41 = .ok (.aload_n 0, 1) := by decide +kernel
theorem dX1_addHeard_42 : decode cX1_addHeard 42 = .ok (.getfield 32, 3) := by decide +kernel
theorem dX1_addHeard_45 : decode cX1_addHeard 45 = .ok (.ireturn, 1) := by decide +kernel
theorem dX1_fitting_0 : decode cX1_fitting 0 = .ok (.iconst 0, 1) := by decide +kernel
theorem dX1_fitting_1 : decode cX1_fitting 1 = .ok (.istore 4, 2) := by decide +kernel
theorem dX1_fitting_3 : decode cX1_fitting 3 = .ok (.iconst 0, 1) := by decide +kernel
theorem dX1_fitting_4 : decode cX1_fitting 4 = .ok (.istore 5, 2) := by decide +kernel
theorem dX1_fitting_6 : decode cX1_fitting 6 = .ok (.iload 5, 2) := by decide +kernel
theorem dX1_fitting_8 : decode cX1_fitting 8 = .ok (.bipush 9, 2) := by decide +kernel
theorem dX1_fitting_10 : decode cX1_fitting 10 = .ok (.if_icmp .gt 36, 3) := by decide +kernel
theorem dX1_fitting_13 : decode cX1_fitting 13 = .ok (.aload_n 1, 1) := by decide +kernel
theorem dX1_fitting_14 : decode cX1_fitting 14 = .ok (.getfield 35, 3) := by decide +kernel
theorem dX1_fitting_17 : decode cX1_fitting 17 = .ok (.iload_n 2, 1) := by decide +kernel
theorem dX1_fitting_18 : decode cX1_fitting 18 = .ok (.iload 5, 2) := by decide +kernel
theorem dX1_fitting_20 : decode cX1_fitting 20 = .ok (.iastore, 1) := by decide +kernel
theorem dX1_fitting_21 : decode cX1_fitting 21 = .ok (.aload_n 0, 1) := by decide +kernel
theorem dX1_fitting_22 : decode cX1_fitting 22 = .ok (.aload_n 1, 1) := by decide +kernel
theorem dX1_fitting_23 : decode cX1_fitting 23 = .ok (.iload_n 2, 1) := by decide +kernel
theorem dX1_fitting_24 : decode cX1_fitting 24 = .ok (.aload_n 3, 1) := by decide +kernel
theorem dX1_fitting_25 : decode cX1_fitting 25 = .ok (.invokevirtual 40, 3) := by decide +kernel
theorem dX1_fitting_28 : decode cX1_fitting 28 = .ok (.ifCond .eq 12, 3) := by decide +kernel
theorem dX1_fitting_31 : decode cX1_fitting 31 = .ok (.iload 4, 2) := by decide +kernel
theorem dX1_fitting_33 : decode cX1_fitting 33 = .ok (.iconst 1, 1) := by decide +kernel
theorem dX1_fitting_34 : decode cX1_fitting 34 = .ok (.iload 5, 2) := by decide +kernel
theorem dX1_fitting_36 : decode cX1_fitting 36 = .ok (.ishl, 1) := by decide +kernel
theorem dX1_fitting_37 : decode cX1_fitting 37 = .ok (.ior, 1) := by decide +kernel
theorem dX1_fitting_38 : decode cX1_fitting 38 = .ok (.istore 4, 2) := by decide +kernel
theorem dX1_fitting_40 : decode cX1_fitting 40 = .ok (.iinc 5 1, 3) := by decide +kernel
theorem dX1_fitting_43 : decode cX1_fitting 43 = .ok (.goto (-37), 3) := by decide +kernel
theorem dX1_fitting_46 : decode cX1_fitting 46 = .ok (.iload 4, 2) := by decide +kernel
theorem dX1_fitting_48 : decode cX1_fitting 48 = .ok (.ireturn, 1) := by decide +kernel
theorem dX1_fits_0 : decode cX1_fits 0 = .ok (.iconst 0, 1) := by decide +kernel
theorem dX1_fits_1 : decode cX1_fits 1 = .ok (.istore 4, 2) := by decide +kernel
theorem dX1_fits_3 : decode cX1_fits 3 = .ok (.iload 4, 2) := by decide +kernel
theorem dX1_fits_5 : decode cX1_fits 5 = .ok (.aload_n 0, 1) := by decide +kernel
theorem dX1_fits_6 : decode cX1_fits 6 = .ok (.getfield 22, 3) := by decide +kernel
theorem dX1_fits_9 : decode cX1_fits 9 = .ok (.if_icmp .ge 45, 3) := by decide +kernel
theorem dX1_fits_12 : decode cX1_fits 12 = .ok (.aload_n 0, 1) := by decide +kernel
theorem dX1_fits_13 : decode cX1_fits 13 = .ok (.getfield 15, 3) := by decide +kernel
theorem dX1_fits_16 : decode cX1_fits 16 = .ok (.iload 4, 2) := by decide +kernel
theorem dX1_fits_18 : decode cX1_fits 18 = .ok (.iaload, 1) := by decide +kernel
theorem dX1_fits_19 : decode cX1_fits 19 = .ok (.iload_n 2, 1) := by decide +kernel
theorem dX1_fits_20 : decode cX1_fits 20 = .ok (.if_icmp .ne 28, 3) := by decide +kernel
theorem dX1_fits_23 : decode cX1_fits 23 = .ok (.aload_n 1, 1) := by decide +kernel
theorem dX1_fits_24 : decode cX1_fits 24 = .ok (.aload_n 0, 1) := by decide +kernel
theorem dX1_fits_25 : decode cX1_fits 25 = .ok (.getfield 11, 3) := by decide +kernel
theorem dX1_fits_28 : decode cX1_fits 28 = .ok (.iload 4, 2) := by decide +kernel
theorem dX1_fits_30 : decode cX1_fits 30 = .ok (.iaload, 1) := by decide +kernel
theorem dX1_fits_31 : decode cX1_fits 31 = .ok (.iload_n 2, 1) := by decide +kernel
theorem dX1_fits_32 : decode cX1_fits 32 = .ok (.aload_n 3, 1) := by decide +kernel
theorem dX1_fits_33 : decode cX1_fits 33 = .ok (.invokevirtual 44, 3) := by decide +kernel
theorem dX1_fits_36 : decode cX1_fits 36 = .ok (.aload_n 0, 1) := by decide +kernel
theorem dX1_fits_37 : decode cX1_fits 37 = .ok (.getfield 18, 3) := by decide +kernel
theorem dX1_fits_40 : decode cX1_fits 40 = .ok (.iload 4, 2) := by decide +kernel
theorem dX1_fits_42 : decode cX1_fits 42 = .ok (.baload, 1) := by decide +kernel
theorem dX1_fits_43 : decode cX1_fits 43 = .ok (.if_icmp .eq 5, 3) := by decide +kernel
theorem dX1_fits_46 : decode cX1_fits 46 = .ok (.iconst 0, 1) := by decide +kernel
theorem dX1_fits_47 : decode cX1_fits 47 = .ok (.ireturn, 1) := by decide +kernel
theorem dX1_fits_48 : decode cX1_fits 48 = .ok (.iinc 4 1, 3) := by decide +kernel
theorem dX1_fits_51 : decode cX1_fits 51 = .ok (.goto (-48), 3) := by decide +kernel
theorem dX1_fits_54 : decode cX1_fits 54 = .ok (.iconst 1, 1) := by decide +kernel
theorem dX1_fits_55 : decode cX1_fits 55 = .ok (.ireturn, 1) := by decide +kernel
theorem dX1_apart_0 : decode cX1_apart 0 = .ok (.iconst 0, 1) := by decide +kernel
theorem dX1_apart_1 : decode cX1_apart 1 = .ok (.istore 5, 2) := by decide +kernel
theorem dX1_apart_3 : decode cX1_apart 3 = .ok (.iconst 0, 1) := by decide +kernel
theorem dX1_apart_4 : decode cX1_apart 4 = .ok (.istore 6, 2) := by decide +kernel
theorem dX1_apart_6 : decode cX1_apart 6 = .ok (.iload 6, 2) := by decide +kernel
theorem dX1_apart_8 : decode cX1_apart 8 = .ok (.bipush 9, 2) := by decide +kernel
theorem dX1_apart_10 : decode cX1_apart 10 = .ok (.if_icmp .gt 48, 3) := by decide +kernel
theorem dX1_apart_13 : decode cX1_apart 13 = .ok (.iload_n 3, 1) := by decide +kernel
theorem dX1_apart_14 : decode cX1_apart 14 = .ok (.iload 6, 2) := by decide +kernel
theorem dX1_apart_16 : decode cX1_apart 16 = .ok (.ishr, 1) := by decide +kernel
theorem dX1_apart_17 : decode cX1_apart 17 = .ok (.iconst 1, 1) := by decide +kernel
theorem dX1_apart_18 : decode cX1_apart 18 = .ok (.iand, 1) := by decide +kernel
theorem dX1_apart_19 : decode cX1_apart 19 = .ok (.iconst 1, 1) := by decide +kernel
theorem dX1_apart_20 : decode cX1_apart 20 = .ok (.if_icmp .ne 32, 3) := by decide +kernel
theorem dX1_apart_23 : decode cX1_apart 23 = .ok (.aload_n 0, 1) := by decide +kernel
theorem dX1_apart_24 : decode cX1_apart 24 = .ok (.getfield 35, 3) := by decide +kernel
theorem dX1_apart_27 : decode cX1_apart 27 = .ok (.iload_n 2, 1) := by decide +kernel
theorem dX1_apart_28 : decode cX1_apart 28 = .ok (.iload 6, 2) := by decide +kernel
theorem dX1_apart_30 : decode cX1_apart 30 = .ok (.iastore, 1) := by decide +kernel
theorem dX1_apart_31 : decode cX1_apart 31 = .ok (.iload 5, 2) := by decide +kernel
theorem dX1_apart_33 : decode cX1_apart 33 = .ok (.aload_n 0, 1) := by decide +kernel
theorem dX1_apart_34 : decode cX1_apart 34 = .ok (.iload_n 1, 1) := by decide +kernel
theorem dX1_apart_35 : decode cX1_apart 35 = .ok (.iload_n 2, 1) := by decide +kernel
theorem dX1_apart_36 : decode cX1_apart 36 = .ok (.aload 4, 2) := by decide +kernel
theorem dX1_apart_38 : decode cX1_apart 38 = .ok (.invokevirtual 44, 3) := by decide +kernel
theorem dX1_apart_41 : decode cX1_apart 41 = .ok (.ifCond .eq 7, 3) := by decide +kernel
theorem dX1_apart_44 : decode cX1_apart 44 = .ok (.iconst 1, 1) := by decide +kernel
theorem dX1_apart_45 : decode cX1_apart 45 = .ok (.goto 4, 3) := by decide +kernel
theorem dX1_apart_48 : decode cX1_apart 48 = .ok (.iconst (-1), 1) := by decide +kernel
theorem dX1_apart_49 : decode cX1_apart 49 = .ok (.iadd, 1) := by decide +kernel
theorem dX1_apart_50 : decode cX1_apart 50 = .ok (.istore 5, 2) := by decide +kernel
theorem dX1_apart_52 : decode cX1_apart 52 = .ok (.iinc 6 1, 3) := by decide +kernel
theorem dX1_apart_55 : decode cX1_apart 55 = .ok (.goto (-49), 3) := by decide +kernel
theorem dX1_apart_58 : decode cX1_apart 58 = .ok (.iload 5, 2) := by decide +kernel
theorem dX1_apart_60 : decode cX1_apart 60 = .ok (.invokestatic 48, 3) := by decide +kernel
theorem dX1_apart_63 : decode cX1_apart 63 = .ok (.ireturn, 1) := by decide +kernel
theorem dX1_falseTowers_0 : decode cX1_falseTowers 0 = .ok (.iconst 0, 1) := by decide +kernel
theorem dX1_falseTowers_1 : decode cX1_falseTowers 1 = .ok (.istore_n 3, 1) := by decide +kernel
theorem dX1_falseTowers_2 : decode cX1_falseTowers 2 = .ok (.iconst 0, 1) := by decide +kernel
theorem dX1_falseTowers_3 : decode cX1_falseTowers 3 = .ok (.istore 4, 2) := by decide +kernel
theorem dX1_falseTowers_5 : decode cX1_falseTowers 5 = .ok (.iload 4, 2) := by decide +kernel
theorem dX1_falseTowers_7 : decode cX1_falseTowers 7 = .ok (.aload_n 0, 1) := by decide +kernel
theorem dX1_falseTowers_8 : decode cX1_falseTowers 8 = .ok (.getfield 32, 3) := by decide +kernel
theorem dX1_falseTowers_11 : decode cX1_falseTowers 11 = .ok (.if_icmp .ge 49, 3) := by decide +kernel
theorem dX1_falseTowers_14 : decode cX1_falseTowers 14 = .ok (.aload_n 0, 1) := by decide +kernel
theorem dX1_falseTowers_15 : decode cX1_falseTowers 15 = .ok (.getfield 26, 3) := by decide +kernel
theorem dX1_falseTowers_18 : decode cX1_falseTowers 18 = .ok (.iload 4, 2) := by decide +kernel
theorem dX1_falseTowers_20 : decode cX1_falseTowers 20 = .ok (.iaload, 1) := by decide +kernel
theorem dX1_falseTowers_21 : decode cX1_falseTowers 21 = .ok (.istore 5, 2) := by decide +kernel
theorem dX1_falseTowers_23 : decode cX1_falseTowers 23 = .ok (.aload_n 0, 1) := by decide +kernel
theorem dX1_falseTowers_24 : decode cX1_falseTowers 24 = .ok (.getfield 29, 3) := by decide +kernel
theorem dX1_falseTowers_27 : decode cX1_falseTowers 27 = .ok (.iload 4, 2) := by decide +kernel
theorem dX1_falseTowers_29 : decode cX1_falseTowers 29 = .ok (.iaload, 1) := by decide +kernel
theorem dX1_falseTowers_30 : decode cX1_falseTowers 30 = .ok (.aload_n 1, 1) := by decide +kernel
theorem dX1_falseTowers_31 : decode cX1_falseTowers 31 = .ok (.invokevirtual 54, 3) := by decide +kernel
theorem dX1_falseTowers_34 : decode cX1_falseTowers 34 = .ok (.aload_n 1, 1) := by decide +kernel
theorem dX1_falseTowers_35 : decode cX1_falseTowers 35 = .ok (.iload 5, 2) := by decide +kernel
theorem dX1_falseTowers_37 : decode cX1_falseTowers 37 = .ok (.aload_n 2, 1) := by decide +kernel
theorem dX1_falseTowers_38 : decode cX1_falseTowers 38 = .ok (.invokevirtual 58, 3) := by decide +kernel
theorem dX1_falseTowers_41 : decode cX1_falseTowers 41 = .ok (.iconst (-1), 1) := by decide +kernel
theorem dX1_falseTowers_42 : decode cX1_falseTowers 42 = .ok (.ixor, 1) := by decide +kernel
theorem dX1_falseTowers_43 : decode cX1_falseTowers 43 = .ok (.iand, 1) := by decide +kernel
theorem dX1_falseTowers_44 : decode cX1_falseTowers 44 = .ok (.if_icmp .eq 10, 3) := by decide +kernel
theorem dX1_falseTowers_47 : decode cX1_falseTowers 47 = .ok (.iload_n 3, 1) := by decide +kernel
theorem dX1_falseTowers_48 : decode cX1_falseTowers 48 = .ok (.iconst 1, 1) := by decide +kernel
theorem dX1_falseTowers_49 : decode cX1_falseTowers 49 = .ok (.iload 5, 2) := by decide +kernel
theorem dX1_falseTowers_51 : decode cX1_falseTowers 51 = .ok (.ishl, 1) := by decide +kernel
theorem dX1_falseTowers_52 : decode cX1_falseTowers 52 = .ok (.ior, 1) := by decide +kernel
theorem dX1_falseTowers_53 : decode cX1_falseTowers 53 = .ok (.istore_n 3, 1) := by decide +kernel
theorem dX1_falseTowers_54 : decode cX1_falseTowers 54 = .ok (.iinc 4 1, 3) := by decide +kernel
theorem dX1_falseTowers_57 : decode cX1_falseTowers 57 = .ok (.goto (-52), 3) := by decide +kernel
theorem dX1_falseTowers_60 : decode cX1_falseTowers 60 = .ok (.iload_n 3, 1) := by decide +kernel
theorem dX1_falseTowers_61 : decode cX1_falseTowers 61 = .ok (.ireturn, 1) := by decide +kernel
theorem dX2_init_0 : decode cX2_init 0 = .ok (.aload_n 0, 1) := by decide +kernel
theorem dX2_init_1 : decode cX2_init 1 = .ok (.invokespecial 3, 3) := by decide +kernel
theorem dX2_init_4 : decode cX2_init 4 = .ok (.aload_n 0, 1) := by decide +kernel
theorem dX2_init_5 : decode cX2_init 5 = .ok (.iconst 4, 1) := by decide +kernel
theorem dX2_init_6 : decode cX2_init 6 = .ok (.newarray .int, 2) := by decide +kernel
theorem dX2_init_8 : decode cX2_init 8 = .ok (.putfield 11, 3) := by decide +kernel
theorem dX2_init_11 : decode cX2_init 11 = .ok (.aload_n 0, 1) := by decide +kernel
theorem dX2_init_12 : decode cX2_init 12 = .ok (.bipush 16, 2) := by decide +kernel
theorem dX2_init_14 : decode cX2_init 14 = .ok (.newarray .int, 2) := by decide +kernel
theorem dX2_init_16 : decode cX2_init 16 = .ok (.putfield 17, 3) := by decide +kernel
theorem dX2_init_19 : decode cX2_init 19 = .ok (.aload_n 0, 1) := by decide +kernel
theorem dX2_init_20 : decode cX2_init 20 = .ok (.bipush 30, 2) := by decide +kernel
theorem dX2_init_22 : decode cX2_init 22 = .ok (.newarray .int, 2) := by decide +kernel
theorem dX2_init_24 : decode cX2_init 24 = .ok (.putfield 20, 3) := by decide +kernel
theorem dX2_init_27 : decode cX2_init 27 = .ok (.aload_n 0, 1) := by decide +kernel
theorem dX2_init_28 : decode cX2_init 28 = .ok (.iconst 0, 1) := by decide +kernel
theorem dX2_init_29 : decode cX2_init 29 = .ok (.putfield 23, 3) := by decide +kernel
theorem dX2_init_32 : decode cX2_init 32 = .ok (.aload_n 0, 1) := by decide +kernel
theorem dX2_init_33 : decode cX2_init 33 = .ok (.iconst 0, 1) := by decide +kernel
theorem dX2_init_34 : decode cX2_init 34 = .ok (.putfield 27, 3) := by decide +kernel
theorem dX2_init_37 : decode cX2_init 37 = .ok (.aload_n 0, 1) := by decide +kernel
theorem dX2_init_38 : decode cX2_init 38 = .ok (.iconst 0, 1) := by decide +kernel
theorem dX2_init_39 : decode cX2_init 39 = .ok (.putfield 31, 3) := by decide +kernel
theorem dX2_init_42 : decode cX2_init 42 = .ok (.aload_n 0, 1) := by decide +kernel
theorem dX2_init_43 : decode cX2_init 43 = .ok (.iconst 0, 1) := by decide +kernel
theorem dX2_init_44 : decode cX2_init 44 = .ok (.putfield 34, 3) := by decide +kernel
theorem dX2_init_47 : decode cX2_init 47 = .ok (.aload_n 0, 1) := by decide +kernel
theorem dX2_init_48 : decode cX2_init 48 = .ok (.aload_n 1, 1) := by decide +kernel
theorem dX2_init_49 : decode cX2_init 49 = .ok (.putfield 37, 3) := by decide +kernel
theorem dX2_init_52 : decode cX2_init 52 = .ok (.return_, 1) := by decide +kernel
theorem dX2_read_0 : decode cX2_read 0 = .ok (.aload_n 0, 1) := by decide +kernel
theorem dX2_read_1 : decode cX2_read 1 = .ok (.invokevirtual 41, 3) := by decide +kernel
theorem dX2_read_4 : decode cX2_read 4 = .ok (.iconst 1, 1) := by decide +kernel
theorem dX2_read_5 : decode cX2_read 5 = .ok (.istore_n 1, 1) := by decide +kernel
theorem dX2_read_6 : decode cX2_read 6 = .ok (.iconst 0, 1) := by decide +kernel
theorem dX2_read_7 : decode cX2_read 7 = .ok (.istore_n 2, 1) := by decide +kernel
theorem dX2_read_8 : decode cX2_read 8 = .ok (.iload_n 2, 1) := by decide +kernel
theorem dX2_read_9 : decode cX2_read 9 = .ok (.bipush 11, 2) := by decide +kernel
theorem dX2_read_11 : decode cX2_read 11 = .ok (.if_icmp .ge 46, 3) := by decide +kernel
theorem dX2_read_14 : decode cX2_read 14 = .ok (.iload_n 1, 1) := by decide +kernel
theorem dX2_read_15 : decode cX2_read 15 = .ok (.ifCond .eq 42, 3) := by decide +kernel
theorem dX2_read_18 : decode cX2_read 18 = .ok (.aload_n 0, 1) := by decide +kernel
theorem dX2_read_19 : decode cX2_read 19 = .ok (.invokevirtual 44, 3) := by decide +kernel
theorem dX2_read_22 : decode cX2_read 22 = .ok (.aload_n 0, 1) := by decide +kernel
theorem dX2_read_23 : decode cX2_read 23 = .ok (.getfield 37, 3) := by decide +kernel
theorem dX2_read_26 : decode cX2_read 26 = .ok (.invokevirtual 47, 3) := by decide +kernel
theorem dX2_read_29 : decode cX2_read 29 = .ok (.bipush 59, 2) := by decide +kernel
theorem dX2_read_31 : decode cX2_read 31 = .ok (.if_icmp .ne 7, 3) := by decide +kernel
theorem dX2_read_34 : decode cX2_read 34 = .ok (.iconst 1, 1) := by decide +kernel
theorem dX2_read_35 : decode cX2_read 35 = .ok (.goto 4, 3) := by decide +kernel
theorem dX2_read_38 : decode cX2_read 38 = .ok (.iconst 0, 1) := by decide +kernel
theorem dX2_read_39 : decode cX2_read 39 = .ok (.istore_n 1, 1) := by decide +kernel
theorem dX2_read_40 : decode cX2_read 40 = .ok (.iload_n 1, 1) := by decide +kernel
theorem dX2_read_41 : decode cX2_read 41 = .ok (.ifCond .eq 10, 3) := by decide +kernel
theorem dX2_read_44 : decode cX2_read 44 = .ok (.aload_n 0, 1) := by decide +kernel
theorem dX2_read_45 : decode cX2_read 45 = .ok (.getfield 37, 3) := by decide +kernel
theorem dX2_read_48 : decode cX2_read 48 = .ok (.invokevirtual 53, 3) := by decide +kernel
theorem dX2_read_51 : decode cX2_read 51 = .ok (.iinc 2 1, 3) := by decide +kernel
theorem dX2_read_54 : decode cX2_read 54 = .ok (.goto (-46), 3) := by decide +kernel
theorem dX2_read_57 : decode cX2_read 57 = .ok (.aload_n 0, 1) := by decide +kernel
theorem dX2_read_58 : decode cX2_read 58 = .ok (.getfield 37, 3) := by decide +kernel
theorem dX2_read_61 : decode cX2_read 61 = .ok (.invokevirtual 47, 3) := by decide +kernel
theorem dX2_read_64 : decode cX2_read 64 = .ok (.iconst (-1), 1) := by decide +kernel
theorem dX2_read_65 : decode cX2_read 65 = .ok (.if_icmp .eq 10, 3) := by decide +kernel
theorem dX2_read_68 : decode cX2_read 68 = .ok (.aload_n 0, 1) := by decide +kernel
theorem dX2_read_69 : decode cX2_read 69 = .ok (.getfield 37, 3) := by decide +kernel
theorem dX2_read_72 : decode cX2_read 72 = .ok (.invokevirtual 56, 3) := by decide +kernel
theorem dX2_read_75 : decode cX2_read 75 = .ok (.aload_n 0, 1) := by decide +kernel
theorem dX2_read_76 : decode cX2_read 76 = .ok (.getfield 37, 3) := by decide +kernel
theorem dX2_read_79 : decode cX2_read 79 = .ok (.getfield 59, 3) := by decide +kernel
theorem dX2_read_82 : decode cX2_read 82 = .ok (.iconst (-1), 1) := by decide +kernel
theorem dX2_read_83 : decode cX2_read 83 = .ok (.if_icmp .ne 18, 3) := by decide +kernel
theorem dX2_read_86 : decode cX2_read 86 = .ok (.aload_n 0, 1) := by decide +kernel
theorem dX2_read_87 : decode cX2_read 87 = .ok (.invokevirtual 62, 3) := by decide +kernel
theorem dX2_read_90 : decode cX2_read 90 = .ok (.ifCond .ne 11, 3) := by decide +kernel
theorem dX2_read_93 : decode cX2_read 93 = .ok (.aload_n 0, 1) := by decide +kernel
theorem dX2_read_94 : decode cX2_read 94 = .ok (.getfield 37, 3) := by decide +kernel
theorem dX2_read_97 : decode cX2_read 97 = .ok (.getfield 66, 3) := by decide +kernel
theorem dX2_read_100 : decode cX2_read 100 = .ok (.ireturn, 1) := by decide +kernel
theorem dX2_read_101 : decode cX2_read 101 = .ok (.aload_n 0, 1) := by decide +kernel
theorem dX2_read_102 : decode cX2_read 102 = .ok (.getfield 37, 3) := by decide +kernel
theorem dX2_read_105 : decode cX2_read 105 = .ok (.getfield 59, 3) := by decide +kernel
theorem dX2_read_108 : decode cX2_read 108 = .ok (.ireturn, 1) := by decide +kernel
theorem dX2_forget_0 : decode cX2_forget 0 = .ok (.aload_n 0, 1) := by decide +kernel
theorem dX2_forget_1 : decode cX2_forget 1 = .ok (.getfield 37, 3) := by decide +kernel
theorem dX2_forget_4 : decode cX2_forget 4 = .ok (.invokevirtual 69, 3) := by decide +kernel
theorem dX2_forget_7 : decode cX2_forget 7 = .ok (.aload_n 0, 1) := by decide +kernel
theorem dX2_forget_8 : decode cX2_forget 8 = .ok (.iconst 0, 1) := by decide +kernel
theorem dX2_forget_9 : decode cX2_forget 9 = .ok (.putfield 23, 3) := by decide +kernel
theorem dX2_forget_12 : decode cX2_forget 12 = .ok (.aload_n 0, 1) := by decide +kernel
theorem dX2_forget_13 : decode cX2_forget 13 = .ok (.iconst 0, 1) := by decide +kernel
theorem dX2_forget_14 : decode cX2_forget 14 = .ok (.putfield 27, 3) := by decide +kernel
theorem dX2_forget_17 : decode cX2_forget 17 = .ok (.aload_n 0, 1) := by decide +kernel
theorem dX2_forget_18 : decode cX2_forget 18 = .ok (.iconst 0, 1) := by decide +kernel
theorem dX2_forget_19 : decode cX2_forget 19 = .ok (.putfield 31, 3) := by decide +kernel
theorem dX2_forget_22 : decode cX2_forget 22 = .ok (.aload_n 0, 1) := by decide +kernel
theorem dX2_forget_23 : decode cX2_forget 23 = .ok (.iconst 0, 1) := by decide +kernel
theorem dX2_forget_24 : decode cX2_forget 24 = .ok (.putfield 34, 3) := by decide +kernel
theorem dX2_forget_27 : decode cX2_forget 27 = .ok (.aload_n 0, 1) := by decide +kernel
theorem dX2_forget_28 : decode cX2_forget 28 = .ok (.getfield 20, 3) := by decide +kernel
theorem dX2_forget_31 : decode cX2_forget 31 = .ok (.iconst 0, 1) := by decide +kernel
theorem dX2_forget_32 : decode cX2_forget 32 = .ok (.invokestatic 72, 3) := by decide +kernel
theorem dX2_forget_35 : decode cX2_forget 35 = .ok (.getstatic 78, 3) := by decide +kernel
theorem dX2_forget_38 : decode cX2_forget 38 = .ok (.iconst 0, 1) := by decide +kernel
theorem dX2_forget_39 : decode cX2_forget 39 = .ok (.aload_n 0, 1) := by decide +kernel
theorem dX2_forget_40 : decode cX2_forget 40 = .ok (.getfield 11, 3) := by decide +kernel
theorem dX2_forget_43 : decode cX2_forget 43 = .ok (.iconst 0, 1) := by decide +kernel
theorem dX2_forget_44 : decode cX2_forget 44 = .ok (.iconst 4, 1) := by decide +kernel
theorem dX2_forget_45 : decode cX2_forget 45 = .ok (.invokestatic 81, 3) := by decide +kernel
theorem dX2_forget_48 : decode cX2_forget 48 = .ok (.return_, 1) := by decide +kernel
theorem dX2_clause_0 : decode cX2_clause 0 = .ok (.aload_n 0, 1) := by decide +kernel
theorem dX2_clause_1 : decode cX2_clause 1 = .ok (.getfield 37, 3) := by decide +kernel
theorem dX2_clause_4 : decode cX2_clause 4 = .ok (.invokevirtual 47, 3) := by decide +kernel
theorem dX2_clause_7 : decode cX2_clause 7 = .ok (.istore_n 1, 1) := by decide +kernel
theorem dX2_clause_8 : decode cX2_clause 8 = .ok (.iload_n 1, 1) := by decide +kernel
theorem dX2_clause_9 : decode cX2_clause 9 = .ok (.bipush 115, 2) := by decide +kernel
theorem dX2_clause_11 : decode cX2_clause 11 = .ok (.if_icmp .ne 43, 3) := by decide +kernel
theorem dX2_clause_14 : decode cX2_clause 14 = .ok (.aload_n 0, 1) := by decide +kernel
theorem dX2_clause_15 : decode cX2_clause 15 = .ok (.getfield 23, 3) := by decide +kernel
theorem dX2_clause_18 : decode cX2_clause 18 = .ok (.ifCond .ne 36, 3) := by decide +kernel
theorem dX2_clause_21 : decode cX2_clause 21 = .ok (.aload_n 0, 1) := by decide +kernel
theorem dX2_clause_22 : decode cX2_clause 22 = .ok (.iconst 1, 1) := by decide +kernel
theorem dX2_clause_23 : decode cX2_clause 23 = .ok (.putfield 23, 3) := by decide +kernel
theorem dX2_clause_26 : decode cX2_clause 26 = .ok (.aload_n 0, 1) := by decide +kernel
theorem dX2_clause_27 : decode cX2_clause 27 = .ok (.getfield 37, 3) := by decide +kernel
theorem dX2_clause_30 : decode cX2_clause 30 = .ok (.invokevirtual 53, 3) := by decide +kernel
theorem dX2_clause_33 : decode cX2_clause 33 = .ok (.aload_n 0, 1) := by decide +kernel
theorem dX2_clause_34 : decode cX2_clause 34 = .ok (.getstatic 87, 3) := by decide +kernel
theorem dX2_clause_37 : decode cX2_clause 37 = .ok (.getstatic 91, 3) := by decide +kernel
theorem dX2_clause_40 : decode cX2_clause 40 = .ok (.getstatic 94, 3) := by decide +kernel
theorem dX2_clause_43 : decode cX2_clause 43 = .ok (.aload_n 0, 1) := by decide +kernel
theorem dX2_clause_44 : decode cX2_clause 44 = .ok (.getfield 11, 3) := by decide +kernel
theorem dX2_clause_47 : decode cX2_clause 47 = .ok (.iconst 0, 1) := by decide +kernel
theorem dX2_clause_48 : decode cX2_clause 48 = .ok (.invokevirtual 97, 3) := by decide +kernel
theorem dX2_clause_51 : decode cX2_clause 51 = .ok (.goto 120, 3) := by decide +kernel
theorem dX2_clause_54 : decode cX2_clause 54 = .ok (.iload_n 1, 1) := by decide +kernel
theorem dX2_clause_55 : decode cX2_clause 55 = .ok (.bipush 116, 2) := by decide +kernel
theorem dX2_clause_57 : decode cX2_clause 57 = .ok (.if_icmp .ne 69, 3) := by decide +kernel
theorem dX2_clause_60 : decode cX2_clause 60 = .ok (.aload_n 0, 1) := by decide +kernel
theorem dX2_clause_61 : decode cX2_clause 61 = .ok (.getfield 27, 3) := by decide +kernel
theorem dX2_clause_64 : decode cX2_clause 64 = .ok (.iconst 4, 1) := by decide +kernel
theorem dX2_clause_65 : decode cX2_clause 65 = .ok (.if_icmp .ge 61, 3) := by decide +kernel
theorem dX2_clause_68 : decode cX2_clause 68 = .ok (.aload_n 0, 1) := by decide +kernel
theorem dX2_clause_69 : decode cX2_clause 69 = .ok (.getfield 27, 3) := by decide +kernel
theorem dX2_clause_72 : decode cX2_clause 72 = .ok (.iconst 4, 1) := by decide +kernel
theorem dX2_clause_73 : decode cX2_clause 73 = .ok (.imul, 1) := by decide +kernel
theorem dX2_clause_74 : decode cX2_clause 74 = .ok (.istore_n 2, 1) := by decide +kernel
theorem dX2_clause_75 : decode cX2_clause 75 = .ok (.aload_n 0, 1) := by decide +kernel
theorem dX2_clause_76 : decode cX2_clause 76 = .ok (.dup, 1) := by decide +kernel
theorem dX2_clause_77 : decode cX2_clause 77 = .ok (.getfield 27, 3) := by decide +kernel
theorem dX2_clause_80 : decode cX2_clause 80 = .ok (.iconst 1, 1) := by decide +kernel
theorem dX2_clause_81 : decode cX2_clause 81 = .ok (.iadd, 1) := by decide +kernel
theorem dX2_clause_82 : decode cX2_clause 82 = .ok (.putfield 27, 3) := by decide +kernel
theorem dX2_clause_85 : decode cX2_clause 85 = .ok (.aload_n 0, 1) := by decide +kernel
theorem dX2_clause_86 : decode cX2_clause 86 = .ok (.getfield 37, 3) := by decide +kernel
theorem dX2_clause_89 : decode cX2_clause 89 = .ok (.invokevirtual 53, 3) := by decide +kernel
theorem dX2_clause_92 : decode cX2_clause 92 = .ok (.getstatic 101, 3) := by decide +kernel
theorem dX2_clause_95 : decode cX2_clause 95 = .ok (.iconst 0, 1) := by decide +kernel
theorem dX2_clause_96 : decode cX2_clause 96 = .ok (.aload_n 0, 1) := by decide +kernel
theorem dX2_clause_97 : decode cX2_clause 97 = .ok (.getfield 17, 3) := by decide +kernel
theorem dX2_clause_100 : decode cX2_clause 100 = .ok (.iload_n 2, 1) := by decide +kernel
theorem dX2_clause_101 : decode cX2_clause 101 = .ok (.iconst 4, 1) := by decide +kernel
theorem dX2_clause_102 : decode cX2_clause 102 = .ok (.invokestatic 81, 3) := by decide +kernel
theorem dX2_clause_105 : decode cX2_clause 105 = .ok (.aload_n 0, 1) := by decide +kernel
theorem dX2_clause_106 : decode cX2_clause 106 = .ok (.getstatic 104, 3) := by decide +kernel
theorem dX2_clause_109 : decode cX2_clause 109 = .ok (.getstatic 107, 3) := by decide +kernel
theorem dX2_clause_112 : decode cX2_clause 112 = .ok (.getstatic 110, 3) := by decide +kernel
theorem dX2_clause_115 : decode cX2_clause 115 = .ok (.aload_n 0, 1) := by decide +kernel
theorem dX2_clause_116 : decode cX2_clause 116 = .ok (.getfield 17, 3) := by decide +kernel
theorem dX2_clause_119 : decode cX2_clause 119 = .ok (.iload_n 2, 1) := by decide +kernel
theorem dX2_clause_120 : decode cX2_clause 120 = .ok (.invokevirtual 97, 3) := by decide +kernel
theorem dX2_clause_123 : decode cX2_clause 123 = .ok (.goto 48, 3) := by decide +kernel
theorem dX2_clause_126 : decode cX2_clause 126 = .ok (.iload_n 1, 1) := by decide +kernel
theorem dX2_clause_127 : decode cX2_clause 127 = .ok (.bipush 114, 2) := by decide +kernel
theorem dX2_clause_129 : decode cX2_clause 129 = .ok (.if_icmp .ne 35, 3) := by decide +kernel
theorem dX2_clause_132 : decode cX2_clause 132 = .ok (.aload_n 0, 1) := by decide +kernel
theorem dX2_clause_133 : decode cX2_clause 133 = .ok (.getfield 31, 3) := by decide +kernel
theorem dX2_clause_136 : decode cX2_clause 136 = .ok (.iconst 5, 1) := by decide +kernel
theorem dX2_clause_137 : decode cX2_clause 137 = .ok (.if_icmp .ge 27, 3) := by decide +kernel
theorem dX2_clause_140 : decode cX2_clause 140 = .ok (.aload_n 0, 1) := by decide +kernel
theorem dX2_clause_141 : decode cX2_clause 141 = .ok (.getfield 37, 3) := by decide +kernel
theorem dX2_clause_144 : decode cX2_clause 144 = .ok (.invokevirtual 53, 3) := by decide +kernel
theorem dX2_clause_147 : decode cX2_clause 147 = .ok (.aload_n 0, 1) := by decide +kernel
theorem dX2_clause_148 : decode cX2_clause 148 = .ok (.invokevirtual 113, 3) := by decide +kernel
theorem dX2_clause_151 : decode cX2_clause 151 = .ok (.aload_n 0, 1) := by decide +kernel
theorem dX2_clause_152 : decode cX2_clause 152 = .ok (.dup, 1) := by decide +kernel
theorem dX2_clause_153 : decode cX2_clause 153 = .ok (.getfield 31, 3) := by decide +kernel
theorem dX2_clause_156 : decode cX2_clause 156 = .ok (.iconst 1, 1) := by decide +kernel
theorem dX2_clause_157 : decode cX2_clause 157 = .ok (.iadd, 1) := by decide +kernel
theorem dX2_clause_158 : decode cX2_clause 158 = .ok (.putfield 31, 3) := by decide +kernel
theorem dX2_clause_161 : decode cX2_clause 161 = .ok (.goto 10, 3) := by decide +kernel
theorem dX2_clause_164 : decode cX2_clause 164 = .ok (.aload_n 0, 1) := by decide +kernel
theorem dX2_clause_165 : decode cX2_clause 165 = .ok (.getfield 37, 3) := by decide +kernel
theorem dX2_clause_168 : decode cX2_clause 168 = .ok (.invokevirtual 56, 3) := by decide +kernel
theorem dX2_clause_171 : decode cX2_clause 171 = .ok (.return_, 1) := by decide +kernel
theorem dX2_row_0 : decode cX2_row 0 = .ok (.iconst 0, 1) := by decide +kernel
theorem dX2_row_1 : decode cX2_row 1 = .ok (.istore_n 1, 1) := by decide +kernel
theorem dX2_row_2 : decode cX2_row 2 = .ok (.iconst 0, 1) := by decide +kernel
theorem dX2_row_3 : decode cX2_row 3 = .ok (.istore_n 2, 1) := by decide +kernel
theorem dX2_row_4 : decode cX2_row 4 = .ok (.iload_n 2, 1) := by decide +kernel
theorem dX2_row_5 : decode cX2_row 5 = .ok (.bipush 6, 2) := by decide +kernel
theorem dX2_row_7 : decode cX2_row 7 = .ok (.if_icmp .gt 72, 3) := by decide +kernel
theorem dX2_row_10 : decode cX2_row 10 = .ok (.aload_n 0, 1) := by decide +kernel
theorem dX2_row_11 : decode cX2_row 11 = .ok (.getfield 37, 3) := by decide +kernel
theorem dX2_row_14 : decode cX2_row 14 = .ok (.invokevirtual 47, 3) := by decide +kernel
theorem dX2_row_17 : decode cX2_row 17 = .ok (.invokestatic 116, 3) := by decide +kernel
theorem dX2_row_20 : decode cX2_row 20 = .ok (.ifCond .eq 59, 3) := by decide +kernel
theorem dX2_row_23 : decode cX2_row 23 = .ok (.iload_n 1, 1) := by decide +kernel
theorem dX2_row_24 : decode cX2_row 24 = .ok (.bipush 6, 2) := by decide +kernel
theorem dX2_row_26 : decode cX2_row 26 = .ok (.if_icmp .ge 40, 3) := by decide +kernel
theorem dX2_row_29 : decode cX2_row 29 = .ok (.aload_n 0, 1) := by decide +kernel
theorem dX2_row_30 : decode cX2_row 30 = .ok (.getfield 20, 3) := by decide +kernel
theorem dX2_row_33 : decode cX2_row 33 = .ok (.aload_n 0, 1) := by decide +kernel
theorem dX2_row_34 : decode cX2_row 34 = .ok (.getfield 31, 3) := by decide +kernel
theorem dX2_row_37 : decode cX2_row 37 = .ok (.bipush 6, 2) := by decide +kernel
theorem dX2_row_39 : decode cX2_row 39 = .ok (.imul, 1) := by decide +kernel
theorem dX2_row_40 : decode cX2_row 40 = .ok (.iload_n 1, 1) := by decide +kernel
theorem dX2_row_41 : decode cX2_row 41 = .ok (.iadd, 1) := by decide +kernel
theorem dX2_row_42 : decode cX2_row 42 = .ok (.aload_n 0, 1) := by decide +kernel
theorem dX2_row_43 : decode cX2_row 43 = .ok (.getfield 37, 3) := by decide +kernel
theorem dX2_row_46 : decode cX2_row 46 = .ok (.invokevirtual 47, 3) := by decide +kernel
theorem dX2_row_49 : decode cX2_row 49 = .ok (.bipush 48, 2) := by decide +kernel
theorem dX2_row_51 : decode cX2_row 51 = .ok (.isub, 1) := by decide +kernel
theorem dX2_row_52 : decode cX2_row 52 = .ok (.iastore, 1) := by decide +kernel
theorem dX2_row_53 : decode cX2_row 53 = .ok (.iinc 1 1, 3) := by decide +kernel
theorem dX2_row_56 : decode cX2_row 56 = .ok (.aload_n 0, 1) := by decide +kernel
theorem dX2_row_57 : decode cX2_row 57 = .ok (.getfield 37, 3) := by decide +kernel
theorem dX2_row_60 : decode cX2_row 60 = .ok (.invokevirtual 53, 3) := by decide +kernel
theorem dX2_row_63 : decode cX2_row 63 = .ok (.goto 10, 3) := by decide +kernel
theorem dX2_row_66 : decode cX2_row 66 = .ok (.aload_n 0, 1) := by decide +kernel
theorem dX2_row_67 : decode cX2_row 67 = .ok (.getfield 37, 3) := by decide +kernel
theorem dX2_row_70 : decode cX2_row 70 = .ok (.invokevirtual 56, 3) := by decide +kernel
theorem dX2_row_73 : decode cX2_row 73 = .ok (.iinc 2 1, 3) := by decide +kernel
theorem dX2_row_76 : decode cX2_row 76 = .ok (.goto (-72), 3) := by decide +kernel
theorem dX2_row_79 : decode cX2_row 79 = .ok (.aload_n 0, 1) := by decide +kernel
theorem dX2_row_80 : decode cX2_row 80 = .ok (.aload_n 0, 1) := by decide +kernel
theorem dX2_row_81 : decode cX2_row 81 = .ok (.getfield 34, 3) := by decide +kernel
theorem dX2_row_84 : decode cX2_row 84 = .ok (.iload_n 1, 1) := by decide +kernel
theorem dX2_row_85 : decode cX2_row 85 = .ok (.invokestatic 120, 3) := by decide +kernel
theorem dX2_row_88 : decode cX2_row 88 = .ok (.putfield 34, 3) := by decide +kernel
theorem dX2_row_91 : decode cX2_row 91 = .ok (.return_, 1) := by decide +kernel
theorem dX2_items_0 : decode cX2_items 0 = .ok (.iconst 0, 1) := by decide +kernel
theorem dX2_items_1 : decode cX2_items 1 = .ok (.istore 6, 2) := by decide +kernel
theorem dX2_items_3 : decode cX2_items 3 = .ok (.iconst 0, 1) := by decide +kernel
theorem dX2_items_4 : decode cX2_items 4 = .ok (.istore 7, 2) := by decide +kernel
theorem dX2_items_6 : decode cX2_items 6 = .ok (.iload 7, 2) := by decide +kernel
theorem dX2_items_8 : decode cX2_items 8 = .ok (.iconst 4, 1) := by decide +kernel
theorem dX2_items_9 : decode cX2_items 9 = .ok (.if_icmp .gt 111, 3) := by decide +kernel
theorem dX2_items_12 : decode cX2_items 12 = .ok (.aload_n 0, 1) := by decide +kernel
theorem dX2_items_13 : decode cX2_items 13 = .ok (.getfield 37, 3) := by decide +kernel
theorem dX2_items_16 : decode cX2_items 16 = .ok (.invokevirtual 47, 3) := by decide +kernel
theorem dX2_items_19 : decode cX2_items 19 = .ok (.iconst (-1), 1) := by decide +kernel
theorem dX2_items_20 : decode cX2_items 20 = .ok (.if_icmp .eq 100, 3) := by decide +kernel
theorem dX2_items_23 : decode cX2_items 23 = .ok (.aload_n 0, 1) := by decide +kernel
theorem dX2_items_24 : decode cX2_items 24 = .ok (.getfield 37, 3) := by decide +kernel
theorem dX2_items_27 : decode cX2_items 27 = .ok (.invokevirtual 47, 3) := by decide +kernel
theorem dX2_items_30 : decode cX2_items 30 = .ok (.bipush 59, 2) := by decide +kernel
theorem dX2_items_32 : decode cX2_items 32 = .ok (.if_icmp .eq 88, 3) := by decide +kernel
theorem dX2_items_35 : decode cX2_items 35 = .ok (.aload_n 0, 1) := by decide +kernel
theorem dX2_items_36 : decode cX2_items 36 = .ok (.getfield 37, 3) := by decide +kernel
theorem dX2_items_39 : decode cX2_items 39 = .ok (.invokevirtual 47, 3) := by decide +kernel
theorem dX2_items_42 : decode cX2_items 42 = .ok (.aload_n 1, 1) := by decide +kernel
theorem dX2_items_43 : decode cX2_items 43 = .ok (.invokestatic 126, 3) := by decide +kernel
theorem dX2_items_46 : decode cX2_items 46 = .ok (.istore 8, 2) := by decide +kernel
theorem dX2_items_48 : decode cX2_items 48 = .ok (.iload 8, 2) := by decide +kernel
theorem dX2_items_50 : decode cX2_items 50 = .ok (.iconst (-1), 1) := by decide +kernel
theorem dX2_items_51 : decode cX2_items 51 = .ok (.if_icmp .eq 14, 3) := by decide +kernel
theorem dX2_items_54 : decode cX2_items 54 = .ok (.iload 6, 2) := by decide +kernel
theorem dX2_items_56 : decode cX2_items 56 = .ok (.iload 8, 2) := by decide +kernel
theorem dX2_items_58 : decode cX2_items 58 = .ok (.ishr, 1) := by decide +kernel
theorem dX2_items_59 : decode cX2_items 59 = .ok (.iconst 1, 1) := by decide +kernel
theorem dX2_items_60 : decode cX2_items 60 = .ok (.iand, 1) := by decide +kernel
theorem dX2_items_61 : decode cX2_items 61 = .ok (.iconst 1, 1) := by decide +kernel
theorem dX2_items_62 : decode cX2_items 62 = .ok (.if_icmp .ne 13, 3) := by decide +kernel
theorem dX2_items_65 : decode cX2_items 65 = .ok (.aload_n 0, 1) := by decide +kernel
theorem dX2_items_66 : decode cX2_items 66 = .ok (.getfield 37, 3) := by decide +kernel
theorem dX2_items_69 : decode cX2_items 69 = .ok (.invokevirtual 56, 3) := by decide +kernel
theorem dX2_items_72 : decode cX2_items 72 = .ok (.goto 42, 3) := by decide +kernel
theorem dX2_items_75 : decode cX2_items 75 = .ok (.iload 6, 2) := by decide +kernel
theorem dX2_items_77 : decode cX2_items 77 = .ok (.iconst 1, 1) := by decide +kernel
theorem dX2_items_78 : decode cX2_items 78 = .ok (.iload 8, 2) := by decide +kernel
theorem dX2_items_80 : decode cX2_items 80 = .ok (.ishl, 1) := by decide +kernel
theorem dX2_items_81 : decode cX2_items 81 = .ok (.ior, 1) := by decide +kernel
theorem dX2_items_82 : decode cX2_items 82 = .ok (.istore 6, 2) := by decide +kernel
theorem dX2_items_84 : decode cX2_items 84 = .ok (.aload_n 0, 1) := by decide +kernel
theorem dX2_items_85 : decode cX2_items 85 = .ok (.getfield 37, 3) := by decide +kernel
theorem dX2_items_88 : decode cX2_items 88 = .ok (.invokevirtual 53, 3) := by decide +kernel
theorem dX2_items_91 : decode cX2_items 91 = .ok (.aload 4, 2) := by decide +kernel
theorem dX2_items_93 : decode cX2_items 93 = .ok (.iload 5, 2) := by decide +kernel
theorem dX2_items_95 : decode cX2_items 95 = .ok (.iload 8, 2) := by decide +kernel
theorem dX2_items_97 : decode cX2_items 97 = .ok (.iadd, 1) := by decide +kernel
theorem dX2_items_98 : decode cX2_items 98 = .ok (.aload_n 0, 1) := by decide +kernel
theorem dX2_items_99 : decode cX2_items 99 = .ok (.getfield 37, 3) := by decide +kernel
theorem dX2_items_102 : decode cX2_items 102 = .ok (.aload_n 2, 1) := by decide +kernel
theorem dX2_items_103 : decode cX2_items 103 = .ok (.iload 8, 2) := by decide +kernel
theorem dX2_items_105 : decode cX2_items 105 = .ok (.iaload, 1) := by decide +kernel
theorem dX2_items_106 : decode cX2_items 106 = .ok (.aload_n 3, 1) := by decide +kernel
theorem dX2_items_107 : decode cX2_items 107 = .ok (.iload 8, 2) := by decide +kernel
theorem dX2_items_109 : decode cX2_items 109 = .ok (.iaload, 1) := by decide +kernel
theorem dX2_items_110 : decode cX2_items 110 = .ok (.invokevirtual 130, 3) := by decide +kernel
theorem dX2_items_113 : decode cX2_items 113 = .ok (.iastore, 1) := by decide +kernel
theorem dX2_items_114 : decode cX2_items 114 = .ok (.iinc 7 1, 3) := by decide +kernel
theorem dX2_items_117 : decode cX2_items 117 = .ok (.goto (-111), 3) := by decide +kernel
theorem dX2_items_120 : decode cX2_items 120 = .ok (.return_, 1) := by decide +kernel
theorem dX2_placeOf_0 : decode cX2_placeOf 0 = .ok (.iconst 0, 1) := by decide +kernel
theorem dX2_placeOf_1 : decode cX2_placeOf 1 = .ok (.istore_n 2, 1) := by decide +kernel
theorem dX2_placeOf_2 : decode cX2_placeOf 2 = .ok (.iload_n 2, 1) := by decide +kernel
theorem dX2_placeOf_3 : decode cX2_placeOf 3 = .ok (.aload_n 1, 1) := by decide +kernel
theorem dX2_placeOf_4 : decode cX2_placeOf 4 = .ok (.arraylength, 1) := by decide +kernel
theorem dX2_placeOf_5 : decode cX2_placeOf 5 = .ok (.if_icmp .ge 18, 3) := by decide +kernel
theorem dX2_placeOf_8 : decode cX2_placeOf 8 = .ok (.aload_n 1, 1) := by decide +kernel
theorem dX2_placeOf_9 : decode cX2_placeOf 9 = .ok (.iload_n 2, 1) := by decide +kernel
theorem dX2_placeOf_10 : decode cX2_placeOf 10 = .ok (.caload, 1) := by decide +kernel
theorem dX2_placeOf_11 : decode cX2_placeOf 11 = .ok (.iload_n 0, 1) := by decide +kernel
theorem dX2_placeOf_12 : decode cX2_placeOf 12 = .ok (.if_icmp .ne 5, 3) := by decide +kernel
theorem dX2_placeOf_15 : decode cX2_placeOf 15 = .ok (.iload_n 2, 1) := by decide +kernel
theorem dX2_placeOf_16 : decode cX2_placeOf 16 = .ok (.ireturn, 1) := by decide +kernel
theorem dX2_placeOf_17 : decode cX2_placeOf 17 = .ok (.iinc 2 1, 3) := by decide +kernel
theorem dX2_placeOf_20 : decode cX2_placeOf 20 = .ok (.goto (-18), 3) := by decide +kernel
theorem dX2_placeOf_23 : decode cX2_placeOf 23 = .ok (.iconst (-1), 1) := by decide +kernel
theorem dX2_placeOf_24 : decode cX2_placeOf 24 = .ok (.ireturn, 1) := by decide +kernel
theorem dX2_fitsTogether_0 : decode cX2_fitsTogether 0 = .ok (.aload_n 0, 1) := by decide +kernel
theorem dX2_fitsTogether_1 : decode cX2_fitsTogether 1 = .ok (.getfield 27, 3) := by decide +kernel
theorem dX2_fitsTogether_4 : decode cX2_fitsTogether 4 = .ok (.ifCond .eq 29, 3) := by decide +kernel
theorem dX2_fitsTogether_7 : decode cX2_fitsTogether 7 = .ok (.aload_n 0, 1) := by decide +kernel
theorem dX2_fitsTogether_8 : decode cX2_fitsTogether 8 = .ok (.getfield 31, 3) := by decide +kernel
theorem dX2_fitsTogether_11 : decode cX2_fitsTogether 11 = .ok (.aload_n 0, 1) := by decide +kernel
theorem dX2_fitsTogether_12 : decode cX2_fitsTogether 12 = .ok (.getfield 11, 3) := by decide +kernel
theorem dX2_fitsTogether_15 : decode cX2_fitsTogether 15 = .ok (.iconst 1, 1) := by decide +kernel
theorem dX2_fitsTogether_16 : decode cX2_fitsTogether 16 = .ok (.iaload, 1) := by decide +kernel
theorem dX2_fitsTogether_17 : decode cX2_fitsTogether 17 = .ok (.if_icmp .gt 16, 3) := by decide +kernel
theorem dX2_fitsTogether_20 : decode cX2_fitsTogether 20 = .ok (.aload_n 0, 1) := by decide +kernel
theorem dX2_fitsTogether_21 : decode cX2_fitsTogether 21 = .ok (.getfield 34, 3) := by decide +kernel
theorem dX2_fitsTogether_24 : decode cX2_fitsTogether 24 = .ok (.aload_n 0, 1) := by decide +kernel
theorem dX2_fitsTogether_25 : decode cX2_fitsTogether 25 = .ok (.getfield 11, 3) := by decide +kernel
theorem dX2_fitsTogether_28 : decode cX2_fitsTogether 28 = .ok (.iconst 0, 1) := by decide +kernel
theorem dX2_fitsTogether_29 : decode cX2_fitsTogether 29 = .ok (.iaload, 1) := by decide +kernel
theorem dX2_fitsTogether_30 : decode cX2_fitsTogether 30 = .ok (.if_icmp .le 5, 3) := by decide +kernel
theorem dX2_fitsTogether_33 : decode cX2_fitsTogether 33 = .ok (.iconst 0, 1) := by decide +kernel
theorem dX2_fitsTogether_34 : decode cX2_fitsTogether 34 = .ok (.ireturn, 1) := by decide +kernel
theorem dX2_fitsTogether_35 : decode cX2_fitsTogether 35 = .ok (.iconst 0, 1) := by decide +kernel
theorem dX2_fitsTogether_36 : decode cX2_fitsTogether 36 = .ok (.istore_n 1, 1) := by decide +kernel
theorem dX2_fitsTogether_37 : decode cX2_fitsTogether 37 = .ok (.iload_n 1, 1) := by decide +kernel
theorem dX2_fitsTogether_38 : decode cX2_fitsTogether 38 = .ok (.aload_n 0, 1) := by decide +kernel
theorem dX2_fitsTogether_39 : decode cX2_fitsTogether 39 = .ok (.getfield 27, 3) := by decide +kernel
theorem dX2_fitsTogether_42 : decode cX2_fitsTogether 42 = .ok (.if_icmp .ge 47, 3) := by decide +kernel
theorem dX2_fitsTogether_45 : decode cX2_fitsTogether 45 = .ok (.aload_n 0, 1) := by decide +kernel
theorem dX2_fitsTogether_46 : decode cX2_fitsTogether 46 = .ok (.getfield 17, 3) := by decide +kernel
theorem dX2_fitsTogether_49 : decode cX2_fitsTogether 49 = .ok (.iload_n 1, 1) := by decide +kernel
theorem dX2_fitsTogether_50 : decode cX2_fitsTogether 50 = .ok (.iconst 4, 1) := by decide +kernel
theorem dX2_fitsTogether_51 : decode cX2_fitsTogether 51 = .ok (.imul, 1) := by decide +kernel
theorem dX2_fitsTogether_52 : decode cX2_fitsTogether 52 = .ok (.iaload, 1) := by decide +kernel
theorem dX2_fitsTogether_53 : decode cX2_fitsTogether 53 = .ok (.aload_n 0, 1) := by decide +kernel
theorem dX2_fitsTogether_54 : decode cX2_fitsTogether 54 = .ok (.getfield 11, 3) := by decide +kernel
theorem dX2_fitsTogether_57 : decode cX2_fitsTogether 57 = .ok (.iconst 0, 1) := by decide +kernel
theorem dX2_fitsTogether_58 : decode cX2_fitsTogether 58 = .ok (.iaload, 1) := by decide +kernel
theorem dX2_fitsTogether_59 : decode cX2_fitsTogether 59 = .ok (.if_icmp .ge 22, 3) := by decide +kernel
theorem dX2_fitsTogether_62 : decode cX2_fitsTogether 62 = .ok (.aload_n 0, 1) := by decide +kernel
theorem dX2_fitsTogether_63 : decode cX2_fitsTogether 63 = .ok (.getfield 17, 3) := by decide +kernel
theorem dX2_fitsTogether_66 : decode cX2_fitsTogether 66 = .ok (.iload_n 1, 1) := by decide +kernel
theorem dX2_fitsTogether_67 : decode cX2_fitsTogether 67 = .ok (.iconst 4, 1) := by decide +kernel
theorem dX2_fitsTogether_68 : decode cX2_fitsTogether 68 = .ok (.imul, 1) := by decide +kernel
theorem dX2_fitsTogether_69 : decode cX2_fitsTogether 69 = .ok (.iconst 1, 1) := by decide +kernel
theorem dX2_fitsTogether_70 : decode cX2_fitsTogether 70 = .ok (.iadd, 1) := by decide +kernel
theorem dX2_fitsTogether_71 : decode cX2_fitsTogether 71 = .ok (.iaload, 1) := by decide +kernel
theorem dX2_fitsTogether_72 : decode cX2_fitsTogether 72 = .ok (.aload_n 0, 1) := by decide +kernel
theorem dX2_fitsTogether_73 : decode cX2_fitsTogether 73 = .ok (.getfield 11, 3) := by decide +kernel
theorem dX2_fitsTogether_76 : decode cX2_fitsTogether 76 = .ok (.iconst 1, 1) := by decide +kernel
theorem dX2_fitsTogether_77 : decode cX2_fitsTogether 77 = .ok (.iaload, 1) := by decide +kernel
theorem dX2_fitsTogether_78 : decode cX2_fitsTogether 78 = .ok (.if_icmp .lt 5, 3) := by decide +kernel
theorem dX2_fitsTogether_81 : decode cX2_fitsTogether 81 = .ok (.iconst 0, 1) := by decide +kernel
theorem dX2_fitsTogether_82 : decode cX2_fitsTogether 82 = .ok (.ireturn, 1) := by decide +kernel
theorem dX2_fitsTogether_83 : decode cX2_fitsTogether 83 = .ok (.iinc 1 1, 3) := by decide +kernel
theorem dX2_fitsTogether_86 : decode cX2_fitsTogether 86 = .ok (.goto (-49), 3) := by decide +kernel
theorem dX2_fitsTogether_89 : decode cX2_fitsTogether 89 = .ok (.iconst 1, 1) := by decide +kernel
theorem dX2_fitsTogether_90 : decode cX2_fitsTogether 90 = .ok (.ireturn, 1) := by decide +kernel
theorem dX2_lay_0 : decode cX2_lay 0 = .ok (.aload_n 1, 1) := by decide +kernel
theorem dX2_lay_1 : decode cX2_lay 1 = .ok (.aload_n 0, 1) := by decide +kernel
theorem dX2_lay_2 : decode cX2_lay 2 = .ok (.getfield 11, 3) := by decide +kernel
theorem dX2_lay_5 : decode cX2_lay 5 = .ok (.iconst 0, 1) := by decide +kernel
theorem dX2_lay_6 : decode cX2_lay 6 = .ok (.iaload, 1) := by decide +kernel
theorem dX2_lay_7 : decode cX2_lay 7 = .ok (.aload_n 0, 1) := by decide +kernel
theorem dX2_lay_8 : decode cX2_lay 8 = .ok (.getfield 11, 3) := by decide +kernel
theorem dX2_lay_11 : decode cX2_lay 11 = .ok (.iconst 1, 1) := by decide +kernel
theorem dX2_lay_12 : decode cX2_lay 12 = .ok (.iaload, 1) := by decide +kernel
theorem dX2_lay_13 : decode cX2_lay 13 = .ok (.aload_n 0, 1) := by decide +kernel
theorem dX2_lay_14 : decode cX2_lay 14 = .ok (.getfield 27, 3) := by decide +kernel
theorem dX2_lay_17 : decode cX2_lay 17 = .ok (.invokevirtual 133, 3) := by decide +kernel
theorem dX2_lay_20 : decode cX2_lay 20 = .ok (.aload_n 1, 1) := by decide +kernel
theorem dX2_lay_21 : decode cX2_lay 21 = .ok (.aload_n 0, 1) := by decide +kernel
theorem dX2_lay_22 : decode cX2_lay 22 = .ok (.getfield 11, 3) := by decide +kernel
theorem dX2_lay_25 : decode cX2_lay 25 = .ok (.iconst 2, 1) := by decide +kernel
theorem dX2_lay_26 : decode cX2_lay 26 = .ok (.iaload, 1) := by decide +kernel
theorem dX2_lay_27 : decode cX2_lay 27 = .ok (.putfield 137, 3) := by decide +kernel
theorem dX2_lay_30 : decode cX2_lay 30 = .ok (.aload_n 1, 1) := by decide +kernel
theorem dX2_lay_31 : decode cX2_lay 31 = .ok (.aload_n 0, 1) := by decide +kernel
theorem dX2_lay_32 : decode cX2_lay 32 = .ok (.getfield 11, 3) := by decide +kernel
theorem dX2_lay_35 : decode cX2_lay 35 = .ok (.iconst 3, 1) := by decide +kernel
theorem dX2_lay_36 : decode cX2_lay 36 = .ok (.iaload, 1) := by decide +kernel
theorem dX2_lay_37 : decode cX2_lay 37 = .ok (.putfield 140, 3) := by decide +kernel
theorem dX2_lay_40 : decode cX2_lay 40 = .ok (.iconst 0, 1) := by decide +kernel
theorem dX2_lay_41 : decode cX2_lay 41 = .ok (.istore_n 2, 1) := by decide +kernel
theorem dX2_lay_42 : decode cX2_lay 42 = .ok (.iload_n 2, 1) := by decide +kernel
theorem dX2_lay_43 : decode cX2_lay 43 = .ok (.aload_n 1, 1) := by decide +kernel
theorem dX2_lay_44 : decode cX2_lay 44 = .ok (.getfield 143, 3) := by decide +kernel
theorem dX2_lay_47 : decode cX2_lay 47 = .ok (.if_icmp .ge 34, 3) := by decide +kernel
theorem dX2_lay_50 : decode cX2_lay 50 = .ok (.aload_n 0, 1) := by decide +kernel
theorem dX2_lay_51 : decode cX2_lay 51 = .ok (.getfield 20, 3) := by decide +kernel
theorem dX2_lay_54 : decode cX2_lay 54 = .ok (.iload_n 2, 1) := by decide +kernel
theorem dX2_lay_55 : decode cX2_lay 55 = .ok (.bipush 6, 2) := by decide +kernel
theorem dX2_lay_57 : decode cX2_lay 57 = .ok (.imul, 1) := by decide +kernel
theorem dX2_lay_58 : decode cX2_lay 58 = .ok (.aload_n 1, 1) := by decide +kernel
theorem dX2_lay_59 : decode cX2_lay 59 = .ok (.getfield 144, 3) := by decide +kernel
theorem dX2_lay_62 : decode cX2_lay 62 = .ok (.iload_n 2, 1) := by decide +kernel
theorem dX2_lay_63 : decode cX2_lay 63 = .ok (.aload_n 1, 1) := by decide +kernel
theorem dX2_lay_64 : decode cX2_lay 64 = .ok (.getfield 147, 3) := by decide +kernel
theorem dX2_lay_67 : decode cX2_lay 67 = .ok (.imul, 1) := by decide +kernel
theorem dX2_lay_68 : decode cX2_lay 68 = .ok (.aload_n 1, 1) := by decide +kernel
theorem dX2_lay_69 : decode cX2_lay 69 = .ok (.getfield 147, 3) := by decide +kernel
theorem dX2_lay_72 : decode cX2_lay 72 = .ok (.invokestatic 81, 3) := by decide +kernel
theorem dX2_lay_75 : decode cX2_lay 75 = .ok (.iinc 2 1, 3) := by decide +kernel
theorem dX2_lay_78 : decode cX2_lay 78 = .ok (.goto (-36), 3) := by decide +kernel
theorem dX2_lay_81 : decode cX2_lay 81 = .ok (.iconst 0, 1) := by decide +kernel
theorem dX2_lay_82 : decode cX2_lay 82 = .ok (.istore_n 2, 1) := by decide +kernel
theorem dX2_lay_83 : decode cX2_lay 83 = .ok (.iload_n 2, 1) := by decide +kernel
theorem dX2_lay_84 : decode cX2_lay 84 = .ok (.aload_n 0, 1) := by decide +kernel
theorem dX2_lay_85 : decode cX2_lay 85 = .ok (.getfield 27, 3) := by decide +kernel
theorem dX2_lay_88 : decode cX2_lay 88 = .ok (.if_icmp .ge 67, 3) := by decide +kernel
theorem dX2_lay_91 : decode cX2_lay 91 = .ok (.iload_n 2, 1) := by decide +kernel
theorem dX2_lay_92 : decode cX2_lay 92 = .ok (.iconst 4, 1) := by decide +kernel
theorem dX2_lay_93 : decode cX2_lay 93 = .ok (.imul, 1) := by decide +kernel
theorem dX2_lay_94 : decode cX2_lay 94 = .ok (.istore_n 3, 1) := by decide +kernel
theorem dX2_lay_95 : decode cX2_lay 95 = .ok (.aload_n 1, 1) := by decide +kernel
theorem dX2_lay_96 : decode cX2_lay 96 = .ok (.getfield 150, 3) := by decide +kernel
theorem dX2_lay_99 : decode cX2_lay 99 = .ok (.iload_n 2, 1) := by decide +kernel
theorem dX2_lay_100 : decode cX2_lay 100 = .ok (.aload_n 0, 1) := by decide +kernel
theorem dX2_lay_101 : decode cX2_lay 101 = .ok (.getfield 17, 3) := by decide +kernel
theorem dX2_lay_104 : decode cX2_lay 104 = .ok (.iload_n 3, 1) := by decide +kernel
theorem dX2_lay_105 : decode cX2_lay 105 = .ok (.iconst 1, 1) := by decide +kernel
theorem dX2_lay_106 : decode cX2_lay 106 = .ok (.iadd, 1) := by decide +kernel
theorem dX2_lay_107 : decode cX2_lay 107 = .ok (.iaload, 1) := by decide +kernel
theorem dX2_lay_108 : decode cX2_lay 108 = .ok (.aload_n 1, 1) := by decide +kernel
theorem dX2_lay_109 : decode cX2_lay 109 = .ok (.getfield 147, 3) := by decide +kernel
theorem dX2_lay_112 : decode cX2_lay 112 = .ok (.imul, 1) := by decide +kernel
theorem dX2_lay_113 : decode cX2_lay 113 = .ok (.aload_n 0, 1) := by decide +kernel
theorem dX2_lay_114 : decode cX2_lay 114 = .ok (.getfield 17, 3) := by decide +kernel
theorem dX2_lay_117 : decode cX2_lay 117 = .ok (.iload_n 3, 1) := by decide +kernel
theorem dX2_lay_118 : decode cX2_lay 118 = .ok (.iaload, 1) := by decide +kernel
theorem dX2_lay_119 : decode cX2_lay 119 = .ok (.iadd, 1) := by decide +kernel
theorem dX2_lay_120 : decode cX2_lay 120 = .ok (.iastore, 1) := by decide +kernel
theorem dX2_lay_121 : decode cX2_lay 121 = .ok (.aload_n 1, 1) := by decide +kernel
theorem dX2_lay_122 : decode cX2_lay 122 = .ok (.getfield 153, 3) := by decide +kernel
theorem dX2_lay_125 : decode cX2_lay 125 = .ok (.iload_n 2, 1) := by decide +kernel
theorem dX2_lay_126 : decode cX2_lay 126 = .ok (.aload_n 0, 1) := by decide +kernel
theorem dX2_lay_127 : decode cX2_lay 127 = .ok (.getfield 17, 3) := by decide +kernel
theorem dX2_lay_130 : decode cX2_lay 130 = .ok (.iload_n 3, 1) := by decide +kernel
theorem dX2_lay_131 : decode cX2_lay 131 = .ok (.iconst 2, 1) := by decide +kernel
theorem dX2_lay_132 : decode cX2_lay 132 = .ok (.iadd, 1) := by decide +kernel
theorem dX2_lay_133 : decode cX2_lay 133 = .ok (.iaload, 1) := by decide +kernel
theorem dX2_lay_134 : decode cX2_lay 134 = .ok (.iastore, 1) := by decide +kernel
theorem dX2_lay_135 : decode cX2_lay 135 = .ok (.aload_n 1, 1) := by decide +kernel
theorem dX2_lay_136 : decode cX2_lay 136 = .ok (.getfield 156, 3) := by decide +kernel
theorem dX2_lay_139 : decode cX2_lay 139 = .ok (.iload_n 2, 1) := by decide +kernel
theorem dX2_lay_140 : decode cX2_lay 140 = .ok (.aload_n 0, 1) := by decide +kernel
theorem dX2_lay_141 : decode cX2_lay 141 = .ok (.getfield 17, 3) := by decide +kernel
theorem dX2_lay_144 : decode cX2_lay 144 = .ok (.iload_n 3, 1) := by decide +kernel
theorem dX2_lay_145 : decode cX2_lay 145 = .ok (.iconst 3, 1) := by decide +kernel
theorem dX2_lay_146 : decode cX2_lay 146 = .ok (.iadd, 1) := by decide +kernel
theorem dX2_lay_147 : decode cX2_lay 147 = .ok (.iaload, 1) := by decide +kernel
theorem dX2_lay_148 : decode cX2_lay 148 = .ok (.iastore, 1) := by decide +kernel
theorem dX2_lay_149 : decode cX2_lay 149 = .ok (.iinc 2 1, 3) := by decide +kernel
theorem dX2_lay_152 : decode cX2_lay 152 = .ok (.goto (-69), 3) := by decide +kernel
theorem dX2_lay_155 : decode cX2_lay 155 = .ok (.return_, 1) := by decide +kernel
theorem dX3_init_0 : decode cX3_init 0 = .ok (.aload_n 0, 1) := by decide +kernel
theorem dX3_init_1 : decode cX3_init 1 = .ok (.invokespecial 3, 3) := by decide +kernel
theorem dX3_init_4 : decode cX3_init 4 = .ok (.aload_n 0, 1) := by decide +kernel
theorem dX3_init_5 : decode cX3_init 5 = .ok (.bipush 40, 2) := by decide +kernel
theorem dX3_init_7 : decode cX3_init 7 = .ok (.newarray .int, 2) := by decide +kernel
theorem dX3_init_9 : decode cX3_init 9 = .ok (.putfield 11, 3) := by decide +kernel
theorem dX3_init_12 : decode cX3_init 12 = .ok (.aload_n 0, 1) := by decide +kernel
theorem dX3_init_13 : decode cX3_init 13 = .ok (.aload_n 1, 1) := by decide +kernel
theorem dX3_init_14 : decode cX3_init 14 = .ok (.putfield 15, 3) := by decide +kernel
theorem dX3_init_17 : decode cX3_init 17 = .ok (.return_, 1) := by decide +kernel
theorem dX3_letterOf_0 : decode cX3_letterOf 0 = .ok (.iload_n 0, 1) := by decide +kernel
theorem dX3_letterOf_1 : decode cX3_letterOf 1 = .ok (.tableswitch 63 102 110 #[53, 57, 55, 63, 63, 63, 51, 59, 61], 51) := by decide +kernel
theorem dX3_letterOf_52 : decode cX3_letterOf 52 = .ok (.iconst 0, 1) := by decide +kernel
theorem dX3_letterOf_53 : decode cX3_letterOf 53 = .ok (.ireturn, 1) := by decide +kernel
theorem dX3_letterOf_54 : decode cX3_letterOf 54 = .ok (.iconst 1, 1) := by decide +kernel
theorem dX3_letterOf_55 : decode cX3_letterOf 55 = .ok (.ireturn, 1) := by decide +kernel
theorem dX3_letterOf_56 : decode cX3_letterOf 56 = .ok (.iconst 2, 1) := by decide +kernel
theorem dX3_letterOf_57 : decode cX3_letterOf 57 = .ok (.ireturn, 1) := by decide +kernel
theorem dX3_letterOf_58 : decode cX3_letterOf 58 = .ok (.iconst 3, 1) := by decide +kernel
theorem dX3_letterOf_59 : decode cX3_letterOf 59 = .ok (.ireturn, 1) := by decide +kernel
theorem dX3_letterOf_60 : decode cX3_letterOf 60 = .ok (.iconst 4, 1) := by decide +kernel
theorem dX3_letterOf_61 : decode cX3_letterOf 61 = .ok (.ireturn, 1) := by decide +kernel
theorem dX3_letterOf_62 : decode cX3_letterOf 62 = .ok (.iconst 5, 1) := by decide +kernel
theorem dX3_letterOf_63 : decode cX3_letterOf 63 = .ok (.ireturn, 1) := by decide +kernel
theorem dX3_letterOf_64 : decode cX3_letterOf 64 = .ok (.iconst (-1), 1) := by decide +kernel
theorem dX3_letterOf_65 : decode cX3_letterOf 65 = .ok (.ireturn, 1) := by decide +kernel
theorem dX3_worth_0 : decode cX3_worth 0 = .ok (.iconst 0, 1) := by decide +kernel
theorem dX3_worth_1 : decode cX3_worth 1 = .ok (.istore_n 2, 1) := by decide +kernel
theorem dX3_worth_2 : decode cX3_worth 2 = .ok (.iconst 0, 1) := by decide +kernel
theorem dX3_worth_3 : decode cX3_worth 3 = .ok (.istore_n 3, 1) := by decide +kernel
theorem dX3_worth_4 : decode cX3_worth 4 = .ok (.iconst 0, 1) := by decide +kernel
theorem dX3_worth_5 : decode cX3_worth 5 = .ok (.istore 4, 2) := by decide +kernel
theorem dX3_worth_7 : decode cX3_worth 7 = .ok (.iload 4, 2) := by decide +kernel
theorem dX3_worth_9 : decode cX3_worth 9 = .ok (.aload_n 0, 1) := by decide +kernel
theorem dX3_worth_10 : decode cX3_worth 10 = .ok (.getfield 15, 3) := by decide +kernel
theorem dX3_worth_13 : decode cX3_worth 13 = .ok (.arraylength, 1) := by decide +kernel
theorem dX3_worth_14 : decode cX3_worth 14 = .ok (.if_icmp .ge 247, 3) := by decide +kernel
theorem dX3_worth_17 : decode cX3_worth 17 = .ok (.aload_n 0, 1) := by decide +kernel
theorem dX3_worth_18 : decode cX3_worth 18 = .ok (.getfield 15, 3) := by decide +kernel
theorem dX3_worth_21 : decode cX3_worth 21 = .ok (.iload 4, 2) := by decide +kernel
theorem dX3_worth_23 : decode cX3_worth 23 = .ok (.iaload, 1) := by decide +kernel
theorem dX3_worth_24 : decode cX3_worth 24 = .ok (.sipush 255, 3) := by decide +kernel
theorem dX3_worth_27 : decode cX3_worth 27 = .ok (.iand, 1) := by decide +kernel
theorem dX3_worth_28 : decode cX3_worth 28 = .ok (.istore 5, 2) := by decide +kernel
theorem dX3_worth_30 : decode cX3_worth 30 = .ok (.aload_n 0, 1) := by decide +kernel
theorem dX3_worth_31 : decode cX3_worth 31 = .ok (.getfield 15, 3) := by decide +kernel
theorem dX3_worth_34 : decode cX3_worth 34 = .ok (.iload 4, 2) := by decide +kernel
theorem dX3_worth_36 : decode cX3_worth 36 = .ok (.iaload, 1) := by decide +kernel
theorem dX3_worth_37 : decode cX3_worth 37 = .ok (.bipush 8, 2) := by decide +kernel
theorem dX3_worth_39 : decode cX3_worth 39 = .ok (.ishr, 1) := by decide +kernel
theorem dX3_worth_40 : decode cX3_worth 40 = .ok (.istore 6, 2) := by decide +kernel
theorem dX3_worth_42 : decode cX3_worth 42 = .ok (.iload_n 2, 1) := by decide +kernel
theorem dX3_worth_43 : decode cX3_worth 43 = .ok (.ifCond .eq 19, 3) := by decide +kernel
theorem dX3_worth_46 : decode cX3_worth 46 = .ok (.iload 5, 2) := by decide +kernel
theorem dX3_worth_48 : decode cX3_worth 48 = .ok (.bipush 59, 2) := by decide +kernel
theorem dX3_worth_50 : decode cX3_worth 50 = .ok (.if_icmp .eq 7, 3) := by decide +kernel
theorem dX3_worth_53 : decode cX3_worth 53 = .ok (.iconst 1, 1) := by decide +kernel
theorem dX3_worth_54 : decode cX3_worth 54 = .ok (.goto 4, 3) := by decide +kernel
theorem dX3_worth_57 : decode cX3_worth 57 = .ok (.iconst 0, 1) := by decide +kernel
theorem dX3_worth_58 : decode cX3_worth 58 = .ok (.istore_n 2, 1) := by decide +kernel
theorem dX3_worth_59 : decode cX3_worth 59 = .ok (.goto 196, 3) := by decide +kernel
theorem dX3_worth_62 : decode cX3_worth 62 = .ok (.iload 5, 2) := by decide +kernel
theorem dX3_worth_64 : decode cX3_worth 64 = .ok (.bipush 59, 2) := by decide +kernel
theorem dX3_worth_66 : decode cX3_worth 66 = .ok (.if_icmp .ne 20, 3) := by decide +kernel
theorem dX3_worth_69 : decode cX3_worth 69 = .ok (.iload_n 3, 1) := by decide +kernel
theorem dX3_worth_70 : decode cX3_worth 70 = .ok (.ifCond .le 14, 3) := by decide +kernel
theorem dX3_worth_73 : decode cX3_worth 73 = .ok (.aload_n 0, 1) := by decide +kernel
theorem dX3_worth_74 : decode cX3_worth 74 = .ok (.getfield 11, 3) := by decide +kernel
theorem dX3_worth_77 : decode cX3_worth 77 = .ok (.iload_n 3, 1) := by decide +kernel
theorem dX3_worth_78 : decode cX3_worth 78 = .ok (.iconst 1, 1) := by decide +kernel
theorem dX3_worth_79 : decode cX3_worth 79 = .ok (.isub, 1) := by decide +kernel
theorem dX3_worth_80 : decode cX3_worth 80 = .ok (.iaload, 1) := by decide +kernel
theorem dX3_worth_81 : decode cX3_worth 81 = .ok (.goto 4, 3) := by decide +kernel
theorem dX3_worth_84 : decode cX3_worth 84 = .ok (.iconst 0, 1) := by decide +kernel
theorem dX3_worth_85 : decode cX3_worth 85 = .ok (.ireturn, 1) := by decide +kernel
theorem dX3_worth_86 : decode cX3_worth 86 = .ok (.iload 5, 2) := by decide +kernel
theorem dX3_worth_88 : decode cX3_worth 88 = .ok (.bipush 63, 2) := by decide +kernel
theorem dX3_worth_90 : decode cX3_worth 90 = .ok (.if_icmp .ne 29, 3) := by decide +kernel
theorem dX3_worth_93 : decode cX3_worth 93 = .ok (.iload_n 3, 1) := by decide +kernel
theorem dX3_worth_94 : decode cX3_worth 94 = .ok (.ifCond .le 18, 3) := by decide +kernel
theorem dX3_worth_97 : decode cX3_worth 97 = .ok (.aload_n 0, 1) := by decide +kernel
theorem dX3_worth_98 : decode cX3_worth 98 = .ok (.getfield 11, 3) := by decide +kernel
theorem dX3_worth_101 : decode cX3_worth 101 = .ok (.iload_n 3, 1) := by decide +kernel
theorem dX3_worth_102 : decode cX3_worth 102 = .ok (.iconst 1, 1) := by decide +kernel
theorem dX3_worth_103 : decode cX3_worth 103 = .ok (.isub, 1) := by decide +kernel
theorem dX3_worth_104 : decode cX3_worth 104 = .ok (.iaload, 1) := by decide +kernel
theorem dX3_worth_105 : decode cX3_worth 105 = .ok (.ifCond .ne 7, 3) := by decide +kernel
theorem dX3_worth_108 : decode cX3_worth 108 = .ok (.iconst 1, 1) := by decide +kernel
theorem dX3_worth_109 : decode cX3_worth 109 = .ok (.goto 4, 3) := by decide +kernel
theorem dX3_worth_112 : decode cX3_worth 112 = .ok (.iconst 0, 1) := by decide +kernel
theorem dX3_worth_113 : decode cX3_worth 113 = .ok (.istore_n 2, 1) := by decide +kernel
theorem dX3_worth_114 : decode cX3_worth 114 = .ok (.iconst 0, 1) := by decide +kernel
theorem dX3_worth_115 : decode cX3_worth 115 = .ok (.istore_n 3, 1) := by decide +kernel
theorem dX3_worth_116 : decode cX3_worth 116 = .ok (.goto 139, 3) := by decide +kernel
theorem dX3_worth_119 : decode cX3_worth 119 = .ok (.iload 5, 2) := by decide +kernel
theorem dX3_worth_121 : decode cX3_worth 121 = .ok (.bipush 35, 2) := by decide +kernel
theorem dX3_worth_123 : decode cX3_worth 123 = .ok (.if_icmp .eq 10, 3) := by decide +kernel
theorem dX3_worth_126 : decode cX3_worth 126 = .ok (.iload 5, 2) := by decide +kernel
theorem dX3_worth_128 : decode cX3_worth 128 = .ok (.bipush 64, 2) := by decide +kernel
theorem dX3_worth_130 : decode cX3_worth 130 = .ok (.if_icmp .ne 56, 3) := by decide +kernel
theorem dX3_worth_133 : decode cX3_worth 133 = .ok (.iload_n 3, 1) := by decide +kernel
theorem dX3_worth_134 : decode cX3_worth 134 = .ok (.bipush 40, 2) := by decide +kernel
theorem dX3_worth_136 : decode cX3_worth 136 = .ok (.if_icmp .ge 119, 3) := by decide +kernel
theorem dX3_worth_139 : decode cX3_worth 139 = .ok (.iload 6, 2) := by decide +kernel
theorem dX3_worth_141 : decode cX3_worth 141 = .ok (.ifCond .lt 114, 3) := by decide +kernel
theorem dX3_worth_144 : decode cX3_worth 144 = .ok (.iload 5, 2) := by decide +kernel
theorem dX3_worth_146 : decode cX3_worth 146 = .ok (.bipush 35, 2) := by decide +kernel
theorem dX3_worth_148 : decode cX3_worth 148 = .ok (.if_icmp .eq 10, 3) := by decide +kernel
theorem dX3_worth_151 : decode cX3_worth 151 = .ok (.iload 6, 2) := by decide +kernel
theorem dX3_worth_153 : decode cX3_worth 153 = .ok (.aload_n 1, 1) := by decide +kernel
theorem dX3_worth_154 : decode cX3_worth 154 = .ok (.arraylength, 1) := by decide +kernel
theorem dX3_worth_155 : decode cX3_worth 155 = .ok (.if_icmp .ge 100, 3) := by decide +kernel
theorem dX3_worth_158 : decode cX3_worth 158 = .ok (.aload_n 0, 1) := by decide +kernel
theorem dX3_worth_159 : decode cX3_worth 159 = .ok (.getfield 11, 3) := by decide +kernel
theorem dX3_worth_162 : decode cX3_worth 162 = .ok (.iload_n 3, 1) := by decide +kernel
theorem dX3_worth_163 : decode cX3_worth 163 = .ok (.iload 5, 2) := by decide +kernel
theorem dX3_worth_165 : decode cX3_worth 165 = .ok (.bipush 35, 2) := by decide +kernel
theorem dX3_worth_167 : decode cX3_worth 167 = .ok (.if_icmp .ne 8, 3) := by decide +kernel
theorem dX3_worth_170 : decode cX3_worth 170 = .ok (.iload 6, 2) := by decide +kernel
theorem dX3_worth_172 : decode cX3_worth 172 = .ok (.goto 7, 3) := by decide +kernel
theorem dX3_worth_175 : decode cX3_worth 175 = .ok (.aload_n 1, 1) := by decide +kernel
theorem dX3_worth_176 : decode cX3_worth 176 = .ok (.iload 6, 2) := by decide +kernel
theorem dX3_worth_178 : decode cX3_worth 178 = .ok (.iaload, 1) := by decide +kernel
theorem dX3_worth_179 : decode cX3_worth 179 = .ok (.iastore, 1) := by decide +kernel
theorem dX3_worth_180 : decode cX3_worth 180 = .ok (.iinc 3 1, 3) := by decide +kernel
theorem dX3_worth_183 : decode cX3_worth 183 = .ok (.goto 72, 3) := by decide +kernel
theorem dX3_worth_186 : decode cX3_worth 186 = .ok (.iload 5, 2) := by decide +kernel
theorem dX3_worth_188 : decode cX3_worth 188 = .ok (.bipush 33, 2) := by decide +kernel
theorem dX3_worth_190 : decode cX3_worth 190 = .ok (.if_icmp .ne 28, 3) := by decide +kernel
theorem dX3_worth_193 : decode cX3_worth 193 = .ok (.iload_n 3, 1) := by decide +kernel
theorem dX3_worth_194 : decode cX3_worth 194 = .ok (.ifCond .le 61, 3) := by decide +kernel
theorem dX3_worth_197 : decode cX3_worth 197 = .ok (.aload_n 0, 1) := by decide +kernel
theorem dX3_worth_198 : decode cX3_worth 198 = .ok (.getfield 11, 3) := by decide +kernel
theorem dX3_worth_201 : decode cX3_worth 201 = .ok (.iload_n 3, 1) := by decide +kernel
theorem dX3_worth_202 : decode cX3_worth 202 = .ok (.iconst 1, 1) := by decide +kernel
theorem dX3_worth_203 : decode cX3_worth 203 = .ok (.isub, 1) := by decide +kernel
theorem dX3_worth_204 : decode cX3_worth 204 = .ok (.iconst 1, 1) := by decide +kernel
theorem dX3_worth_205 : decode cX3_worth 205 = .ok (.aload_n 0, 1) := by decide +kernel
theorem dX3_worth_206 : decode cX3_worth 206 = .ok (.getfield 11, 3) := by decide +kernel
theorem dX3_worth_209 : decode cX3_worth 209 = .ok (.iload_n 3, 1) := by decide +kernel
theorem dX3_worth_210 : decode cX3_worth 210 = .ok (.iconst 1, 1) := by decide +kernel
theorem dX3_worth_211 : decode cX3_worth 211 = .ok (.isub, 1) := by decide +kernel
theorem dX3_worth_212 : decode cX3_worth 212 = .ok (.iaload, 1) := by decide +kernel
theorem dX3_worth_213 : decode cX3_worth 213 = .ok (.isub, 1) := by decide +kernel
theorem dX3_worth_214 : decode cX3_worth 214 = .ok (.iastore, 1) := by decide +kernel
theorem dX3_worth_215 : decode cX3_worth 215 = .ok (.goto 40, 3) := by decide +kernel
theorem dX3_worth_218 : decode cX3_worth 218 = .ok (.iload_n 3, 1) := by decide +kernel
theorem dX3_worth_219 : decode cX3_worth 219 = .ok (.iconst 1, 1) := by decide +kernel
theorem dX3_worth_220 : decode cX3_worth 220 = .ok (.if_icmp .le 35, 3) := by decide +kernel
theorem dX3_worth_223 : decode cX3_worth 223 = .ok (.aload_n 0, 1) := by decide +kernel
theorem dX3_worth_224 : decode cX3_worth 224 = .ok (.getfield 11, 3) := by decide +kernel
theorem dX3_worth_227 : decode cX3_worth 227 = .ok (.iload_n 3, 1) := by decide +kernel
theorem dX3_worth_228 : decode cX3_worth 228 = .ok (.iconst 2, 1) := by decide +kernel
theorem dX3_worth_229 : decode cX3_worth 229 = .ok (.isub, 1) := by decide +kernel
theorem dX3_worth_230 : decode cX3_worth 230 = .ok (.iload 5, 2) := by decide +kernel
theorem dX3_worth_232 : decode cX3_worth 232 = .ok (.aload_n 0, 1) := by decide +kernel
theorem dX3_worth_233 : decode cX3_worth 233 = .ok (.getfield 11, 3) := by decide +kernel
theorem dX3_worth_236 : decode cX3_worth 236 = .ok (.iload_n 3, 1) := by decide +kernel
theorem dX3_worth_237 : decode cX3_worth 237 = .ok (.iconst 2, 1) := by decide +kernel
theorem dX3_worth_238 : decode cX3_worth 238 = .ok (.isub, 1) := by decide +kernel
theorem dX3_worth_239 : decode cX3_worth 239 = .ok (.iaload, 1) := by decide +kernel
theorem dX3_worth_240 : decode cX3_worth 240 = .ok (.aload_n 0, 1) := by decide +kernel
theorem dX3_worth_241 : decode cX3_worth 241 = .ok (.getfield 11, 3) := by decide +kernel
theorem dX3_worth_244 : decode cX3_worth 244 = .ok (.iload_n 3, 1) := by decide +kernel
theorem dX3_worth_245 : decode cX3_worth 245 = .ok (.iconst 1, 1) := by decide +kernel
theorem dX3_worth_246 : decode cX3_worth 246 = .ok (.isub, 1) := by decide +kernel
theorem dX3_worth_247 : decode cX3_worth 247 = .ok (.iaload, 1) := by decide +kernel
theorem dX3_worth_248 : decode cX3_worth 248 = .ok (.invokestatic 18, 3) := by decide +kernel
theorem dX3_worth_251 : decode cX3_worth 251 = .ok (.iastore, 1) := by decide +kernel
theorem dX3_worth_252 : decode cX3_worth 252 = .ok (.iinc 3 (-1), 3) := by decide +kernel
theorem dX3_worth_255 : decode cX3_worth 255 = .ok (.iinc 4 1, 3) := by decide +kernel
theorem dX3_worth_258 : decode cX3_worth 258 = .ok (.goto (-251), 3) := by decide +kernel
theorem dX3_worth_261 : decode cX3_worth 261 = .ok (.iconst 0, 1) := by decide +kernel
theorem dX3_worth_262 : decode cX3_worth 262 = .ok (.ireturn, 1) := by decide +kernel
theorem dX3_join_0 : decode cX3_join 0 = .ok (.iload_n 0, 1) := by decide +kernel
theorem dX3_join_1 : decode cX3_join 1 = .ok (.tableswitch 191 38 62 #[187, 191, 191, 191, 133, 115, 191, 124, 191, 142, 191, 191, 191, 191, 191, 191, 191, 191, 191, 191, 191, 191, 165, 154, 176], 115) := by decide +kernel
theorem dX3_join_116 : decode cX3_join 116 = .ok (.iload_n 1, 1) := by decide +kernel
theorem dX3_join_117 : decode cX3_join 117 = .ok (.i2l, 1) := by decide +kernel
theorem dX3_join_118 : decode cX3_join 118 = .ok (.iload_n 2, 1) := by decide +kernel
theorem dX3_join_119 : decode cX3_join 119 = .ok (.i2l, 1) := by decide +kernel
theorem dX3_join_120 : decode cX3_join 120 = .ok (.ladd, 1) := by decide +kernel
theorem dX3_join_121 : decode cX3_join 121 = .ok (.invokestatic 22, 3) := by decide +kernel
theorem dX3_join_124 : decode cX3_join 124 = .ok (.ireturn, 1) := by decide +kernel
theorem dX3_join_125 : decode cX3_join 125 = .ok (.iload_n 1, 1) := by decide +kernel
theorem dX3_join_126 : decode cX3_join 126 = .ok (.i2l, 1) := by decide +kernel
theorem dX3_join_127 : decode cX3_join 127 = .ok (.iload_n 2, 1) := by decide +kernel
theorem dX3_join_128 : decode cX3_join 128 = .ok (.i2l, 1) := by decide +kernel
theorem dX3_join_129 : decode cX3_join 129 = .ok (.lsub, 1) := by decide +kernel
theorem dX3_join_130 : decode cX3_join 130 = .ok (.invokestatic 22, 3) := by decide +kernel
theorem dX3_join_133 : decode cX3_join 133 = .ok (.ireturn, 1) := by decide +kernel
theorem dX3_join_134 : decode cX3_join 134 = .ok (.iload_n 1, 1) := by decide +kernel
theorem dX3_join_135 : decode cX3_join 135 = .ok (.i2l, 1) := by decide +kernel
theorem dX3_join_136 : decode cX3_join 136 = .ok (.iload_n 2, 1) := by decide +kernel
theorem dX3_join_137 : decode cX3_join 137 = .ok (.i2l, 1) := by decide +kernel
theorem dX3_join_138 : decode cX3_join 138 = .ok (.lmul, 1) := by decide +kernel
theorem dX3_join_139 : decode cX3_join 139 = .ok (.invokestatic 22, 3) := by decide +kernel
theorem dX3_join_142 : decode cX3_join 142 = .ok (.ireturn, 1) := by decide +kernel
theorem dX3_join_143 : decode cX3_join 143 = .ok (.iload_n 2, 1) := by decide +kernel
theorem dX3_join_144 : decode cX3_join 144 = .ok (.ifCond .ne 7, 3) := by decide +kernel
theorem dX3_join_147 : decode cX3_join 147 = .ok (.iconst 0, 1) := by decide +kernel
theorem dX3_join_148 : decode cX3_join 148 = .ok (.goto 6, 3) := by decide +kernel
theorem dX3_join_151 : decode cX3_join 151 = .ok (.iload_n 1, 1) := by decide +kernel
theorem dX3_join_152 : decode cX3_join 152 = .ok (.iload_n 2, 1) := by decide +kernel
theorem dX3_join_153 : decode cX3_join 153 = .ok (.idiv, 1) := by decide +kernel
theorem dX3_join_154 : decode cX3_join 154 = .ok (.ireturn, 1) := by decide +kernel
theorem dX3_join_155 : decode cX3_join 155 = .ok (.iload_n 1, 1) := by decide +kernel
theorem dX3_join_156 : decode cX3_join 156 = .ok (.iload_n 2, 1) := by decide +kernel
theorem dX3_join_157 : decode cX3_join 157 = .ok (.if_icmp .ne 7, 3) := by decide +kernel
theorem dX3_join_160 : decode cX3_join 160 = .ok (.iconst 1, 1) := by decide +kernel
theorem dX3_join_161 : decode cX3_join 161 = .ok (.goto 4, 3) := by decide +kernel
theorem dX3_join_164 : decode cX3_join 164 = .ok (.iconst 0, 1) := by decide +kernel
theorem dX3_join_165 : decode cX3_join 165 = .ok (.ireturn, 1) := by decide +kernel
theorem dX3_join_166 : decode cX3_join 166 = .ok (.iload_n 1, 1) := by decide +kernel
theorem dX3_join_167 : decode cX3_join 167 = .ok (.iload_n 2, 1) := by decide +kernel
theorem dX3_join_168 : decode cX3_join 168 = .ok (.if_icmp .ge 7, 3) := by decide +kernel
theorem dX3_join_171 : decode cX3_join 171 = .ok (.iconst 1, 1) := by decide +kernel
theorem dX3_join_172 : decode cX3_join 172 = .ok (.goto 4, 3) := by decide +kernel
theorem dX3_join_175 : decode cX3_join 175 = .ok (.iconst 0, 1) := by decide +kernel
theorem dX3_join_176 : decode cX3_join 176 = .ok (.ireturn, 1) := by decide +kernel
theorem dX3_join_177 : decode cX3_join 177 = .ok (.iload_n 1, 1) := by decide +kernel
theorem dX3_join_178 : decode cX3_join 178 = .ok (.iload_n 2, 1) := by decide +kernel
theorem dX3_join_179 : decode cX3_join 179 = .ok (.if_icmp .le 7, 3) := by decide +kernel
theorem dX3_join_182 : decode cX3_join 182 = .ok (.iconst 1, 1) := by decide +kernel
theorem dX3_join_183 : decode cX3_join 183 = .ok (.goto 4, 3) := by decide +kernel
theorem dX3_join_186 : decode cX3_join 186 = .ok (.iconst 0, 1) := by decide +kernel
theorem dX3_join_187 : decode cX3_join 187 = .ok (.ireturn, 1) := by decide +kernel
theorem dX3_join_188 : decode cX3_join 188 = .ok (.iload_n 1, 1) := by decide +kernel
theorem dX3_join_189 : decode cX3_join 189 = .ok (.iload_n 2, 1) := by decide +kernel
theorem dX3_join_190 : decode cX3_join 190 = .ok (.iand, 1) := by decide +kernel
theorem dX3_join_191 : decode cX3_join 191 = .ok (.ireturn, 1) := by decide +kernel
theorem dX3_join_192 : decode cX3_join 192 = .ok (.iload_n 1, 1) := by decide +kernel
theorem dX3_join_193 : decode cX3_join 193 = .ok (.iload_n 2, 1) := by decide +kernel
theorem dX3_join_194 : decode cX3_join 194 = .ok (.ior, 1) := by decide +kernel
theorem dX3_join_195 : decode cX3_join 195 = .ok (.ireturn, 1) := by decide +kernel
theorem dX3_held_0 : decode cX3_held 0 = .ok (.lload_n 0, 1) := by decide +kernel
theorem dX3_held_1 : decode cX3_held 1 = .ok (.ldc2_w 26, 3) := by decide +kernel
theorem dX3_held_4 : decode cX3_held 4 = .ok (.lcmp, 1) := by decide +kernel
theorem dX3_held_5 : decode cX3_held 5 = .ok (.ifCond .le 8, 3) := by decide +kernel
theorem dX3_held_8 : decode cX3_held 8 = .ok (.ldc 28, 2) := by decide +kernel
theorem dX3_held_10 : decode cX3_held 10 = .ok (.goto 18, 3) := by decide +kernel
theorem dX3_held_13 : decode cX3_held 13 = .ok (.lload_n 0, 1) := by decide +kernel
theorem dX3_held_14 : decode cX3_held 14 = .ok (.ldc2_w 29, 3) := by decide +kernel
theorem dX3_held_17 : decode cX3_held 17 = .ok (.lcmp, 1) := by decide +kernel
theorem dX3_held_18 : decode cX3_held 18 = .ok (.ifCond .ge 8, 3) := by decide +kernel
theorem dX3_held_21 : decode cX3_held 21 = .ok (.ldc 31, 2) := by decide +kernel
theorem dX3_held_23 : decode cX3_held 23 = .ok (.goto 5, 3) := by decide +kernel
theorem dX3_held_26 : decode cX3_held 26 = .ok (.lload_n 0, 1) := by decide +kernel
theorem dX3_held_27 : decode cX3_held 27 = .ok (.l2i, 1) := by decide +kernel
theorem dX3_held_28 : decode cX3_held 28 = .ok (.ireturn, 1) := by decide +kernel
theorem dX4_init_0 : decode cX4_init 0 = .ok (.aload_n 0, 1) := by decide +kernel
theorem dX4_init_1 : decode cX4_init 1 = .ok (.invokespecial 3, 3) := by decide +kernel
theorem dX4_init_4 : decode cX4_init 4 = .ok (.aload_n 0, 1) := by decide +kernel
theorem dX4_init_5 : decode cX4_init 5 = .ok (.sipush 240, 3) := by decide +kernel
theorem dX4_init_8 : decode cX4_init 8 = .ok (.newarray .int, 2) := by decide +kernel
theorem dX4_init_10 : decode cX4_init 10 = .ok (.putfield 11, 3) := by decide +kernel
theorem dX4_init_13 : decode cX4_init 13 = .ok (.aload_n 0, 1) := by decide +kernel
theorem dX4_init_14 : decode cX4_init 14 = .ok (.iconst 0, 1) := by decide +kernel
theorem dX4_init_15 : decode cX4_init 15 = .ok (.putfield 17, 3) := by decide +kernel
theorem dX4_init_18 : decode cX4_init 18 = .ok (.aload_n 0, 1) := by decide +kernel
theorem dX4_init_19 : decode cX4_init 19 = .ok (.aload_n 1, 1) := by decide +kernel
theorem dX4_init_20 : decode cX4_init 20 = .ok (.putfield 21, 3) := by decide +kernel
theorem dX4_init_23 : decode cX4_init 23 = .ok (.return_, 1) := by decide +kernel
theorem dX4_read_0 : decode cX4_read 0 = .ok (.aload_n 0, 1) := by decide +kernel
theorem dX4_read_1 : decode cX4_read 1 = .ok (.getfield 21, 3) := by decide +kernel
theorem dX4_read_4 : decode cX4_read 4 = .ok (.invokevirtual 25, 3) := by decide +kernel
theorem dX4_read_7 : decode cX4_read 7 = .ok (.aload_n 0, 1) := by decide +kernel
theorem dX4_read_8 : decode cX4_read 8 = .ok (.iconst 0, 1) := by decide +kernel
theorem dX4_read_9 : decode cX4_read 9 = .ok (.putfield 17, 3) := by decide +kernel
theorem dX4_read_12 : decode cX4_read 12 = .ok (.iconst 1, 1) := by decide +kernel
theorem dX4_read_13 : decode cX4_read 13 = .ok (.istore_n 1, 1) := by decide +kernel
theorem dX4_read_14 : decode cX4_read 14 = .ok (.iconst 0, 1) := by decide +kernel
theorem dX4_read_15 : decode cX4_read 15 = .ok (.istore_n 2, 1) := by decide +kernel
theorem dX4_read_16 : decode cX4_read 16 = .ok (.iload_n 2, 1) := by decide +kernel
theorem dX4_read_17 : decode cX4_read 17 = .ok (.sipush 240, 3) := by decide +kernel
theorem dX4_read_20 : decode cX4_read 20 = .ok (.if_icmp .gt 46, 3) := by decide +kernel
theorem dX4_read_23 : decode cX4_read 23 = .ok (.iload_n 1, 1) := by decide +kernel
theorem dX4_read_24 : decode cX4_read 24 = .ok (.ifCond .eq 42, 3) := by decide +kernel
theorem dX4_read_27 : decode cX4_read 27 = .ok (.aload_n 0, 1) := by decide +kernel
theorem dX4_read_28 : decode cX4_read 28 = .ok (.invokevirtual 28, 3) := by decide +kernel
theorem dX4_read_31 : decode cX4_read 31 = .ok (.aload_n 0, 1) := by decide +kernel
theorem dX4_read_32 : decode cX4_read 32 = .ok (.getfield 21, 3) := by decide +kernel
theorem dX4_read_35 : decode cX4_read 35 = .ok (.invokevirtual 31, 3) := by decide +kernel
theorem dX4_read_38 : decode cX4_read 38 = .ok (.bipush 59, 2) := by decide +kernel
theorem dX4_read_40 : decode cX4_read 40 = .ok (.if_icmp .ne 7, 3) := by decide +kernel
theorem dX4_read_43 : decode cX4_read 43 = .ok (.iconst 1, 1) := by decide +kernel
theorem dX4_read_44 : decode cX4_read 44 = .ok (.goto 4, 3) := by decide +kernel
theorem dX4_read_47 : decode cX4_read 47 = .ok (.iconst 0, 1) := by decide +kernel
theorem dX4_read_48 : decode cX4_read 48 = .ok (.istore_n 1, 1) := by decide +kernel
theorem dX4_read_49 : decode cX4_read 49 = .ok (.iload_n 1, 1) := by decide +kernel
theorem dX4_read_50 : decode cX4_read 50 = .ok (.ifCond .eq 10, 3) := by decide +kernel
theorem dX4_read_53 : decode cX4_read 53 = .ok (.aload_n 0, 1) := by decide +kernel
theorem dX4_read_54 : decode cX4_read 54 = .ok (.getfield 21, 3) := by decide +kernel
theorem dX4_read_57 : decode cX4_read 57 = .ok (.invokevirtual 35, 3) := by decide +kernel
theorem dX4_read_60 : decode cX4_read 60 = .ok (.iinc 2 1, 3) := by decide +kernel
theorem dX4_read_63 : decode cX4_read 63 = .ok (.goto (-47), 3) := by decide +kernel
theorem dX4_read_66 : decode cX4_read 66 = .ok (.aload_n 0, 1) := by decide +kernel
theorem dX4_read_67 : decode cX4_read 67 = .ok (.getfield 21, 3) := by decide +kernel
theorem dX4_read_70 : decode cX4_read 70 = .ok (.invokevirtual 31, 3) := by decide +kernel
theorem dX4_read_73 : decode cX4_read 73 = .ok (.iconst (-1), 1) := by decide +kernel
theorem dX4_read_74 : decode cX4_read 74 = .ok (.if_icmp .eq 10, 3) := by decide +kernel
theorem dX4_read_77 : decode cX4_read 77 = .ok (.aload_n 0, 1) := by decide +kernel
theorem dX4_read_78 : decode cX4_read 78 = .ok (.getfield 21, 3) := by decide +kernel
theorem dX4_read_81 : decode cX4_read 81 = .ok (.invokevirtual 38, 3) := by decide +kernel
theorem dX4_read_84 : decode cX4_read 84 = .ok (.aload_n 0, 1) := by decide +kernel
theorem dX4_read_85 : decode cX4_read 85 = .ok (.getfield 21, 3) := by decide +kernel
theorem dX4_read_88 : decode cX4_read 88 = .ok (.getfield 41, 3) := by decide +kernel
theorem dX4_read_91 : decode cX4_read 91 = .ok (.ireturn, 1) := by decide +kernel
theorem dX4_made_0 : decode cX4_made 0 = .ok (.new 44, 3) := by decide +kernel
theorem dX4_made_3 : decode cX4_made 3 = .ok (.dup, 1) := by decide +kernel
theorem dX4_made_4 : decode cX4_made 4 = .ok (.aload_n 0, 1) := by decide +kernel
theorem dX4_made_5 : decode cX4_made 5 = .ok (.getfield 11, 3) := by decide +kernel
theorem dX4_made_8 : decode cX4_made 8 = .ok (.aload_n 0, 1) := by decide +kernel
theorem dX4_made_9 : decode cX4_made 9 = .ok (.getfield 17, 3) := by decide +kernel
theorem dX4_made_12 : decode cX4_made 12 = .ok (.invokestatic 46, 3) := by decide +kernel
theorem dX4_made_15 : decode cX4_made 15 = .ok (.invokespecial 52, 3) := by decide +kernel
theorem dX4_made_18 : decode cX4_made 18 = .ok (.areturn, 1) := by decide +kernel
theorem dX4_put_0 : decode cX4_put 0 = .ok (.aload_n 0, 1) := by decide +kernel
theorem dX4_put_1 : decode cX4_put 1 = .ok (.getfield 17, 3) := by decide +kernel
theorem dX4_put_4 : decode cX4_put 4 = .ok (.aload_n 0, 1) := by decide +kernel
theorem dX4_put_5 : decode cX4_put 5 = .ok (.getfield 11, 3) := by decide +kernel
theorem dX4_put_8 : decode cX4_put 8 = .ok (.arraylength, 1) := by decide +kernel
theorem dX4_put_9 : decode cX4_put 9 = .ok (.if_icmp .ge 28, 3) := by decide +kernel
theorem dX4_put_12 : decode cX4_put 12 = .ok (.aload_n 0, 1) := by decide +kernel
theorem dX4_put_13 : decode cX4_put 13 = .ok (.getfield 11, 3) := by decide +kernel
theorem dX4_put_16 : decode cX4_put 16 = .ok (.aload_n 0, 1) := by decide +kernel
theorem dX4_put_17 : decode cX4_put 17 = .ok (.getfield 17, 3) := by decide +kernel
theorem dX4_put_20 : decode cX4_put 20 = .ok (.iload_n 2, 1) := by decide +kernel
theorem dX4_put_21 : decode cX4_put 21 = .ok (.bipush 8, 2) := by decide +kernel
theorem dX4_put_23 : decode cX4_put 23 = .ok (.ishl, 1) := by decide +kernel
theorem dX4_put_24 : decode cX4_put 24 = .ok (.iload_n 1, 1) := by decide +kernel
theorem dX4_put_25 : decode cX4_put 25 = .ok (.ior, 1) := by decide +kernel
theorem dX4_put_26 : decode cX4_put 26 = .ok (.iastore, 1) := by decide +kernel
theorem dX4_put_27 : decode cX4_put 27 = .ok (.aload_n 0, 1) := by decide +kernel
theorem dX4_put_28 : decode cX4_put 28 = .ok (.dup, 1) := by decide +kernel
theorem dX4_put_29 : decode cX4_put 29 = .ok (.getfield 17, 3) := by decide +kernel
theorem dX4_put_32 : decode cX4_put 32 = .ok (.iconst 1, 1) := by decide +kernel
theorem dX4_put_33 : decode cX4_put 33 = .ok (.iadd, 1) := by decide +kernel
theorem dX4_put_34 : decode cX4_put 34 = .ok (.putfield 17, 3) := by decide +kernel
theorem dX4_put_37 : decode cX4_put 37 = .ok (.return_, 1) := by decide +kernel
theorem dX4_clause_0 : decode cX4_clause 0 = .ok (.aload_n 0, 1) := by decide +kernel
theorem dX4_clause_1 : decode cX4_clause 1 = .ok (.getfield 21, 3) := by decide +kernel
theorem dX4_clause_4 : decode cX4_clause 4 = .ok (.bipush 121, 2) := by decide +kernel
theorem dX4_clause_6 : decode cX4_clause 6 = .ok (.invokevirtual 55, 3) := by decide +kernel
theorem dX4_clause_9 : decode cX4_clause 9 = .ok (.aload_n 0, 1) := by decide +kernel
theorem dX4_clause_10 : decode cX4_clause 10 = .ok (.getfield 21, 3) := by decide +kernel
theorem dX4_clause_13 : decode cX4_clause 13 = .ok (.bipush 58, 2) := by decide +kernel
theorem dX4_clause_15 : decode cX4_clause 15 = .ok (.invokevirtual 55, 3) := by decide +kernel
theorem dX4_clause_18 : decode cX4_clause 18 = .ok (.aload_n 0, 1) := by decide +kernel
theorem dX4_clause_19 : decode cX4_clause 19 = .ok (.getfield 21, 3) := by decide +kernel
theorem dX4_clause_22 : decode cX4_clause 22 = .ok (.invokevirtual 31, 3) := by decide +kernel
theorem dX4_clause_25 : decode cX4_clause 25 = .ok (.istore_n 1, 1) := by decide +kernel
theorem dX4_clause_26 : decode cX4_clause 26 = .ok (.iload_n 1, 1) := by decide +kernel
theorem dX4_clause_27 : decode cX4_clause 27 = .ok (.bipush 33, 2) := by decide +kernel
theorem dX4_clause_29 : decode cX4_clause 29 = .ok (.if_icmp .eq 13, 3) := by decide +kernel
theorem dX4_clause_32 : decode cX4_clause 32 = .ok (.iload_n 1, 1) := by decide +kernel
theorem dX4_clause_33 : decode cX4_clause 33 = .ok (.bipush 40, 2) := by decide +kernel
theorem dX4_clause_35 : decode cX4_clause 35 = .ok (.if_icmp .eq 7, 3) := by decide +kernel
theorem dX4_clause_38 : decode cX4_clause 38 = .ok (.iconst 1, 1) := by decide +kernel
theorem dX4_clause_39 : decode cX4_clause 39 = .ok (.goto 4, 3) := by decide +kernel
theorem dX4_clause_42 : decode cX4_clause 42 = .ok (.iconst 0, 1) := by decide +kernel
theorem dX4_clause_43 : decode cX4_clause 43 = .ok (.istore_n 2, 1) := by decide +kernel
theorem dX4_clause_44 : decode cX4_clause 44 = .ok (.iload_n 2, 1) := by decide +kernel
theorem dX4_clause_45 : decode cX4_clause 45 = .ok (.ifCond .eq 8, 3) := by decide +kernel
theorem dX4_clause_48 : decode cX4_clause 48 = .ok (.aload_n 0, 1) := by decide +kernel
theorem dX4_clause_49 : decode cX4_clause 49 = .ok (.iconst 0, 1) := by decide +kernel
theorem dX4_clause_50 : decode cX4_clause 50 = .ok (.invokevirtual 59, 3) := by decide +kernel
theorem dX4_clause_53 : decode cX4_clause 53 = .ok (.iload_n 2, 1) := by decide +kernel
theorem dX4_clause_54 : decode cX4_clause 54 = .ok (.ifCond .eq 16, 3) := by decide +kernel
theorem dX4_clause_57 : decode cX4_clause 57 = .ok (.aload_n 0, 1) := by decide +kernel
theorem dX4_clause_58 : decode cX4_clause 58 = .ok (.getfield 21, 3) := by decide +kernel
theorem dX4_clause_61 : decode cX4_clause 61 = .ok (.invokevirtual 31, 3) := by decide +kernel
theorem dX4_clause_64 : decode cX4_clause 64 = .ok (.invokestatic 62, 3) := by decide +kernel
theorem dX4_clause_67 : decode cX4_clause 67 = .ok (.ifCond .eq 30, 3) := by decide +kernel
theorem dX4_clause_70 : decode cX4_clause 70 = .ok (.aload_n 0, 1) := by decide +kernel
theorem dX4_clause_71 : decode cX4_clause 71 = .ok (.iconst 0, 1) := by decide +kernel
theorem dX4_clause_72 : decode cX4_clause 72 = .ok (.iload_n 2, 1) := by decide +kernel
theorem dX4_clause_73 : decode cX4_clause 73 = .ok (.invokevirtual 66, 3) := by decide +kernel
theorem dX4_clause_76 : decode cX4_clause 76 = .ok (.aload_n 0, 1) := by decide +kernel
theorem dX4_clause_77 : decode cX4_clause 77 = .ok (.getfield 21, 3) := by decide +kernel
theorem dX4_clause_80 : decode cX4_clause 80 = .ok (.bipush 63, 2) := by decide +kernel
theorem dX4_clause_82 : decode cX4_clause 82 = .ok (.invokevirtual 55, 3) := by decide +kernel
theorem dX4_clause_85 : decode cX4_clause 85 = .ok (.aload_n 0, 1) := by decide +kernel
theorem dX4_clause_86 : decode cX4_clause 86 = .ok (.bipush 63, 2) := by decide +kernel
theorem dX4_clause_88 : decode cX4_clause 88 = .ok (.iconst 0, 1) := by decide +kernel
theorem dX4_clause_89 : decode cX4_clause 89 = .ok (.invokevirtual 70, 3) := by decide +kernel
theorem dX4_clause_92 : decode cX4_clause 92 = .ok (.aload_n 0, 1) := by decide +kernel
theorem dX4_clause_93 : decode cX4_clause 93 = .ok (.iconst 0, 1) := by decide +kernel
theorem dX4_clause_94 : decode cX4_clause 94 = .ok (.invokevirtual 59, 3) := by decide +kernel
theorem dX4_clause_97 : decode cX4_clause 97 = .ok (.aload_n 0, 1) := by decide +kernel
theorem dX4_clause_98 : decode cX4_clause 98 = .ok (.bipush 59, 2) := by decide +kernel
theorem dX4_clause_100 : decode cX4_clause 100 = .ok (.iconst 0, 1) := by decide +kernel
theorem dX4_clause_101 : decode cX4_clause 101 = .ok (.invokevirtual 70, 3) := by decide +kernel
theorem dX4_clause_104 : decode cX4_clause 104 = .ok (.return_, 1) := by decide +kernel
theorem dX4_compares_0 : decode cX4_compares 0 = .ok (.iload_n 0, 1) := by decide +kernel
theorem dX4_compares_1 : decode cX4_compares 1 = .ok (.bipush 61, 2) := by decide +kernel
theorem dX4_compares_3 : decode cX4_compares 3 = .ok (.if_icmp .eq 15, 3) := by decide +kernel
theorem dX4_compares_6 : decode cX4_compares 6 = .ok (.iload_n 0, 1) := by decide +kernel
theorem dX4_compares_7 : decode cX4_compares 7 = .ok (.bipush 60, 2) := by decide +kernel
theorem dX4_compares_9 : decode cX4_compares 9 = .ok (.if_icmp .eq 9, 3) := by decide +kernel
theorem dX4_compares_12 : decode cX4_compares 12 = .ok (.iload_n 0, 1) := by decide +kernel
theorem dX4_compares_13 : decode cX4_compares 13 = .ok (.bipush 62, 2) := by decide +kernel
theorem dX4_compares_15 : decode cX4_compares 15 = .ok (.if_icmp .ne 7, 3) := by decide +kernel
theorem dX4_compares_18 : decode cX4_compares 18 = .ok (.iconst 1, 1) := by decide +kernel
theorem dX4_compares_19 : decode cX4_compares 19 = .ok (.goto 4, 3) := by decide +kernel
theorem dX4_compares_22 : decode cX4_compares 22 = .ok (.iconst 0, 1) := by decide +kernel
theorem dX4_compares_23 : decode cX4_compares 23 = .ok (.ireturn, 1) := by decide +kernel
theorem dX4_condition_0 : decode cX4_condition 0 = .ok (.aload_n 0, 1) := by decide +kernel
theorem dX4_condition_1 : decode cX4_condition 1 = .ok (.iload_n 1, 1) := by decide +kernel
theorem dX4_condition_2 : decode cX4_condition 2 = .ok (.iload_n 2, 1) := by decide +kernel
theorem dX4_condition_3 : decode cX4_condition 3 = .ok (.invokevirtual 74, 3) := by decide +kernel
theorem dX4_condition_6 : decode cX4_condition 6 = .ok (.iconst 0, 1) := by decide +kernel
theorem dX4_condition_7 : decode cX4_condition 7 = .ok (.istore_n 3, 1) := by decide +kernel
theorem dX4_condition_8 : decode cX4_condition 8 = .ok (.iload_n 3, 1) := by decide +kernel
theorem dX4_condition_9 : decode cX4_condition 9 = .ok (.sipush 240, 3) := by decide +kernel
theorem dX4_condition_12 : decode cX4_condition 12 = .ok (.if_icmp .ge 41, 3) := by decide +kernel
theorem dX4_condition_15 : decode cX4_condition 15 = .ok (.aload_n 0, 1) := by decide +kernel
theorem dX4_condition_16 : decode cX4_condition 16 = .ok (.getfield 21, 3) := by decide +kernel
theorem dX4_condition_19 : decode cX4_condition 19 = .ok (.invokevirtual 31, 3) := by decide +kernel
theorem dX4_condition_22 : decode cX4_condition 22 = .ok (.bipush 124, 2) := by decide +kernel
theorem dX4_condition_24 : decode cX4_condition 24 = .ok (.if_icmp .ne 29, 3) := by decide +kernel
theorem dX4_condition_27 : decode cX4_condition 27 = .ok (.aload_n 0, 1) := by decide +kernel
theorem dX4_condition_28 : decode cX4_condition 28 = .ok (.getfield 21, 3) := by decide +kernel
theorem dX4_condition_31 : decode cX4_condition 31 = .ok (.invokevirtual 35, 3) := by decide +kernel
theorem dX4_condition_34 : decode cX4_condition 34 = .ok (.aload_n 0, 1) := by decide +kernel
theorem dX4_condition_35 : decode cX4_condition 35 = .ok (.iload_n 1, 1) := by decide +kernel
theorem dX4_condition_36 : decode cX4_condition 36 = .ok (.iconst 0, 1) := by decide +kernel
theorem dX4_condition_37 : decode cX4_condition 37 = .ok (.invokevirtual 74, 3) := by decide +kernel
theorem dX4_condition_40 : decode cX4_condition 40 = .ok (.aload_n 0, 1) := by decide +kernel
theorem dX4_condition_41 : decode cX4_condition 41 = .ok (.bipush 124, 2) := by decide +kernel
theorem dX4_condition_43 : decode cX4_condition 43 = .ok (.iconst 0, 1) := by decide +kernel
theorem dX4_condition_44 : decode cX4_condition 44 = .ok (.invokevirtual 70, 3) := by decide +kernel
theorem dX4_condition_47 : decode cX4_condition 47 = .ok (.iinc 3 1, 3) := by decide +kernel
theorem dX4_condition_50 : decode cX4_condition 50 = .ok (.goto (-42), 3) := by decide +kernel
theorem dX4_condition_53 : decode cX4_condition 53 = .ok (.return_, 1) := by decide +kernel
theorem dX4_truth_0 : decode cX4_truth 0 = .ok (.aload_n 0, 1) := by decide +kernel
theorem dX4_truth_1 : decode cX4_truth 1 = .ok (.iload_n 1, 1) := by decide +kernel
theorem dX4_truth_2 : decode cX4_truth 2 = .ok (.iload_n 2, 1) := by decide +kernel
theorem dX4_truth_3 : decode cX4_truth 3 = .ok (.invokevirtual 77, 3) := by decide +kernel
theorem dX4_truth_6 : decode cX4_truth 6 = .ok (.iconst 0, 1) := by decide +kernel
theorem dX4_truth_7 : decode cX4_truth 7 = .ok (.istore_n 3, 1) := by decide +kernel
theorem dX4_truth_8 : decode cX4_truth 8 = .ok (.iload_n 3, 1) := by decide +kernel
theorem dX4_truth_9 : decode cX4_truth 9 = .ok (.sipush 240, 3) := by decide +kernel
theorem dX4_truth_12 : decode cX4_truth 12 = .ok (.if_icmp .ge 41, 3) := by decide +kernel
theorem dX4_truth_15 : decode cX4_truth 15 = .ok (.aload_n 0, 1) := by decide +kernel
theorem dX4_truth_16 : decode cX4_truth 16 = .ok (.getfield 21, 3) := by decide +kernel
theorem dX4_truth_19 : decode cX4_truth 19 = .ok (.invokevirtual 31, 3) := by decide +kernel
theorem dX4_truth_22 : decode cX4_truth 22 = .ok (.bipush 38, 2) := by decide +kernel
theorem dX4_truth_24 : decode cX4_truth 24 = .ok (.if_icmp .ne 29, 3) := by decide +kernel
theorem dX4_truth_27 : decode cX4_truth 27 = .ok (.aload_n 0, 1) := by decide +kernel
theorem dX4_truth_28 : decode cX4_truth 28 = .ok (.getfield 21, 3) := by decide +kernel
theorem dX4_truth_31 : decode cX4_truth 31 = .ok (.invokevirtual 35, 3) := by decide +kernel
theorem dX4_truth_34 : decode cX4_truth 34 = .ok (.aload_n 0, 1) := by decide +kernel
theorem dX4_truth_35 : decode cX4_truth 35 = .ok (.iload_n 1, 1) := by decide +kernel
theorem dX4_truth_36 : decode cX4_truth 36 = .ok (.iconst 0, 1) := by decide +kernel
theorem dX4_truth_37 : decode cX4_truth 37 = .ok (.invokevirtual 77, 3) := by decide +kernel
theorem dX4_truth_40 : decode cX4_truth 40 = .ok (.aload_n 0, 1) := by decide +kernel
theorem dX4_truth_41 : decode cX4_truth 41 = .ok (.bipush 38, 2) := by decide +kernel
theorem dX4_truth_43 : decode cX4_truth 43 = .ok (.iconst 0, 1) := by decide +kernel
theorem dX4_truth_44 : decode cX4_truth 44 = .ok (.invokevirtual 70, 3) := by decide +kernel
theorem dX4_truth_47 : decode cX4_truth 47 = .ok (.iinc 3 1, 3) := by decide +kernel
theorem dX4_truth_50 : decode cX4_truth 50 = .ok (.goto (-42), 3) := by decide +kernel
theorem dX4_truth_53 : decode cX4_truth 53 = .ok (.return_, 1) := by decide +kernel
theorem dX4_unit_0 : decode cX4_unit 0 = .ok (.iload_n 2, 1) := by decide +kernel
theorem dX4_unit_1 : decode cX4_unit 1 = .ok (.ifCond .eq 7, 3) := by decide +kernel
theorem dX4_unit_4 : decode cX4_unit 4 = .ok (.iconst (-1), 1) := by decide +kernel
theorem dX4_unit_5 : decode cX4_unit 5 = .ok (.goto 10, 3) := by decide +kernel
theorem dX4_unit_8 : decode cX4_unit 8 = .ok (.aload_n 0, 1) := by decide +kernel
theorem dX4_unit_9 : decode cX4_unit 9 = .ok (.getfield 21, 3) := by decide +kernel
theorem dX4_unit_12 : decode cX4_unit 12 = .ok (.invokevirtual 31, 3) := by decide +kernel
theorem dX4_unit_15 : decode cX4_unit 15 = .ok (.istore_n 3, 1) := by decide +kernel
theorem dX4_unit_16 : decode cX4_unit 16 = .ok (.iload_n 3, 1) := by decide +kernel
theorem dX4_unit_17 : decode cX4_unit 17 = .ok (.bipush 33, 2) := by decide +kernel
theorem dX4_unit_19 : decode cX4_unit 19 = .ok (.if_icmp .ne 29, 3) := by decide +kernel
theorem dX4_unit_22 : decode cX4_unit 22 = .ok (.aload_n 0, 1) := by decide +kernel
theorem dX4_unit_23 : decode cX4_unit 23 = .ok (.iload_n 1, 1) := by decide +kernel
theorem dX4_unit_24 : decode cX4_unit 24 = .ok (.invokevirtual 80, 3) := by decide +kernel
theorem dX4_unit_27 : decode cX4_unit 27 = .ok (.ifCond .eq 107, 3) := by decide +kernel
theorem dX4_unit_30 : decode cX4_unit 30 = .ok (.aload_n 0, 1) := by decide +kernel
theorem dX4_unit_31 : decode cX4_unit 31 = .ok (.iload_n 1, 1) := by decide +kernel
theorem dX4_unit_32 : decode cX4_unit 32 = .ok (.iconst 1, 1) := by decide +kernel
theorem dX4_unit_33 : decode cX4_unit 33 = .ok (.iadd, 1) := by decide +kernel
theorem dX4_unit_34 : decode cX4_unit 34 = .ok (.iconst 0, 1) := by decide +kernel
theorem dX4_unit_35 : decode cX4_unit 35 = .ok (.invokevirtual 77, 3) := by decide +kernel
theorem dX4_unit_38 : decode cX4_unit 38 = .ok (.aload_n 0, 1) := by decide +kernel
theorem dX4_unit_39 : decode cX4_unit 39 = .ok (.bipush 33, 2) := by decide +kernel
theorem dX4_unit_41 : decode cX4_unit 41 = .ok (.iconst 0, 1) := by decide +kernel
theorem dX4_unit_42 : decode cX4_unit 42 = .ok (.invokevirtual 70, 3) := by decide +kernel
theorem dX4_unit_45 : decode cX4_unit 45 = .ok (.goto 89, 3) := by decide +kernel
theorem dX4_unit_48 : decode cX4_unit 48 = .ok (.iload_n 3, 1) := by decide +kernel
theorem dX4_unit_49 : decode cX4_unit 49 = .ok (.bipush 40, 2) := by decide +kernel
theorem dX4_unit_51 : decode cX4_unit 51 = .ok (.if_icmp .ne 31, 3) := by decide +kernel
theorem dX4_unit_54 : decode cX4_unit 54 = .ok (.aload_n 0, 1) := by decide +kernel
theorem dX4_unit_55 : decode cX4_unit 55 = .ok (.iload_n 1, 1) := by decide +kernel
theorem dX4_unit_56 : decode cX4_unit 56 = .ok (.invokevirtual 80, 3) := by decide +kernel
theorem dX4_unit_59 : decode cX4_unit 59 = .ok (.ifCond .eq 75, 3) := by decide +kernel
theorem dX4_unit_62 : decode cX4_unit 62 = .ok (.aload_n 0, 1) := by decide +kernel
theorem dX4_unit_63 : decode cX4_unit 63 = .ok (.iload_n 1, 1) := by decide +kernel
theorem dX4_unit_64 : decode cX4_unit 64 = .ok (.iconst 1, 1) := by decide +kernel
theorem dX4_unit_65 : decode cX4_unit 65 = .ok (.iadd, 1) := by decide +kernel
theorem dX4_unit_66 : decode cX4_unit 66 = .ok (.iconst 0, 1) := by decide +kernel
theorem dX4_unit_67 : decode cX4_unit 67 = .ok (.invokevirtual 66, 3) := by decide +kernel
theorem dX4_unit_70 : decode cX4_unit 70 = .ok (.aload_n 0, 1) := by decide +kernel
theorem dX4_unit_71 : decode cX4_unit 71 = .ok (.getfield 21, 3) := by decide +kernel
theorem dX4_unit_74 : decode cX4_unit 74 = .ok (.bipush 41, 2) := by decide +kernel
theorem dX4_unit_76 : decode cX4_unit 76 = .ok (.invokevirtual 55, 3) := by decide +kernel
theorem dX4_unit_79 : decode cX4_unit 79 = .ok (.goto 55, 3) := by decide +kernel
theorem dX4_unit_82 : decode cX4_unit 82 = .ok (.iload_n 2, 1) := by decide +kernel
theorem dX4_unit_83 : decode cX4_unit 83 = .ok (.ifCond .ne 8, 3) := by decide +kernel
theorem dX4_unit_86 : decode cX4_unit 86 = .ok (.aload_n 0, 1) := by decide +kernel
theorem dX4_unit_87 : decode cX4_unit 87 = .ok (.iload_n 1, 1) := by decide +kernel
theorem dX4_unit_88 : decode cX4_unit 88 = .ok (.invokevirtual 59, 3) := by decide +kernel
theorem dX4_unit_91 : decode cX4_unit 91 = .ok (.aload_n 0, 1) := by decide +kernel
theorem dX4_unit_92 : decode cX4_unit 92 = .ok (.getfield 21, 3) := by decide +kernel
theorem dX4_unit_95 : decode cX4_unit 95 = .ok (.invokevirtual 31, 3) := by decide +kernel
theorem dX4_unit_98 : decode cX4_unit 98 = .ok (.istore_n 3, 1) := by decide +kernel
theorem dX4_unit_99 : decode cX4_unit 99 = .ok (.iload_n 3, 1) := by decide +kernel
theorem dX4_unit_100 : decode cX4_unit 100 = .ok (.invokestatic 62, 3) := by decide +kernel
theorem dX4_unit_103 : decode cX4_unit 103 = .ok (.ifCond .eq 24, 3) := by decide +kernel
theorem dX4_unit_106 : decode cX4_unit 106 = .ok (.aload_n 0, 1) := by decide +kernel
theorem dX4_unit_107 : decode cX4_unit 107 = .ok (.getfield 21, 3) := by decide +kernel
theorem dX4_unit_110 : decode cX4_unit 110 = .ok (.invokevirtual 35, 3) := by decide +kernel
theorem dX4_unit_113 : decode cX4_unit 113 = .ok (.aload_n 0, 1) := by decide +kernel
theorem dX4_unit_114 : decode cX4_unit 114 = .ok (.iload_n 1, 1) := by decide +kernel
theorem dX4_unit_115 : decode cX4_unit 115 = .ok (.invokevirtual 59, 3) := by decide +kernel
theorem dX4_unit_118 : decode cX4_unit 118 = .ok (.aload_n 0, 1) := by decide +kernel
theorem dX4_unit_119 : decode cX4_unit 119 = .ok (.iload_n 3, 1) := by decide +kernel
theorem dX4_unit_120 : decode cX4_unit 120 = .ok (.iconst 0, 1) := by decide +kernel
theorem dX4_unit_121 : decode cX4_unit 121 = .ok (.invokevirtual 70, 3) := by decide +kernel
theorem dX4_unit_124 : decode cX4_unit 124 = .ok (.goto 10, 3) := by decide +kernel
theorem dX4_unit_127 : decode cX4_unit 127 = .ok (.aload_n 0, 1) := by decide +kernel
theorem dX4_unit_128 : decode cX4_unit 128 = .ok (.getfield 21, 3) := by decide +kernel
theorem dX4_unit_131 : decode cX4_unit 131 = .ok (.invokevirtual 38, 3) := by decide +kernel
theorem dX4_unit_134 : decode cX4_unit 134 = .ok (.return_, 1) := by decide +kernel
theorem dX4_enter_0 : decode cX4_enter 0 = .ok (.iload_n 1, 1) := by decide +kernel
theorem dX4_enter_1 : decode cX4_enter 1 = .ok (.bipush 6, 2) := by decide +kernel
theorem dX4_enter_3 : decode cX4_enter 3 = .ok (.if_icmp .lt 12, 3) := by decide +kernel
theorem dX4_enter_6 : decode cX4_enter 6 = .ok (.aload_n 0, 1) := by decide +kernel
theorem dX4_enter_7 : decode cX4_enter 7 = .ok (.getfield 21, 3) := by decide +kernel
theorem dX4_enter_10 : decode cX4_enter 10 = .ok (.invokevirtual 38, 3) := by decide +kernel
theorem dX4_enter_13 : decode cX4_enter 13 = .ok (.iconst 0, 1) := by decide +kernel
theorem dX4_enter_14 : decode cX4_enter 14 = .ok (.ireturn, 1) := by decide +kernel
theorem dX4_enter_15 : decode cX4_enter 15 = .ok (.aload_n 0, 1) := by decide +kernel
theorem dX4_enter_16 : decode cX4_enter 16 = .ok (.getfield 21, 3) := by decide +kernel
theorem dX4_enter_19 : decode cX4_enter 19 = .ok (.invokevirtual 35, 3) := by decide +kernel
theorem dX4_enter_22 : decode cX4_enter 22 = .ok (.iconst 1, 1) := by decide +kernel
theorem dX4_enter_23 : decode cX4_enter 23 = .ok (.ireturn, 1) := by decide +kernel
theorem dX4_sum_0 : decode cX4_sum 0 = .ok (.aload_n 0, 1) := by decide +kernel
theorem dX4_sum_1 : decode cX4_sum 1 = .ok (.iload_n 1, 1) := by decide +kernel
theorem dX4_sum_2 : decode cX4_sum 2 = .ok (.invokevirtual 83, 3) := by decide +kernel
theorem dX4_sum_5 : decode cX4_sum 5 = .ok (.aload_n 0, 1) := by decide +kernel
theorem dX4_sum_6 : decode cX4_sum 6 = .ok (.getfield 21, 3) := by decide +kernel
theorem dX4_sum_9 : decode cX4_sum 9 = .ok (.invokevirtual 31, 3) := by decide +kernel
theorem dX4_sum_12 : decode cX4_sum 12 = .ok (.istore_n 2, 1) := by decide +kernel
theorem dX4_sum_13 : decode cX4_sum 13 = .ok (.iconst 0, 1) := by decide +kernel
theorem dX4_sum_14 : decode cX4_sum 14 = .ok (.istore_n 3, 1) := by decide +kernel
theorem dX4_sum_15 : decode cX4_sum 15 = .ok (.iload_n 3, 1) := by decide +kernel
theorem dX4_sum_16 : decode cX4_sum 16 = .ok (.sipush 240, 3) := by decide +kernel
theorem dX4_sum_19 : decode cX4_sum 19 = .ok (.if_icmp .ge 47, 3) := by decide +kernel
theorem dX4_sum_22 : decode cX4_sum 22 = .ok (.iload_n 2, 1) := by decide +kernel
theorem dX4_sum_23 : decode cX4_sum 23 = .ok (.bipush 43, 2) := by decide +kernel
theorem dX4_sum_25 : decode cX4_sum 25 = .ok (.if_icmp .eq 9, 3) := by decide +kernel
theorem dX4_sum_28 : decode cX4_sum 28 = .ok (.iload_n 2, 1) := by decide +kernel
theorem dX4_sum_29 : decode cX4_sum 29 = .ok (.bipush 45, 2) := by decide +kernel
theorem dX4_sum_31 : decode cX4_sum 31 = .ok (.if_icmp .ne 35, 3) := by decide +kernel
theorem dX4_sum_34 : decode cX4_sum 34 = .ok (.aload_n 0, 1) := by decide +kernel
theorem dX4_sum_35 : decode cX4_sum 35 = .ok (.getfield 21, 3) := by decide +kernel
theorem dX4_sum_38 : decode cX4_sum 38 = .ok (.invokevirtual 35, 3) := by decide +kernel
theorem dX4_sum_41 : decode cX4_sum 41 = .ok (.aload_n 0, 1) := by decide +kernel
theorem dX4_sum_42 : decode cX4_sum 42 = .ok (.iload_n 1, 1) := by decide +kernel
theorem dX4_sum_43 : decode cX4_sum 43 = .ok (.invokevirtual 83, 3) := by decide +kernel
theorem dX4_sum_46 : decode cX4_sum 46 = .ok (.aload_n 0, 1) := by decide +kernel
theorem dX4_sum_47 : decode cX4_sum 47 = .ok (.iload_n 2, 1) := by decide +kernel
theorem dX4_sum_48 : decode cX4_sum 48 = .ok (.iconst 0, 1) := by decide +kernel
theorem dX4_sum_49 : decode cX4_sum 49 = .ok (.invokevirtual 70, 3) := by decide +kernel
theorem dX4_sum_52 : decode cX4_sum 52 = .ok (.aload_n 0, 1) := by decide +kernel
theorem dX4_sum_53 : decode cX4_sum 53 = .ok (.getfield 21, 3) := by decide +kernel
theorem dX4_sum_56 : decode cX4_sum 56 = .ok (.invokevirtual 31, 3) := by decide +kernel
theorem dX4_sum_59 : decode cX4_sum 59 = .ok (.istore_n 2, 1) := by decide +kernel
theorem dX4_sum_60 : decode cX4_sum 60 = .ok (.iinc 3 1, 3) := by decide +kernel
theorem dX4_sum_63 : decode cX4_sum 63 = .ok (.goto (-48), 3) := by decide +kernel
theorem dX4_sum_66 : decode cX4_sum 66 = .ok (.return_, 1) := by decide +kernel
theorem dX4_term_0 : decode cX4_term 0 = .ok (.aload_n 0, 1) := by decide +kernel
theorem dX4_term_1 : decode cX4_term 1 = .ok (.iload_n 1, 1) := by decide +kernel
theorem dX4_term_2 : decode cX4_term 2 = .ok (.invokevirtual 86, 3) := by decide +kernel
theorem dX4_term_5 : decode cX4_term 5 = .ok (.aload_n 0, 1) := by decide +kernel
theorem dX4_term_6 : decode cX4_term 6 = .ok (.getfield 21, 3) := by decide +kernel
theorem dX4_term_9 : decode cX4_term 9 = .ok (.invokevirtual 31, 3) := by decide +kernel
theorem dX4_term_12 : decode cX4_term 12 = .ok (.istore_n 2, 1) := by decide +kernel
theorem dX4_term_13 : decode cX4_term 13 = .ok (.iconst 0, 1) := by decide +kernel
theorem dX4_term_14 : decode cX4_term 14 = .ok (.istore_n 3, 1) := by decide +kernel
theorem dX4_term_15 : decode cX4_term 15 = .ok (.iload_n 3, 1) := by decide +kernel
theorem dX4_term_16 : decode cX4_term 16 = .ok (.sipush 240, 3) := by decide +kernel
theorem dX4_term_19 : decode cX4_term 19 = .ok (.if_icmp .ge 47, 3) := by decide +kernel
theorem dX4_term_22 : decode cX4_term 22 = .ok (.iload_n 2, 1) := by decide +kernel
theorem dX4_term_23 : decode cX4_term 23 = .ok (.bipush 42, 2) := by decide +kernel
theorem dX4_term_25 : decode cX4_term 25 = .ok (.if_icmp .eq 9, 3) := by decide +kernel
theorem dX4_term_28 : decode cX4_term 28 = .ok (.iload_n 2, 1) := by decide +kernel
theorem dX4_term_29 : decode cX4_term 29 = .ok (.bipush 47, 2) := by decide +kernel
theorem dX4_term_31 : decode cX4_term 31 = .ok (.if_icmp .ne 35, 3) := by decide +kernel
theorem dX4_term_34 : decode cX4_term 34 = .ok (.aload_n 0, 1) := by decide +kernel
theorem dX4_term_35 : decode cX4_term 35 = .ok (.getfield 21, 3) := by decide +kernel
theorem dX4_term_38 : decode cX4_term 38 = .ok (.invokevirtual 35, 3) := by decide +kernel
theorem dX4_term_41 : decode cX4_term 41 = .ok (.aload_n 0, 1) := by decide +kernel
theorem dX4_term_42 : decode cX4_term 42 = .ok (.iload_n 1, 1) := by decide +kernel
theorem dX4_term_43 : decode cX4_term 43 = .ok (.invokevirtual 86, 3) := by decide +kernel
theorem dX4_term_46 : decode cX4_term 46 = .ok (.aload_n 0, 1) := by decide +kernel
theorem dX4_term_47 : decode cX4_term 47 = .ok (.iload_n 2, 1) := by decide +kernel
theorem dX4_term_48 : decode cX4_term 48 = .ok (.iconst 0, 1) := by decide +kernel
theorem dX4_term_49 : decode cX4_term 49 = .ok (.invokevirtual 70, 3) := by decide +kernel
theorem dX4_term_52 : decode cX4_term 52 = .ok (.aload_n 0, 1) := by decide +kernel
theorem dX4_term_53 : decode cX4_term 53 = .ok (.getfield 21, 3) := by decide +kernel
theorem dX4_term_56 : decode cX4_term 56 = .ok (.invokevirtual 31, 3) := by decide +kernel
theorem dX4_term_59 : decode cX4_term 59 = .ok (.istore_n 2, 1) := by decide +kernel
theorem dX4_term_60 : decode cX4_term 60 = .ok (.iinc 3 1, 3) := by decide +kernel
theorem dX4_term_63 : decode cX4_term 63 = .ok (.goto (-48), 3) := by decide +kernel
theorem dX4_term_66 : decode cX4_term 66 = .ok (.return_, 1) := by decide +kernel
theorem dX4_atom_0 : decode cX4_atom 0 = .ok (.aload_n 0, 1) := by decide +kernel
theorem dX4_atom_1 : decode cX4_atom 1 = .ok (.getfield 21, 3) := by decide +kernel
theorem dX4_atom_4 : decode cX4_atom 4 = .ok (.invokevirtual 31, 3) := by decide +kernel
theorem dX4_atom_7 : decode cX4_atom 7 = .ok (.istore_n 2, 1) := by decide +kernel
theorem dX4_atom_8 : decode cX4_atom 8 = .ok (.iload_n 2, 1) := by decide +kernel
theorem dX4_atom_9 : decode cX4_atom 9 = .ok (.invokestatic 89, 3) := by decide +kernel
theorem dX4_atom_12 : decode cX4_atom 12 = .ok (.ifCond .eq 20, 3) := by decide +kernel
theorem dX4_atom_15 : decode cX4_atom 15 = .ok (.aload_n 0, 1) := by decide +kernel
theorem dX4_atom_16 : decode cX4_atom 16 = .ok (.bipush 35, 2) := by decide +kernel
theorem dX4_atom_18 : decode cX4_atom 18 = .ok (.aload_n 0, 1) := by decide +kernel
theorem dX4_atom_19 : decode cX4_atom 19 = .ok (.getfield 21, 3) := by decide +kernel
theorem dX4_atom_22 : decode cX4_atom 22 = .ok (.iconst 4, 1) := by decide +kernel
theorem dX4_atom_23 : decode cX4_atom 23 = .ok (.invokevirtual 92, 3) := by decide +kernel
theorem dX4_atom_26 : decode cX4_atom 26 = .ok (.invokevirtual 70, 3) := by decide +kernel
theorem dX4_atom_29 : decode cX4_atom 29 = .ok (.goto 71, 3) := by decide +kernel
theorem dX4_atom_32 : decode cX4_atom 32 = .ok (.iload_n 2, 1) := by decide +kernel
theorem dX4_atom_33 : decode cX4_atom 33 = .ok (.bipush 91, 2) := by decide +kernel
theorem dX4_atom_35 : decode cX4_atom 35 = .ok (.if_icmp .ne 30, 3) := by decide +kernel
theorem dX4_atom_38 : decode cX4_atom 38 = .ok (.aload_n 0, 1) := by decide +kernel
theorem dX4_atom_39 : decode cX4_atom 39 = .ok (.iload_n 1, 1) := by decide +kernel
theorem dX4_atom_40 : decode cX4_atom 40 = .ok (.invokevirtual 80, 3) := by decide +kernel
theorem dX4_atom_43 : decode cX4_atom 43 = .ok (.ifCond .eq 57, 3) := by decide +kernel
theorem dX4_atom_46 : decode cX4_atom 46 = .ok (.aload_n 0, 1) := by decide +kernel
theorem dX4_atom_47 : decode cX4_atom 47 = .ok (.iload_n 1, 1) := by decide +kernel
theorem dX4_atom_48 : decode cX4_atom 48 = .ok (.iconst 1, 1) := by decide +kernel
theorem dX4_atom_49 : decode cX4_atom 49 = .ok (.iadd, 1) := by decide +kernel
theorem dX4_atom_50 : decode cX4_atom 50 = .ok (.invokevirtual 59, 3) := by decide +kernel
theorem dX4_atom_53 : decode cX4_atom 53 = .ok (.aload_n 0, 1) := by decide +kernel
theorem dX4_atom_54 : decode cX4_atom 54 = .ok (.getfield 21, 3) := by decide +kernel
theorem dX4_atom_57 : decode cX4_atom 57 = .ok (.bipush 93, 2) := by decide +kernel
theorem dX4_atom_59 : decode cX4_atom 59 = .ok (.invokevirtual 55, 3) := by decide +kernel
theorem dX4_atom_62 : decode cX4_atom 62 = .ok (.goto 38, 3) := by decide +kernel
theorem dX4_atom_65 : decode cX4_atom 65 = .ok (.iload_n 2, 1) := by decide +kernel
theorem dX4_atom_66 : decode cX4_atom 66 = .ok (.invokestatic 96, 3) := by decide +kernel
theorem dX4_atom_69 : decode cX4_atom 69 = .ok (.iconst (-1), 1) := by decide +kernel
theorem dX4_atom_70 : decode cX4_atom 70 = .ok (.if_icmp .eq 23, 3) := by decide +kernel
theorem dX4_atom_73 : decode cX4_atom 73 = .ok (.aload_n 0, 1) := by decide +kernel
theorem dX4_atom_74 : decode cX4_atom 74 = .ok (.bipush 64, 2) := by decide +kernel
theorem dX4_atom_76 : decode cX4_atom 76 = .ok (.iload_n 2, 1) := by decide +kernel
theorem dX4_atom_77 : decode cX4_atom 77 = .ok (.invokestatic 96, 3) := by decide +kernel
theorem dX4_atom_80 : decode cX4_atom 80 = .ok (.invokevirtual 70, 3) := by decide +kernel
theorem dX4_atom_83 : decode cX4_atom 83 = .ok (.aload_n 0, 1) := by decide +kernel
theorem dX4_atom_84 : decode cX4_atom 84 = .ok (.getfield 21, 3) := by decide +kernel
theorem dX4_atom_87 : decode cX4_atom 87 = .ok (.invokevirtual 35, 3) := by decide +kernel
theorem dX4_atom_90 : decode cX4_atom 90 = .ok (.goto 10, 3) := by decide +kernel
theorem dX4_atom_93 : decode cX4_atom 93 = .ok (.aload_n 0, 1) := by decide +kernel
theorem dX4_atom_94 : decode cX4_atom 94 = .ok (.getfield 21, 3) := by decide +kernel
theorem dX4_atom_97 : decode cX4_atom 97 = .ok (.invokevirtual 38, 3) := by decide +kernel
theorem dX4_atom_100 : decode cX4_atom 100 = .ok (.return_, 1) := by decide +kernel
theorem dX5_init_0 : decode cX5_init 0 = .ok (.aload_n 0, 1) := by decide +kernel
theorem dX5_init_1 : decode cX5_init 1 = .ok (.invokespecial 3, 3) := by decide +kernel
theorem dX5_init_4 : decode cX5_init 4 = .ok (.aload_n 0, 1) := by decide +kernel
theorem dX5_init_5 : decode cX5_init 5 = .ok (.sipush 1720, 3) := by decide +kernel
theorem dX5_init_8 : decode cX5_init 8 = .ok (.newarray .int, 2) := by decide +kernel
theorem dX5_init_10 : decode cX5_init 10 = .ok (.putfield 13, 3) := by decide +kernel
theorem dX5_init_13 : decode cX5_init 13 = .ok (.aload_n 0, 1) := by decide +kernel
theorem dX5_init_14 : decode cX5_init 14 = .ok (.iconst 0, 1) := by decide +kernel
theorem dX5_init_15 : decode cX5_init 15 = .ok (.putfield 17, 3) := by decide +kernel
theorem dX5_init_18 : decode cX5_init 18 = .ok (.aload_n 0, 1) := by decide +kernel
theorem dX5_init_19 : decode cX5_init 19 = .ok (.iconst 0, 1) := by decide +kernel
theorem dX5_init_20 : decode cX5_init 20 = .ok (.putfield 21, 3) := by decide +kernel
theorem dX5_init_23 : decode cX5_init 23 = .ok (.aload_n 0, 1) := by decide +kernel
theorem dX5_init_24 : decode cX5_init 24 = .ok (.sipush 128, 3) := by decide +kernel
theorem dX5_init_27 : decode cX5_init 27 = .ok (.newarray .int, 2) := by decide +kernel
theorem dX5_init_29 : decode cX5_init 29 = .ok (.putfield 24, 3) := by decide +kernel
theorem dX5_init_32 : decode cX5_init 32 = .ok (.aload_n 0, 1) := by decide +kernel
theorem dX5_init_33 : decode cX5_init 33 = .ok (.sipush 128, 3) := by decide +kernel
theorem dX5_init_36 : decode cX5_init 36 = .ok (.newarray .int, 2) := by decide +kernel
theorem dX5_init_38 : decode cX5_init 38 = .ok (.putfield 27, 3) := by decide +kernel
theorem dX5_init_41 : decode cX5_init 41 = .ok (.aload_n 0, 1) := by decide +kernel
theorem dX5_init_42 : decode cX5_init 42 = .ok (.bipush 43, 2) := by decide +kernel
theorem dX5_init_44 : decode cX5_init 44 = .ok (.newarray .int, 2) := by decide +kernel
theorem dX5_init_46 : decode cX5_init 46 = .ok (.putfield 30, 3) := by decide +kernel
theorem dX5_init_49 : decode cX5_init 49 = .ok (.aload_n 0, 1) := by decide +kernel
theorem dX5_init_50 : decode cX5_init 50 = .ok (.iconst 0, 1) := by decide +kernel
theorem dX5_init_51 : decode cX5_init 51 = .ok (.putfield 33, 3) := by decide +kernel
theorem dX5_init_54 : decode cX5_init 54 = .ok (.return_, 1) := by decide +kernel
theorem dX5_forget_0 : decode cX5_forget 0 = .ok (.aload_n 0, 1) := by decide +kernel
theorem dX5_forget_1 : decode cX5_forget 1 = .ok (.iconst 0, 1) := by decide +kernel
theorem dX5_forget_2 : decode cX5_forget 2 = .ok (.putfield 21, 3) := by decide +kernel
theorem dX5_forget_5 : decode cX5_forget 5 = .ok (.aload_n 0, 1) := by decide +kernel
theorem dX5_forget_6 : decode cX5_forget 6 = .ok (.iconst 0, 1) := by decide +kernel
theorem dX5_forget_7 : decode cX5_forget 7 = .ok (.putfield 33, 3) := by decide +kernel
theorem dX5_forget_10 : decode cX5_forget 10 = .ok (.return_, 1) := by decide +kernel
theorem dX5_keep_0 : decode cX5_keep 0 = .ok (.aload_n 1, 1) := by decide +kernel
theorem dX5_keep_1 : decode cX5_keep 1 = .ok (.aload_n 0, 1) := by decide +kernel
theorem dX5_keep_2 : decode cX5_keep 2 = .ok (.getfield 13, 3) := by decide +kernel
theorem dX5_keep_5 : decode cX5_keep 5 = .ok (.aload_n 0, 1) := by decide +kernel
theorem dX5_keep_6 : decode cX5_keep 6 = .ok (.getfield 17, 3) := by decide +kernel
theorem dX5_keep_9 : decode cX5_keep 9 = .ok (.bipush 43, 2) := by decide +kernel
theorem dX5_keep_11 : decode cX5_keep 11 = .ok (.imul, 1) := by decide +kernel
theorem dX5_keep_12 : decode cX5_keep 12 = .ok (.invokevirtual 37, 3) := by decide +kernel
theorem dX5_keep_15 : decode cX5_keep 15 = .ok (.aload_n 0, 1) := by decide +kernel
theorem dX5_keep_16 : decode cX5_keep 16 = .ok (.aload_n 0, 1) := by decide +kernel
theorem dX5_keep_17 : decode cX5_keep 17 = .ok (.getfield 17, 3) := by decide +kernel
theorem dX5_keep_20 : decode cX5_keep 20 = .ok (.iconst 1, 1) := by decide +kernel
theorem dX5_keep_21 : decode cX5_keep 21 = .ok (.iadd, 1) := by decide +kernel
theorem dX5_keep_22 : decode cX5_keep 22 = .ok (.bipush 40, 2) := by decide +kernel
theorem dX5_keep_24 : decode cX5_keep 24 = .ok (.irem, 1) := by decide +kernel
theorem dX5_keep_25 : decode cX5_keep 25 = .ok (.putfield 17, 3) := by decide +kernel
theorem dX5_keep_28 : decode cX5_keep 28 = .ok (.aload_n 0, 1) := by decide +kernel
theorem dX5_keep_29 : decode cX5_keep 29 = .ok (.bipush 40, 2) := by decide +kernel
theorem dX5_keep_31 : decode cX5_keep 31 = .ok (.aload_n 0, 1) := by decide +kernel
theorem dX5_keep_32 : decode cX5_keep 32 = .ok (.getfield 21, 3) := by decide +kernel
theorem dX5_keep_35 : decode cX5_keep 35 = .ok (.iconst 1, 1) := by decide +kernel
theorem dX5_keep_36 : decode cX5_keep 36 = .ok (.iadd, 1) := by decide +kernel
theorem dX5_keep_37 : decode cX5_keep 37 = .ok (.invokestatic 41, 3) := by decide +kernel
theorem dX5_keep_40 : decode cX5_keep 40 = .ok (.putfield 21, 3) := by decide +kernel
theorem dX5_keep_43 : decode cX5_keep 43 = .ok (.return_, 1) := by decide +kernel
theorem dX5_takeBack_0 : decode cX5_takeBack 0 = .ok (.aload_n 0, 1) := by decide +kernel
theorem dX5_takeBack_1 : decode cX5_takeBack 1 = .ok (.getfield 21, 3) := by decide +kernel
theorem dX5_takeBack_4 : decode cX5_takeBack 4 = .ok (.ifCond .ne 5, 3) := by decide +kernel
theorem dX5_takeBack_7 : decode cX5_takeBack 7 = .ok (.iconst (-1), 1) := by decide +kernel
theorem dX5_takeBack_8 : decode cX5_takeBack 8 = .ok (.ireturn, 1) := by decide +kernel
theorem dX5_takeBack_9 : decode cX5_takeBack 9 = .ok (.aload_n 0, 1) := by decide +kernel
theorem dX5_takeBack_10 : decode cX5_takeBack 10 = .ok (.aload_n 0, 1) := by decide +kernel
theorem dX5_takeBack_11 : decode cX5_takeBack 11 = .ok (.getfield 17, 3) := by decide +kernel
theorem dX5_takeBack_14 : decode cX5_takeBack 14 = .ok (.bipush 40, 2) := by decide +kernel
theorem dX5_takeBack_16 : decode cX5_takeBack 16 = .ok (.iadd, 1) := by decide +kernel
theorem dX5_takeBack_17 : decode cX5_takeBack 17 = .ok (.iconst 1, 1) := by decide +kernel
theorem dX5_takeBack_18 : decode cX5_takeBack 18 = .ok (.isub, 1) := by decide +kernel
theorem dX5_takeBack_19 : decode cX5_takeBack 19 = .ok (.bipush 40, 2) := by decide +kernel
theorem dX5_takeBack_21 : decode cX5_takeBack 21 = .ok (.irem, 1) := by decide +kernel
theorem dX5_takeBack_22 : decode cX5_takeBack 22 = .ok (.putfield 17, 3) := by decide +kernel
theorem dX5_takeBack_25 : decode cX5_takeBack 25 = .ok (.aload_n 0, 1) := by decide +kernel
theorem dX5_takeBack_26 : decode cX5_takeBack 26 = .ok (.dup, 1) := by decide +kernel
theorem dX5_takeBack_27 : decode cX5_takeBack 27 = .ok (.getfield 21, 3) := by decide +kernel
theorem dX5_takeBack_30 : decode cX5_takeBack 30 = .ok (.iconst 1, 1) := by decide +kernel
theorem dX5_takeBack_31 : decode cX5_takeBack 31 = .ok (.isub, 1) := by decide +kernel
theorem dX5_takeBack_32 : decode cX5_takeBack 32 = .ok (.putfield 21, 3) := by decide +kernel
theorem dX5_takeBack_35 : decode cX5_takeBack 35 = .ok (.aload_n 1, 1) := by decide +kernel
theorem dX5_takeBack_36 : decode cX5_takeBack 36 = .ok (.aload_n 0, 1) := by decide +kernel
theorem dX5_takeBack_37 : decode cX5_takeBack 37 = .ok (.getfield 13, 3) := by decide +kernel
theorem dX5_takeBack_40 : decode cX5_takeBack 40 = .ok (.aload_n 0, 1) := by decide +kernel
theorem dX5_takeBack_41 : decode cX5_takeBack 41 = .ok (.getfield 17, 3) := by decide +kernel
theorem dX5_takeBack_44 : decode cX5_takeBack 44 = .ok (.bipush 43, 2) := by decide +kernel
theorem dX5_takeBack_46 : decode cX5_takeBack 46 = .ok (.imul, 1) := by decide +kernel
theorem dX5_takeBack_47 : decode cX5_takeBack 47 = .ok (.invokevirtual 47, 3) := by decide +kernel
theorem dX5_takeBack_50 : decode cX5_takeBack 50 = .ok (.aload_n 0, 1) := by decide +kernel
theorem dX5_takeBack_51 : decode cX5_takeBack 51 = .ok (.getfield 21, 3) := by decide +kernel
theorem dX5_takeBack_54 : decode cX5_takeBack 54 = .ok (.ireturn, 1) := by decide +kernel
theorem dX5_write_0 : decode cX5_write 0 = .ok (.aload_n 0, 1) := by decide +kernel
theorem dX5_write_1 : decode cX5_write 1 = .ok (.getfield 24, 3) := by decide +kernel
theorem dX5_write_4 : decode cX5_write 4 = .ok (.aload_n 1, 1) := by decide +kernel
theorem dX5_write_5 : decode cX5_write 5 = .ok (.getfield 50, 3) := by decide +kernel
theorem dX5_write_8 : decode cX5_write 8 = .ok (.sipush 128, 3) := by decide +kernel
theorem dX5_write_11 : decode cX5_write 11 = .ok (.irem, 1) := by decide +kernel
theorem dX5_write_12 : decode cX5_write 12 = .ok (.iload_n 2, 1) := by decide +kernel
theorem dX5_write_13 : decode cX5_write 13 = .ok (.bipush 8, 2) := by decide +kernel
theorem dX5_write_15 : decode cX5_write 15 = .ok (.ishl, 1) := by decide +kernel
theorem dX5_write_16 : decode cX5_write 16 = .ok (.aload_n 1, 1) := by decide +kernel
theorem dX5_write_17 : decode cX5_write 17 = .ok (.getfield 53, 3) := by decide +kernel
theorem dX5_write_20 : decode cX5_write 20 = .ok (.iconst 4, 1) := by decide +kernel
theorem dX5_write_21 : decode cX5_write 21 = .ok (.ishl, 1) := by decide +kernel
theorem dX5_write_22 : decode cX5_write 22 = .ok (.ior, 1) := by decide +kernel
theorem dX5_write_23 : decode cX5_write 23 = .ok (.aload_n 1, 1) := by decide +kernel
theorem dX5_write_24 : decode cX5_write 24 = .ok (.getfield 56, 3) := by decide +kernel
theorem dX5_write_27 : decode cX5_write 27 = .ok (.ior, 1) := by decide +kernel
theorem dX5_write_28 : decode cX5_write 28 = .ok (.iastore, 1) := by decide +kernel
theorem dX5_write_29 : decode cX5_write 29 = .ok (.aload_n 1, 1) := by decide +kernel
theorem dX5_write_30 : decode cX5_write 30 = .ok (.dup, 1) := by decide +kernel
theorem dX5_write_31 : decode cX5_write 31 = .ok (.getfield 50, 3) := by decide +kernel
theorem dX5_write_34 : decode cX5_write 34 = .ok (.iconst 1, 1) := by decide +kernel
theorem dX5_write_35 : decode cX5_write 35 = .ok (.iadd, 1) := by decide +kernel
theorem dX5_write_36 : decode cX5_write 36 = .ok (.putfield 50, 3) := by decide +kernel
theorem dX5_write_39 : decode cX5_write 39 = .ok (.return_, 1) := by decide +kernel
theorem dX5_logLength_0 : decode cX5_logLength 0 = .ok (.bipush 60, 2) := by decide +kernel
theorem dX5_logLength_2 : decode cX5_logLength 2 = .ok (.aload_n 0, 1) := by decide +kernel
theorem dX5_logLength_3 : decode cX5_logLength 3 = .ok (.getfield 50, 3) := by decide +kernel
theorem dX5_logLength_6 : decode cX5_logLength 6 = .ok (.invokestatic 41, 3) := by decide +kernel
theorem dX5_logLength_9 : decode cX5_logLength 9 = .ok (.ireturn, 1) := by decide +kernel
theorem dX5_read_0 : decode cX5_read 0 = .ok (.iload_n 2, 1) := by decide +kernel
theorem dX5_read_1 : decode cX5_read 1 = .ok (.ifCond .lt 11, 3) := by decide +kernel
theorem dX5_read_4 : decode cX5_read 4 = .ok (.iload_n 2, 1) := by decide +kernel
theorem dX5_read_5 : decode cX5_read 5 = .ok (.aload_n 1, 1) := by decide +kernel
theorem dX5_read_6 : decode cX5_read 6 = .ok (.invokestatic 59, 3) := by decide +kernel
theorem dX5_read_9 : decode cX5_read 9 = .ok (.if_icmp .lt 5, 3) := by decide +kernel
theorem dX5_read_12 : decode cX5_read 12 = .ok (.iconst (-1), 1) := by decide +kernel
theorem dX5_read_13 : decode cX5_read 13 = .ok (.ireturn, 1) := by decide +kernel
theorem dX5_read_14 : decode cX5_read 14 = .ok (.aload_n 0, 1) := by decide +kernel
theorem dX5_read_15 : decode cX5_read 15 = .ok (.getfield 24, 3) := by decide +kernel
theorem dX5_read_18 : decode cX5_read 18 = .ok (.aload_n 1, 1) := by decide +kernel
theorem dX5_read_19 : decode cX5_read 19 = .ok (.getfield 50, 3) := by decide +kernel
theorem dX5_read_22 : decode cX5_read 22 = .ok (.iconst 1, 1) := by decide +kernel
theorem dX5_read_23 : decode cX5_read 23 = .ok (.isub, 1) := by decide +kernel
theorem dX5_read_24 : decode cX5_read 24 = .ok (.iload_n 2, 1) := by decide +kernel
theorem dX5_read_25 : decode cX5_read 25 = .ok (.isub, 1) := by decide +kernel
theorem dX5_read_26 : decode cX5_read 26 = .ok (.sipush 128, 3) := by decide +kernel
theorem dX5_read_29 : decode cX5_read 29 = .ok (.irem, 1) := by decide +kernel
theorem dX5_read_30 : decode cX5_read 30 = .ok (.iaload, 1) := by decide +kernel
theorem dX5_read_31 : decode cX5_read 31 = .ok (.istore 4, 2) := by decide +kernel
theorem dX5_read_33 : decode cX5_read 33 = .ok (.iload_n 3, 1) := by decide +kernel
theorem dX5_read_34 : decode cX5_read 34 = .ok (.tableswitch 46 0 2 #[26, 32, 40], 26) := by decide +kernel
theorem dX5_read_60 : decode cX5_read 60 = .ok (.iload 4, 2) := by decide +kernel
theorem dX5_read_62 : decode cX5_read 62 = .ok (.bipush 8, 2) := by decide +kernel
theorem dX5_read_64 : decode cX5_read 64 = .ok (.ishr, 1) := by decide +kernel
theorem dX5_read_65 : decode cX5_read 65 = .ok (.ireturn, 1) := by decide +kernel
theorem dX5_read_66 : decode cX5_read 66 = .ok (.iload 4, 2) := by decide +kernel
theorem dX5_read_68 : decode cX5_read 68 = .ok (.iconst 4, 1) := by decide +kernel
theorem dX5_read_69 : decode cX5_read 69 = .ok (.ishr, 1) := by decide +kernel
theorem dX5_read_70 : decode cX5_read 70 = .ok (.bipush 15, 2) := by decide +kernel
theorem dX5_read_72 : decode cX5_read 72 = .ok (.iand, 1) := by decide +kernel
theorem dX5_read_73 : decode cX5_read 73 = .ok (.ireturn, 1) := by decide +kernel
theorem dX5_read_74 : decode cX5_read 74 = .ok (.iload 4, 2) := by decide +kernel
theorem dX5_read_76 : decode cX5_read 76 = .ok (.bipush 15, 2) := by decide +kernel
theorem dX5_read_78 : decode cX5_read 78 = .ok (.iand, 1) := by decide +kernel
theorem dX5_read_79 : decode cX5_read 79 = .ok (.ireturn, 1) := by decide +kernel
theorem dX5_read_80 : decode cX5_read 80 = .ok (.iconst (-1), 1) := by decide +kernel
theorem dX5_read_81 : decode cX5_read 81 = .ok (.ireturn, 1) := by decide +kernel
theorem dX5_draw_0 : decode cX5_draw 0 = .ok (.aload_n 1, 1) := by decide +kernel
theorem dX5_draw_1 : decode cX5_draw 1 = .ok (.aload_n 0, 1) := by decide +kernel
theorem dX5_draw_2 : decode cX5_draw 2 = .ok (.getfield 30, 3) := by decide +kernel
theorem dX5_draw_5 : decode cX5_draw 5 = .ok (.iconst 0, 1) := by decide +kernel
theorem dX5_draw_6 : decode cX5_draw 6 = .ok (.invokevirtual 37, 3) := by decide +kernel
theorem dX5_draw_9 : decode cX5_draw 9 = .ok (.aload_n 0, 1) := by decide +kernel
theorem dX5_draw_10 : decode cX5_draw 10 = .ok (.getfield 24, 3) := by decide +kernel
theorem dX5_draw_13 : decode cX5_draw 13 = .ok (.iconst 0, 1) := by decide +kernel
theorem dX5_draw_14 : decode cX5_draw 14 = .ok (.aload_n 0, 1) := by decide +kernel
theorem dX5_draw_15 : decode cX5_draw 15 = .ok (.getfield 27, 3) := by decide +kernel
theorem dX5_draw_18 : decode cX5_draw 18 = .ok (.iconst 0, 1) := by decide +kernel
theorem dX5_draw_19 : decode cX5_draw 19 = .ok (.sipush 128, 3) := by decide +kernel
theorem dX5_draw_22 : decode cX5_draw 22 = .ok (.invokestatic 63, 3) := by decide +kernel
theorem dX5_draw_25 : decode cX5_draw 25 = .ok (.aload_n 0, 1) := by decide +kernel
theorem dX5_draw_26 : decode cX5_draw 26 = .ok (.iconst 1, 1) := by decide +kernel
theorem dX5_draw_27 : decode cX5_draw 27 = .ok (.putfield 33, 3) := by decide +kernel
theorem dX5_draw_30 : decode cX5_draw 30 = .ok (.return_, 1) := by decide +kernel
theorem dX5_bringBack_0 : decode cX5_bringBack 0 = .ok (.aload_n 0, 1) := by decide +kernel
theorem dX5_bringBack_1 : decode cX5_bringBack 1 = .ok (.getfield 33, 3) := by decide +kernel
theorem dX5_bringBack_4 : decode cX5_bringBack 4 = .ok (.ifCond .ne 5, 3) := by decide +kernel
theorem dX5_bringBack_7 : decode cX5_bringBack 7 = .ok (.iconst 0, 1) := by decide +kernel
theorem dX5_bringBack_8 : decode cX5_bringBack 8 = .ok (.ireturn, 1) := by decide +kernel
theorem dX5_bringBack_9 : decode cX5_bringBack 9 = .ok (.aload_n 1, 1) := by decide +kernel
theorem dX5_bringBack_10 : decode cX5_bringBack 10 = .ok (.aload_n 0, 1) := by decide +kernel
theorem dX5_bringBack_11 : decode cX5_bringBack 11 = .ok (.getfield 30, 3) := by decide +kernel
theorem dX5_bringBack_14 : decode cX5_bringBack 14 = .ok (.iconst 0, 1) := by decide +kernel
theorem dX5_bringBack_15 : decode cX5_bringBack 15 = .ok (.invokevirtual 47, 3) := by decide +kernel
theorem dX5_bringBack_18 : decode cX5_bringBack 18 = .ok (.aload_n 0, 1) := by decide +kernel
theorem dX5_bringBack_19 : decode cX5_bringBack 19 = .ok (.getfield 27, 3) := by decide +kernel
theorem dX5_bringBack_22 : decode cX5_bringBack 22 = .ok (.iconst 0, 1) := by decide +kernel
theorem dX5_bringBack_23 : decode cX5_bringBack 23 = .ok (.aload_n 0, 1) := by decide +kernel
theorem dX5_bringBack_24 : decode cX5_bringBack 24 = .ok (.getfield 24, 3) := by decide +kernel
theorem dX5_bringBack_27 : decode cX5_bringBack 27 = .ok (.iconst 0, 1) := by decide +kernel
theorem dX5_bringBack_28 : decode cX5_bringBack 28 = .ok (.sipush 128, 3) := by decide +kernel
theorem dX5_bringBack_31 : decode cX5_bringBack 31 = .ok (.invokestatic 63, 3) := by decide +kernel
theorem dX5_bringBack_34 : decode cX5_bringBack 34 = .ok (.aload_n 0, 1) := by decide +kernel
theorem dX5_bringBack_35 : decode cX5_bringBack 35 = .ok (.iconst 0, 1) := by decide +kernel
theorem dX5_bringBack_36 : decode cX5_bringBack 36 = .ok (.putfield 21, 3) := by decide +kernel
theorem dX5_bringBack_39 : decode cX5_bringBack 39 = .ok (.iconst 1, 1) := by decide +kernel
theorem dX5_bringBack_40 : decode cX5_bringBack 40 = .ok (.ireturn, 1) := by decide +kernel
theorem dX6_init_0 : decode cX6_init 0 = .ok (.aload_n 0, 1) := by decide +kernel
theorem dX6_init_1 : decode cX6_init 1 = .ok (.invokespecial 3, 3) := by decide +kernel
theorem dX6_init_4 : decode cX6_init 4 = .ok (.aload_n 0, 1) := by decide +kernel
theorem dX6_init_5 : decode cX6_init 5 = .ok (.bipush 30, 2) := by decide +kernel
theorem dX6_init_7 : decode cX6_init 7 = .ok (.newarray .int, 2) := by decide +kernel
theorem dX6_init_9 : decode cX6_init 9 = .ok (.putfield 11, 3) := by decide +kernel
theorem dX6_init_12 : decode cX6_init 12 = .ok (.return_, 1) := by decide +kernel
theorem dX6_measure_0 : decode cX6_measure 0 = .ok (.aload_n 0, 1) := by decide +kernel
theorem dX6_measure_1 : decode cX6_measure 1 = .ok (.getfield 11, 3) := by decide +kernel
theorem dX6_measure_4 : decode cX6_measure 4 = .ok (.sipush 1000, 3) := by decide +kernel
theorem dX6_measure_7 : decode cX6_measure 7 = .ok (.invokestatic 17, 3) := by decide +kernel
theorem dX6_measure_10 : decode cX6_measure 10 = .ok (.aload_n 0, 1) := by decide +kernel
theorem dX6_measure_11 : decode cX6_measure 11 = .ok (.getfield 11, 3) := by decide +kernel
theorem dX6_measure_14 : decode cX6_measure 14 = .ok (.iload_n 2, 1) := by decide +kernel
theorem dX6_measure_15 : decode cX6_measure 15 = .ok (.iload_n 3, 1) := by decide +kernel
theorem dX6_measure_16 : decode cX6_measure 16 = .ok (.iload_n 2, 1) := by decide +kernel
theorem dX6_measure_17 : decode cX6_measure 17 = .ok (.ishr, 1) := by decide +kernel
theorem dX6_measure_18 : decode cX6_measure 18 = .ok (.iconst 1, 1) := by decide +kernel
theorem dX6_measure_19 : decode cX6_measure 19 = .ok (.iand, 1) := by decide +kernel
theorem dX6_measure_20 : decode cX6_measure 20 = .ok (.iconst 1, 1) := by decide +kernel
theorem dX6_measure_21 : decode cX6_measure 21 = .ok (.if_icmp .ne 8, 3) := by decide +kernel
theorem dX6_measure_24 : decode cX6_measure 24 = .ok (.iload 4, 2) := by decide +kernel
theorem dX6_measure_26 : decode cX6_measure 26 = .ok (.goto 5, 3) := by decide +kernel
theorem dX6_measure_29 : decode cX6_measure 29 = .ok (.iload 5, 2) := by decide +kernel
theorem dX6_measure_31 : decode cX6_measure 31 = .ok (.iastore, 1) := by decide +kernel
theorem dX6_measure_32 : decode cX6_measure 32 = .ok (.iconst 1, 1) := by decide +kernel
theorem dX6_measure_33 : decode cX6_measure 33 = .ok (.istore 6, 2) := by decide +kernel
theorem dX6_measure_35 : decode cX6_measure 35 = .ok (.iconst 0, 1) := by decide +kernel
theorem dX6_measure_36 : decode cX6_measure 36 = .ok (.istore 7, 2) := by decide +kernel
theorem dX6_measure_38 : decode cX6_measure 38 = .ok (.iload 7, 2) := by decide +kernel
theorem dX6_measure_40 : decode cX6_measure 40 = .ok (.aload_n 1, 1) := by decide +kernel
theorem dX6_measure_41 : decode cX6_measure 41 = .ok (.getfield 23, 3) := by decide +kernel
theorem dX6_measure_44 : decode cX6_measure 44 = .ok (.if_icmp .ge 90, 3) := by decide +kernel
theorem dX6_measure_47 : decode cX6_measure 47 = .ok (.iload 6, 2) := by decide +kernel
theorem dX6_measure_49 : decode cX6_measure 49 = .ok (.ifCond .eq 85, 3) := by decide +kernel
theorem dX6_measure_52 : decode cX6_measure 52 = .ok (.iconst 0, 1) := by decide +kernel
theorem dX6_measure_53 : decode cX6_measure 53 = .ok (.istore 6, 2) := by decide +kernel
theorem dX6_measure_55 : decode cX6_measure 55 = .ok (.iconst 0, 1) := by decide +kernel
theorem dX6_measure_56 : decode cX6_measure 56 = .ok (.istore 8, 2) := by decide +kernel
theorem dX6_measure_58 : decode cX6_measure 58 = .ok (.iload 8, 2) := by decide +kernel
theorem dX6_measure_60 : decode cX6_measure 60 = .ok (.aload_n 1, 1) := by decide +kernel
theorem dX6_measure_61 : decode cX6_measure 61 = .ok (.getfield 23, 3) := by decide +kernel
theorem dX6_measure_64 : decode cX6_measure 64 = .ok (.if_icmp .ge 64, 3) := by decide +kernel
theorem dX6_measure_67 : decode cX6_measure 67 = .ok (.iload_n 3, 1) := by decide +kernel
theorem dX6_measure_68 : decode cX6_measure 68 = .ok (.iload 8, 2) := by decide +kernel
theorem dX6_measure_70 : decode cX6_measure 70 = .ok (.ishr, 1) := by decide +kernel
theorem dX6_measure_71 : decode cX6_measure 71 = .ok (.iconst 1, 1) := by decide +kernel
theorem dX6_measure_72 : decode cX6_measure 72 = .ok (.iand, 1) := by decide +kernel
theorem dX6_measure_73 : decode cX6_measure 73 = .ok (.iconst 1, 1) := by decide +kernel
theorem dX6_measure_74 : decode cX6_measure 74 = .ok (.if_icmp .ne 8, 3) := by decide +kernel
theorem dX6_measure_77 : decode cX6_measure 77 = .ok (.iload 4, 2) := by decide +kernel
theorem dX6_measure_79 : decode cX6_measure 79 = .ok (.goto 5, 3) := by decide +kernel
theorem dX6_measure_82 : decode cX6_measure 82 = .ok (.iload 5, 2) := by decide +kernel
theorem dX6_measure_84 : decode cX6_measure 84 = .ok (.istore 9, 2) := by decide +kernel
theorem dX6_measure_86 : decode cX6_measure 86 = .ok (.iload 9, 2) := by decide +kernel
theorem dX6_measure_88 : decode cX6_measure 88 = .ok (.aload_n 0, 1) := by decide +kernel
theorem dX6_measure_89 : decode cX6_measure 89 = .ok (.aload_n 1, 1) := by decide +kernel
theorem dX6_measure_90 : decode cX6_measure 90 = .ok (.iload 8, 2) := by decide +kernel
theorem dX6_measure_92 : decode cX6_measure 92 = .ok (.invokevirtual 27, 3) := by decide +kernel
theorem dX6_measure_95 : decode cX6_measure 95 = .ok (.iadd, 1) := by decide +kernel
theorem dX6_measure_96 : decode cX6_measure 96 = .ok (.istore 10, 2) := by decide +kernel
theorem dX6_measure_98 : decode cX6_measure 98 = .ok (.iload 10, 2) := by decide +kernel
theorem dX6_measure_100 : decode cX6_measure 100 = .ok (.aload_n 0, 1) := by decide +kernel
theorem dX6_measure_101 : decode cX6_measure 101 = .ok (.getfield 11, 3) := by decide +kernel
theorem dX6_measure_104 : decode cX6_measure 104 = .ok (.iload 8, 2) := by decide +kernel
theorem dX6_measure_106 : decode cX6_measure 106 = .ok (.iaload, 1) := by decide +kernel
theorem dX6_measure_107 : decode cX6_measure 107 = .ok (.if_icmp .ge 15, 3) := by decide +kernel
theorem dX6_measure_110 : decode cX6_measure 110 = .ok (.aload_n 0, 1) := by decide +kernel
theorem dX6_measure_111 : decode cX6_measure 111 = .ok (.getfield 11, 3) := by decide +kernel
theorem dX6_measure_114 : decode cX6_measure 114 = .ok (.iload 8, 2) := by decide +kernel
theorem dX6_measure_116 : decode cX6_measure 116 = .ok (.iload 10, 2) := by decide +kernel
theorem dX6_measure_118 : decode cX6_measure 118 = .ok (.iastore, 1) := by decide +kernel
theorem dX6_measure_119 : decode cX6_measure 119 = .ok (.iconst 1, 1) := by decide +kernel
theorem dX6_measure_120 : decode cX6_measure 120 = .ok (.istore 6, 2) := by decide +kernel
theorem dX6_measure_122 : decode cX6_measure 122 = .ok (.iinc 8 1, 3) := by decide +kernel
theorem dX6_measure_125 : decode cX6_measure 125 = .ok (.goto (-67), 3) := by decide +kernel
theorem dX6_measure_128 : decode cX6_measure 128 = .ok (.iinc 7 1, 3) := by decide +kernel
theorem dX6_measure_131 : decode cX6_measure 131 = .ok (.goto (-93), 3) := by decide +kernel
theorem dX6_measure_134 : decode cX6_measure 134 = .ok (.return_, 1) := by decide +kernel
theorem dX6_leastBeside_0 : decode cX6_leastBeside 0 = .ok (.sipush 1000, 3) := by decide +kernel
theorem dX6_leastBeside_3 : decode cX6_leastBeside 3 = .ok (.istore_n 3, 1) := by decide +kernel
theorem dX6_leastBeside_4 : decode cX6_leastBeside 4 = .ok (.iconst 0, 1) := by decide +kernel
theorem dX6_leastBeside_5 : decode cX6_leastBeside 5 = .ok (.istore 4, 2) := by decide +kernel
theorem dX6_leastBeside_7 : decode cX6_leastBeside 7 = .ok (.iload 4, 2) := by decide +kernel
theorem dX6_leastBeside_9 : decode cX6_leastBeside 9 = .ok (.iconst 4, 1) := by decide +kernel
theorem dX6_leastBeside_10 : decode cX6_leastBeside 10 = .ok (.if_icmp .ge 39, 3) := by decide +kernel
theorem dX6_leastBeside_13 : decode cX6_leastBeside 13 = .ok (.aload_n 1, 1) := by decide +kernel
theorem dX6_leastBeside_14 : decode cX6_leastBeside 14 = .ok (.iload_n 2, 1) := by decide +kernel
theorem dX6_leastBeside_15 : decode cX6_leastBeside 15 = .ok (.iload 4, 2) := by decide +kernel
theorem dX6_leastBeside_17 : decode cX6_leastBeside 17 = .ok (.invokevirtual 31, 3) := by decide +kernel
theorem dX6_leastBeside_20 : decode cX6_leastBeside 20 = .ok (.istore 5, 2) := by decide +kernel
theorem dX6_leastBeside_22 : decode cX6_leastBeside 22 = .ok (.aload_n 1, 1) := by decide +kernel
theorem dX6_leastBeside_23 : decode cX6_leastBeside 23 = .ok (.iload 5, 2) := by decide +kernel
theorem dX6_leastBeside_25 : decode cX6_leastBeside 25 = .ok (.invokevirtual 35, 3) := by decide +kernel
theorem dX6_leastBeside_28 : decode cX6_leastBeside 28 = .ok (.ifCond .eq 15, 3) := by decide +kernel
theorem dX6_leastBeside_31 : decode cX6_leastBeside 31 = .ok (.iload_n 3, 1) := by decide +kernel
theorem dX6_leastBeside_32 : decode cX6_leastBeside 32 = .ok (.aload_n 0, 1) := by decide +kernel
theorem dX6_leastBeside_33 : decode cX6_leastBeside 33 = .ok (.getfield 11, 3) := by decide +kernel
theorem dX6_leastBeside_36 : decode cX6_leastBeside 36 = .ok (.iload 5, 2) := by decide +kernel
theorem dX6_leastBeside_38 : decode cX6_leastBeside 38 = .ok (.iaload, 1) := by decide +kernel
theorem dX6_leastBeside_39 : decode cX6_leastBeside 39 = .ok (.invokestatic 39, 3) := by decide +kernel
theorem dX6_leastBeside_42 : decode cX6_leastBeside 42 = .ok (.istore_n 3, 1) := by decide +kernel
theorem dX6_leastBeside_43 : decode cX6_leastBeside 43 = .ok (.iinc 4 1, 3) := by decide +kernel
theorem dX6_leastBeside_46 : decode cX6_leastBeside 46 = .ok (.goto (-39), 3) := by decide +kernel
theorem dX6_leastBeside_49 : decode cX6_leastBeside 49 = .ok (.iload_n 3, 1) := by decide +kernel
theorem dX6_leastBeside_50 : decode cX6_leastBeside 50 = .ok (.ireturn, 1) := by decide +kernel
theorem dX6_toll_0 : decode cX6_toll 0 = .ok (.aload_n 0, 1) := by decide +kernel
theorem dX6_toll_1 : decode cX6_toll 1 = .ok (.getfield 11, 3) := by decide +kernel
theorem dX6_toll_4 : decode cX6_toll 4 = .ok (.iload_n 1, 1) := by decide +kernel
theorem dX6_toll_5 : decode cX6_toll 5 = .ok (.iaload, 1) := by decide +kernel
theorem dX6_toll_6 : decode cX6_toll 6 = .ok (.ireturn, 1) := by decide +kernel
theorem dX6_steps_0 : decode cX6_steps 0 = .ok (.aload_n 0, 1) := by decide +kernel
theorem dX6_steps_1 : decode cX6_steps 1 = .ok (.getfield 11, 3) := by decide +kernel
theorem dX6_steps_4 : decode cX6_steps 4 = .ok (.iload_n 1, 1) := by decide +kernel
theorem dX6_steps_5 : decode cX6_steps 5 = .ok (.iaload, 1) := by decide +kernel
theorem dX6_steps_6 : decode cX6_steps 6 = .ok (.sipush 1000, 3) := by decide +kernel
theorem dX6_steps_9 : decode cX6_steps 9 = .ok (.if_icmp .ge 14, 3) := by decide +kernel
theorem dX6_steps_12 : decode cX6_steps 12 = .ok (.aload_n 0, 1) := by decide +kernel
theorem dX6_steps_13 : decode cX6_steps 13 = .ok (.getfield 11, 3) := by decide +kernel
theorem dX6_steps_16 : decode cX6_steps 16 = .ok (.iload_n 1, 1) := by decide +kernel
theorem dX6_steps_17 : decode cX6_steps 17 = .ok (.iaload, 1) := by decide +kernel
theorem dX6_steps_18 : decode cX6_steps 18 = .ok (.iconst 1, 1) := by decide +kernel
theorem dX6_steps_19 : decode cX6_steps 19 = .ok (.isub, 1) := by decide +kernel
theorem dX6_steps_20 : decode cX6_steps 20 = .ok (.goto 4, 3) := by decide +kernel
theorem dX6_steps_23 : decode cX6_steps 23 = .ok (.iconst (-1), 1) := by decide +kernel
theorem dX6_steps_24 : decode cX6_steps 24 = .ok (.ireturn, 1) := by decide +kernel
theorem dX6_firstStep_0 : decode cX6_firstStep 0 = .ok (.aload_n 0, 1) := by decide +kernel
theorem dX6_firstStep_1 : decode cX6_firstStep 1 = .ok (.getfield 11, 3) := by decide +kernel
theorem dX6_firstStep_4 : decode cX6_firstStep 4 = .ok (.iload_n 2, 1) := by decide +kernel
theorem dX6_firstStep_5 : decode cX6_firstStep 5 = .ok (.iaload, 1) := by decide +kernel
theorem dX6_firstStep_6 : decode cX6_firstStep 6 = .ok (.sipush 1000, 3) := by decide +kernel
theorem dX6_firstStep_9 : decode cX6_firstStep 9 = .ok (.if_icmp .lt 5, 3) := by decide +kernel
theorem dX6_firstStep_12 : decode cX6_firstStep 12 = .ok (.iconst (-1), 1) := by decide +kernel
theorem dX6_firstStep_13 : decode cX6_firstStep 13 = .ok (.ireturn, 1) := by decide +kernel
theorem dX6_firstStep_14 : decode cX6_firstStep 14 = .ok (.iconst 0, 1) := by decide +kernel
theorem dX6_firstStep_15 : decode cX6_firstStep 15 = .ok (.istore_n 3, 1) := by decide +kernel
theorem dX6_firstStep_16 : decode cX6_firstStep 16 = .ok (.iload_n 3, 1) := by decide +kernel
theorem dX6_firstStep_17 : decode cX6_firstStep 17 = .ok (.iconst 4, 1) := by decide +kernel
theorem dX6_firstStep_18 : decode cX6_firstStep 18 = .ok (.if_icmp .ge 47, 3) := by decide +kernel
theorem dX6_firstStep_21 : decode cX6_firstStep 21 = .ok (.aload_n 1, 1) := by decide +kernel
theorem dX6_firstStep_22 : decode cX6_firstStep 22 = .ok (.iload_n 2, 1) := by decide +kernel
theorem dX6_firstStep_23 : decode cX6_firstStep 23 = .ok (.iload_n 3, 1) := by decide +kernel
theorem dX6_firstStep_24 : decode cX6_firstStep 24 = .ok (.invokevirtual 31, 3) := by decide +kernel
theorem dX6_firstStep_27 : decode cX6_firstStep 27 = .ok (.istore 4, 2) := by decide +kernel
theorem dX6_firstStep_29 : decode cX6_firstStep 29 = .ok (.aload_n 1, 1) := by decide +kernel
theorem dX6_firstStep_30 : decode cX6_firstStep 30 = .ok (.iload 4, 2) := by decide +kernel
theorem dX6_firstStep_32 : decode cX6_firstStep 32 = .ok (.invokevirtual 35, 3) := by decide +kernel
theorem dX6_firstStep_35 : decode cX6_firstStep 35 = .ok (.ifCond .eq 24, 3) := by decide +kernel
theorem dX6_firstStep_38 : decode cX6_firstStep 38 = .ok (.aload_n 0, 1) := by decide +kernel
theorem dX6_firstStep_39 : decode cX6_firstStep 39 = .ok (.getfield 11, 3) := by decide +kernel
theorem dX6_firstStep_42 : decode cX6_firstStep 42 = .ok (.iload 4, 2) := by decide +kernel
theorem dX6_firstStep_44 : decode cX6_firstStep 44 = .ok (.iaload, 1) := by decide +kernel
theorem dX6_firstStep_45 : decode cX6_firstStep 45 = .ok (.aload_n 0, 1) := by decide +kernel
theorem dX6_firstStep_46 : decode cX6_firstStep 46 = .ok (.getfield 11, 3) := by decide +kernel
theorem dX6_firstStep_49 : decode cX6_firstStep 49 = .ok (.iload_n 2, 1) := by decide +kernel
theorem dX6_firstStep_50 : decode cX6_firstStep 50 = .ok (.iaload, 1) := by decide +kernel
theorem dX6_firstStep_51 : decode cX6_firstStep 51 = .ok (.iconst 1, 1) := by decide +kernel
theorem dX6_firstStep_52 : decode cX6_firstStep 52 = .ok (.isub, 1) := by decide +kernel
theorem dX6_firstStep_53 : decode cX6_firstStep 53 = .ok (.if_icmp .ne 6, 3) := by decide +kernel
theorem dX6_firstStep_56 : decode cX6_firstStep 56 = .ok (.iload 4, 2) := by decide +kernel
theorem dX6_firstStep_58 : decode cX6_firstStep 58 = .ok (.ireturn, 1) := by decide +kernel
theorem dX6_firstStep_59 : decode cX6_firstStep 59 = .ok (.iinc 3 1, 3) := by decide +kernel
theorem dX6_firstStep_62 : decode cX6_firstStep 62 = .ok (.goto (-46), 3) := by decide +kernel
theorem dX6_firstStep_65 : decode cX6_firstStep 65 = .ok (.iconst (-1), 1) := by decide +kernel
theorem dX6_firstStep_66 : decode cX6_firstStep 66 = .ok (.ireturn, 1) := by decide +kernel
theorem dX7_init_0 : decode cX7_init 0 = .ok (.aload_n 0, 1) := by decide +kernel
theorem dX7_init_1 : decode cX7_init 1 = .ok (.invokespecial 5, 3) := by decide +kernel
theorem dX7_init_4 : decode cX7_init 4 = .ok (.aload_n 0, 1) := by decide +kernel
theorem dX7_init_5 : decode cX7_init 5 = .ok (.iconst 1, 1) := by decide +kernel
theorem dX7_init_6 : decode cX7_init 6 = .ok (.putfield 11, 3) := by decide +kernel
theorem dX7_init_9 : decode cX7_init 9 = .ok (.aload_n 0, 1) := by decide +kernel
theorem dX7_init_10 : decode cX7_init 10 = .ok (.iconst 0, 1) := by decide +kernel
theorem dX7_init_11 : decode cX7_init 11 = .ok (.putfield 15, 3) := by decide +kernel
theorem dX7_init_14 : decode cX7_init 14 = .ok (.aload_n 0, 1) := by decide +kernel
theorem dX7_init_15 : decode cX7_init 15 = .ok (.iconst 0, 1) := by decide +kernel
theorem dX7_init_16 : decode cX7_init 16 = .ok (.putfield 18, 3) := by decide +kernel
theorem dX7_init_19 : decode cX7_init 19 = .ok (.aload_n 0, 1) := by decide +kernel
theorem dX7_init_20 : decode cX7_init 20 = .ok (.iconst 0, 1) := by decide +kernel
theorem dX7_init_21 : decode cX7_init 21 = .ok (.putfield 21, 3) := by decide +kernel
theorem dX7_init_24 : decode cX7_init 24 = .ok (.aload_n 0, 1) := by decide +kernel
theorem dX7_init_25 : decode cX7_init 25 = .ok (.iconst 0, 1) := by decide +kernel
theorem dX7_init_26 : decode cX7_init 26 = .ok (.putfield 24, 3) := by decide +kernel
theorem dX7_init_29 : decode cX7_init 29 = .ok (.aload_n 0, 1) := by decide +kernel
theorem dX7_init_30 : decode cX7_init 30 = .ok (.iconst 0, 1) := by decide +kernel
theorem dX7_init_31 : decode cX7_init 31 = .ok (.putfield 27, 3) := by decide +kernel
theorem dX7_init_34 : decode cX7_init 34 = .ok (.aload_n 0, 1) := by decide +kernel
theorem dX7_init_35 : decode cX7_init 35 = .ok (.iconst 0, 1) := by decide +kernel
theorem dX7_init_36 : decode cX7_init 36 = .ok (.putfield 30, 3) := by decide +kernel
theorem dX7_init_39 : decode cX7_init 39 = .ok (.aload_n 0, 1) := by decide +kernel
theorem dX7_init_40 : decode cX7_init 40 = .ok (.iconst 0, 1) := by decide +kernel
theorem dX7_init_41 : decode cX7_init 41 = .ok (.putfield 33, 3) := by decide +kernel
theorem dX7_init_44 : decode cX7_init 44 = .ok (.aload_n 0, 1) := by decide +kernel
theorem dX7_init_45 : decode cX7_init 45 = .ok (.iconst 0, 1) := by decide +kernel
theorem dX7_init_46 : decode cX7_init 46 = .ok (.putfield 36, 3) := by decide +kernel
theorem dX7_init_49 : decode cX7_init 49 = .ok (.aload_n 0, 1) := by decide +kernel
theorem dX7_init_50 : decode cX7_init 50 = .ok (.bipush 30, 2) := by decide +kernel
theorem dX7_init_52 : decode cX7_init 52 = .ok (.newarray .int, 2) := by decide +kernel
theorem dX7_init_54 : decode cX7_init 54 = .ok (.putfield 39, 3) := by decide +kernel
theorem dX7_init_57 : decode cX7_init 57 = .ok (.aload_n 0, 1) := by decide +kernel
theorem dX7_init_58 : decode cX7_init 58 = .ok (.iconst 4, 1) := by decide +kernel
theorem dX7_init_59 : decode cX7_init 59 = .ok (.newarray .int, 2) := by decide +kernel
theorem dX7_init_61 : decode cX7_init 61 = .ok (.putfield 43, 3) := by decide +kernel
theorem dX7_init_64 : decode cX7_init 64 = .ok (.aload_n 0, 1) := by decide +kernel
theorem dX7_init_65 : decode cX7_init 65 = .ok (.iconst 4, 1) := by decide +kernel
theorem dX7_init_66 : decode cX7_init 66 = .ok (.newarray .int, 2) := by decide +kernel
theorem dX7_init_68 : decode cX7_init 68 = .ok (.putfield 46, 3) := by decide +kernel
theorem dX7_init_71 : decode cX7_init 71 = .ok (.aload_n 0, 1) := by decide +kernel
theorem dX7_init_72 : decode cX7_init 72 = .ok (.iconst 4, 1) := by decide +kernel
theorem dX7_init_73 : decode cX7_init 73 = .ok (.newarray .int, 2) := by decide +kernel
theorem dX7_init_75 : decode cX7_init 75 = .ok (.putfield 49, 3) := by decide +kernel
theorem dX7_init_78 : decode cX7_init 78 = .ok (.aload_n 0, 1) := by decide +kernel
theorem dX7_init_79 : decode cX7_init 79 = .ok (.bipush 6, 2) := by decide +kernel
theorem dX7_init_81 : decode cX7_init 81 = .ok (.newarray .int, 2) := by decide +kernel
theorem dX7_init_83 : decode cX7_init 83 = .ok (.putfield 54, 3) := by decide +kernel
theorem dX7_init_86 : decode cX7_init 86 = .ok (.return_, 1) := by decide +kernel
theorem dX7_begin_0 : decode cX7_begin 0 = .ok (.aload_n 0, 1) := by decide +kernel
theorem dX7_begin_1 : decode cX7_begin 1 = .ok (.iload_n 1, 1) := by decide +kernel
theorem dX7_begin_2 : decode cX7_begin 2 = .ok (.putfield 11, 3) := by decide +kernel
theorem dX7_begin_5 : decode cX7_begin 5 = .ok (.aload_n 0, 1) := by decide +kernel
theorem dX7_begin_6 : decode cX7_begin 6 = .ok (.iload_n 2, 1) := by decide +kernel
theorem dX7_begin_7 : decode cX7_begin 7 = .ok (.putfield 15, 3) := by decide +kernel
theorem dX7_begin_10 : decode cX7_begin 10 = .ok (.aload_n 0, 1) := by decide +kernel
theorem dX7_begin_11 : decode cX7_begin 11 = .ok (.iload_n 1, 1) := by decide +kernel
theorem dX7_begin_12 : decode cX7_begin 12 = .ok (.iload_n 2, 1) := by decide +kernel
theorem dX7_begin_13 : decode cX7_begin 13 = .ok (.imul, 1) := by decide +kernel
theorem dX7_begin_14 : decode cX7_begin 14 = .ok (.putfield 18, 3) := by decide +kernel
theorem dX7_begin_17 : decode cX7_begin 17 = .ok (.aload_n 0, 1) := by decide +kernel
theorem dX7_begin_18 : decode cX7_begin 18 = .ok (.iload_n 3, 1) := by decide +kernel
theorem dX7_begin_19 : decode cX7_begin 19 = .ok (.putfield 21, 3) := by decide +kernel
theorem dX7_begin_22 : decode cX7_begin 22 = .ok (.aload_n 0, 1) := by decide +kernel
theorem dX7_begin_23 : decode cX7_begin 23 = .ok (.iconst 0, 1) := by decide +kernel
theorem dX7_begin_24 : decode cX7_begin 24 = .ok (.putfield 30, 3) := by decide +kernel
theorem dX7_begin_27 : decode cX7_begin 27 = .ok (.aload_n 0, 1) := by decide +kernel
theorem dX7_begin_28 : decode cX7_begin 28 = .ok (.iconst 0, 1) := by decide +kernel
theorem dX7_begin_29 : decode cX7_begin 29 = .ok (.putfield 33, 3) := by decide +kernel
theorem dX7_begin_32 : decode cX7_begin 32 = .ok (.aload_n 0, 1) := by decide +kernel
theorem dX7_begin_33 : decode cX7_begin 33 = .ok (.iconst 0, 1) := by decide +kernel
theorem dX7_begin_34 : decode cX7_begin 34 = .ok (.putfield 36, 3) := by decide +kernel
theorem dX7_begin_37 : decode cX7_begin 37 = .ok (.return_, 1) := by decide +kernel
theorem dX7_become_0 : decode cX7_become 0 = .ok (.aload_n 0, 1) := by decide +kernel
theorem dX7_become_1 : decode cX7_become 1 = .ok (.aload_n 1, 1) := by decide +kernel
theorem dX7_become_2 : decode cX7_become 2 = .ok (.getfield 11, 3) := by decide +kernel
theorem dX7_become_5 : decode cX7_become 5 = .ok (.aload_n 1, 1) := by decide +kernel
theorem dX7_become_6 : decode cX7_become 6 = .ok (.getfield 15, 3) := by decide +kernel
theorem dX7_become_9 : decode cX7_become 9 = .ok (.aload_n 1, 1) := by decide +kernel
theorem dX7_become_10 : decode cX7_become 10 = .ok (.getfield 21, 3) := by decide +kernel
theorem dX7_become_13 : decode cX7_become 13 = .ok (.invokevirtual 57, 3) := by decide +kernel
theorem dX7_become_16 : decode cX7_become 16 = .ok (.aload_n 0, 1) := by decide +kernel
theorem dX7_become_17 : decode cX7_become 17 = .ok (.aload_n 1, 1) := by decide +kernel
theorem dX7_become_18 : decode cX7_become 18 = .ok (.getfield 24, 3) := by decide +kernel
theorem dX7_become_21 : decode cX7_become 21 = .ok (.putfield 24, 3) := by decide +kernel
theorem dX7_become_24 : decode cX7_become 24 = .ok (.aload_n 0, 1) := by decide +kernel
theorem dX7_become_25 : decode cX7_become 25 = .ok (.aload_n 1, 1) := by decide +kernel
theorem dX7_become_26 : decode cX7_become 26 = .ok (.getfield 27, 3) := by decide +kernel
theorem dX7_become_29 : decode cX7_become 29 = .ok (.putfield 27, 3) := by decide +kernel
theorem dX7_become_32 : decode cX7_become 32 = .ok (.aload_n 0, 1) := by decide +kernel
theorem dX7_become_33 : decode cX7_become 33 = .ok (.aload_n 1, 1) := by decide +kernel
theorem dX7_become_34 : decode cX7_become 34 = .ok (.getfield 30, 3) := by decide +kernel
theorem dX7_become_37 : decode cX7_become 37 = .ok (.putfield 30, 3) := by decide +kernel
theorem dX7_become_40 : decode cX7_become 40 = .ok (.aload_n 0, 1) := by decide +kernel
theorem dX7_become_41 : decode cX7_become 41 = .ok (.aload_n 1, 1) := by decide +kernel
theorem dX7_become_42 : decode cX7_become 42 = .ok (.getfield 33, 3) := by decide +kernel
theorem dX7_become_45 : decode cX7_become 45 = .ok (.putfield 33, 3) := by decide +kernel
theorem dX7_become_48 : decode cX7_become 48 = .ok (.aload_n 0, 1) := by decide +kernel
theorem dX7_become_49 : decode cX7_become 49 = .ok (.aload_n 1, 1) := by decide +kernel
theorem dX7_become_50 : decode cX7_become 50 = .ok (.getfield 36, 3) := by decide +kernel
theorem dX7_become_53 : decode cX7_become 53 = .ok (.putfield 36, 3) := by decide +kernel
theorem dX7_become_56 : decode cX7_become 56 = .ok (.aload_n 1, 1) := by decide +kernel
theorem dX7_become_57 : decode cX7_become 57 = .ok (.getfield 39, 3) := by decide +kernel
theorem dX7_become_60 : decode cX7_become 60 = .ok (.iconst 0, 1) := by decide +kernel
theorem dX7_become_61 : decode cX7_become 61 = .ok (.aload_n 0, 1) := by decide +kernel
theorem dX7_become_62 : decode cX7_become 62 = .ok (.getfield 39, 3) := by decide +kernel
theorem dX7_become_65 : decode cX7_become 65 = .ok (.iconst 0, 1) := by decide +kernel
theorem dX7_become_66 : decode cX7_become 66 = .ok (.bipush 30, 2) := by decide +kernel
theorem dX7_become_68 : decode cX7_become 68 = .ok (.invokestatic 61, 3) := by decide +kernel
theorem dX7_become_71 : decode cX7_become 71 = .ok (.aload_n 1, 1) := by decide +kernel
theorem dX7_become_72 : decode cX7_become 72 = .ok (.getfield 43, 3) := by decide +kernel
theorem dX7_become_75 : decode cX7_become 75 = .ok (.iconst 0, 1) := by decide +kernel
theorem dX7_become_76 : decode cX7_become 76 = .ok (.aload_n 0, 1) := by decide +kernel
theorem dX7_become_77 : decode cX7_become 77 = .ok (.getfield 43, 3) := by decide +kernel
theorem dX7_become_80 : decode cX7_become 80 = .ok (.iconst 0, 1) := by decide +kernel
theorem dX7_become_81 : decode cX7_become 81 = .ok (.iconst 4, 1) := by decide +kernel
theorem dX7_become_82 : decode cX7_become 82 = .ok (.invokestatic 61, 3) := by decide +kernel
theorem dX7_become_85 : decode cX7_become 85 = .ok (.aload_n 1, 1) := by decide +kernel
theorem dX7_become_86 : decode cX7_become 86 = .ok (.getfield 46, 3) := by decide +kernel
theorem dX7_become_89 : decode cX7_become 89 = .ok (.iconst 0, 1) := by decide +kernel
theorem dX7_become_90 : decode cX7_become 90 = .ok (.aload_n 0, 1) := by decide +kernel
theorem dX7_become_91 : decode cX7_become 91 = .ok (.getfield 46, 3) := by decide +kernel
theorem dX7_become_94 : decode cX7_become 94 = .ok (.iconst 0, 1) := by decide +kernel
theorem dX7_become_95 : decode cX7_become 95 = .ok (.iconst 4, 1) := by decide +kernel
theorem dX7_become_96 : decode cX7_become 96 = .ok (.invokestatic 61, 3) := by decide +kernel
theorem dX7_become_99 : decode cX7_become 99 = .ok (.aload_n 1, 1) := by decide +kernel
theorem dX7_become_100 : decode cX7_become 100 = .ok (.getfield 49, 3) := by decide +kernel
theorem dX7_become_103 : decode cX7_become 103 = .ok (.iconst 0, 1) := by decide +kernel
theorem dX7_become_104 : decode cX7_become 104 = .ok (.aload_n 0, 1) := by decide +kernel
theorem dX7_become_105 : decode cX7_become 105 = .ok (.getfield 49, 3) := by decide +kernel
theorem dX7_become_108 : decode cX7_become 108 = .ok (.iconst 0, 1) := by decide +kernel
theorem dX7_become_109 : decode cX7_become 109 = .ok (.iconst 4, 1) := by decide +kernel
theorem dX7_become_110 : decode cX7_become 110 = .ok (.invokestatic 61, 3) := by decide +kernel
theorem dX7_become_113 : decode cX7_become 113 = .ok (.return_, 1) := by decide +kernel
theorem dX7_save_0 : decode cX7_save 0 = .ok (.aload_n 0, 1) := by decide +kernel
theorem dX7_save_1 : decode cX7_save 1 = .ok (.getfield 39, 3) := by decide +kernel
theorem dX7_save_4 : decode cX7_save 4 = .ok (.iconst 0, 1) := by decide +kernel
theorem dX7_save_5 : decode cX7_save 5 = .ok (.aload_n 1, 1) := by decide +kernel
theorem dX7_save_6 : decode cX7_save 6 = .ok (.iload_n 2, 1) := by decide +kernel
theorem dX7_save_7 : decode cX7_save 7 = .ok (.bipush 30, 2) := by decide +kernel
theorem dX7_save_9 : decode cX7_save 9 = .ok (.invokestatic 61, 3) := by decide +kernel
theorem dX7_save_12 : decode cX7_save 12 = .ok (.aload_n 0, 1) := by decide +kernel
theorem dX7_save_13 : decode cX7_save 13 = .ok (.getfield 43, 3) := by decide +kernel
theorem dX7_save_16 : decode cX7_save 16 = .ok (.iconst 0, 1) := by decide +kernel
theorem dX7_save_17 : decode cX7_save 17 = .ok (.aload_n 1, 1) := by decide +kernel
theorem dX7_save_18 : decode cX7_save 18 = .ok (.iload_n 2, 1) := by decide +kernel
theorem dX7_save_19 : decode cX7_save 19 = .ok (.bipush 30, 2) := by decide +kernel
theorem dX7_save_21 : decode cX7_save 21 = .ok (.iadd, 1) := by decide +kernel
theorem dX7_save_22 : decode cX7_save 22 = .ok (.iconst 4, 1) := by decide +kernel
theorem dX7_save_23 : decode cX7_save 23 = .ok (.invokestatic 61, 3) := by decide +kernel
theorem dX7_save_26 : decode cX7_save 26 = .ok (.aload_n 0, 1) := by decide +kernel
theorem dX7_save_27 : decode cX7_save 27 = .ok (.getfield 46, 3) := by decide +kernel
theorem dX7_save_30 : decode cX7_save 30 = .ok (.iconst 0, 1) := by decide +kernel
theorem dX7_save_31 : decode cX7_save 31 = .ok (.aload_n 1, 1) := by decide +kernel
theorem dX7_save_32 : decode cX7_save 32 = .ok (.iload_n 2, 1) := by decide +kernel
theorem dX7_save_33 : decode cX7_save 33 = .ok (.bipush 30, 2) := by decide +kernel
theorem dX7_save_35 : decode cX7_save 35 = .ok (.iadd, 1) := by decide +kernel
theorem dX7_save_36 : decode cX7_save 36 = .ok (.iconst 4, 1) := by decide +kernel
theorem dX7_save_37 : decode cX7_save 37 = .ok (.iadd, 1) := by decide +kernel
theorem dX7_save_38 : decode cX7_save 38 = .ok (.iconst 4, 1) := by decide +kernel
theorem dX7_save_39 : decode cX7_save 39 = .ok (.invokestatic 61, 3) := by decide +kernel
theorem dX7_save_42 : decode cX7_save 42 = .ok (.iload_n 2, 1) := by decide +kernel
theorem dX7_save_43 : decode cX7_save 43 = .ok (.bipush 30, 2) := by decide +kernel
theorem dX7_save_45 : decode cX7_save 45 = .ok (.iadd, 1) := by decide +kernel
theorem dX7_save_46 : decode cX7_save 46 = .ok (.bipush 8, 2) := by decide +kernel
theorem dX7_save_48 : decode cX7_save 48 = .ok (.iadd, 1) := by decide +kernel
theorem dX7_save_49 : decode cX7_save 49 = .ok (.istore_n 3, 1) := by decide +kernel
theorem dX7_save_50 : decode cX7_save 50 = .ok (.aload_n 1, 1) := by decide +kernel
theorem dX7_save_51 : decode cX7_save 51 = .ok (.iload_n 3, 1) := by decide +kernel
theorem dX7_save_52 : decode cX7_save 52 = .ok (.aload_n 0, 1) := by decide +kernel
theorem dX7_save_53 : decode cX7_save 53 = .ok (.getfield 24, 3) := by decide +kernel
theorem dX7_save_56 : decode cX7_save 56 = .ok (.iastore, 1) := by decide +kernel
theorem dX7_save_57 : decode cX7_save 57 = .ok (.aload_n 1, 1) := by decide +kernel
theorem dX7_save_58 : decode cX7_save 58 = .ok (.iload_n 3, 1) := by decide +kernel
theorem dX7_save_59 : decode cX7_save 59 = .ok (.iconst 1, 1) := by decide +kernel
theorem dX7_save_60 : decode cX7_save 60 = .ok (.iadd, 1) := by decide +kernel
theorem dX7_save_61 : decode cX7_save 61 = .ok (.aload_n 0, 1) := by decide +kernel
theorem dX7_save_62 : decode cX7_save 62 = .ok (.getfield 27, 3) := by decide +kernel
theorem dX7_save_65 : decode cX7_save 65 = .ok (.iastore, 1) := by decide +kernel
theorem dX7_save_66 : decode cX7_save 66 = .ok (.aload_n 1, 1) := by decide +kernel
theorem dX7_save_67 : decode cX7_save 67 = .ok (.iload_n 3, 1) := by decide +kernel
theorem dX7_save_68 : decode cX7_save 68 = .ok (.iconst 2, 1) := by decide +kernel
theorem dX7_save_69 : decode cX7_save 69 = .ok (.iadd, 1) := by decide +kernel
theorem dX7_save_70 : decode cX7_save 70 = .ok (.aload_n 0, 1) := by decide +kernel
theorem dX7_save_71 : decode cX7_save 71 = .ok (.getfield 30, 3) := by decide +kernel
theorem dX7_save_74 : decode cX7_save 74 = .ok (.iastore, 1) := by decide +kernel
theorem dX7_save_75 : decode cX7_save 75 = .ok (.aload_n 1, 1) := by decide +kernel
theorem dX7_save_76 : decode cX7_save 76 = .ok (.iload_n 3, 1) := by decide +kernel
theorem dX7_save_77 : decode cX7_save 77 = .ok (.iconst 3, 1) := by decide +kernel
theorem dX7_save_78 : decode cX7_save 78 = .ok (.iadd, 1) := by decide +kernel
theorem dX7_save_79 : decode cX7_save 79 = .ok (.aload_n 0, 1) := by decide +kernel
theorem dX7_save_80 : decode cX7_save 80 = .ok (.getfield 33, 3) := by decide +kernel
theorem dX7_save_83 : decode cX7_save 83 = .ok (.iastore, 1) := by decide +kernel
theorem dX7_save_84 : decode cX7_save 84 = .ok (.aload_n 1, 1) := by decide +kernel
theorem dX7_save_85 : decode cX7_save 85 = .ok (.iload_n 3, 1) := by decide +kernel
theorem dX7_save_86 : decode cX7_save 86 = .ok (.iconst 4, 1) := by decide +kernel
theorem dX7_save_87 : decode cX7_save 87 = .ok (.iadd, 1) := by decide +kernel
theorem dX7_save_88 : decode cX7_save 88 = .ok (.aload_n 0, 1) := by decide +kernel
theorem dX7_save_89 : decode cX7_save 89 = .ok (.getfield 36, 3) := by decide +kernel
theorem dX7_save_92 : decode cX7_save 92 = .ok (.iastore, 1) := by decide +kernel
theorem dX7_save_93 : decode cX7_save 93 = .ok (.return_, 1) := by decide +kernel
theorem dX7_load_0 : decode cX7_load 0 = .ok (.aload_n 1, 1) := by decide +kernel
theorem dX7_load_1 : decode cX7_load 1 = .ok (.iload_n 2, 1) := by decide +kernel
theorem dX7_load_2 : decode cX7_load 2 = .ok (.aload_n 0, 1) := by decide +kernel
theorem dX7_load_3 : decode cX7_load 3 = .ok (.getfield 39, 3) := by decide +kernel
theorem dX7_load_6 : decode cX7_load 6 = .ok (.iconst 0, 1) := by decide +kernel
theorem dX7_load_7 : decode cX7_load 7 = .ok (.bipush 30, 2) := by decide +kernel
theorem dX7_load_9 : decode cX7_load 9 = .ok (.invokestatic 61, 3) := by decide +kernel
theorem dX7_load_12 : decode cX7_load 12 = .ok (.aload_n 1, 1) := by decide +kernel
theorem dX7_load_13 : decode cX7_load 13 = .ok (.iload_n 2, 1) := by decide +kernel
theorem dX7_load_14 : decode cX7_load 14 = .ok (.bipush 30, 2) := by decide +kernel
theorem dX7_load_16 : decode cX7_load 16 = .ok (.iadd, 1) := by decide +kernel
theorem dX7_load_17 : decode cX7_load 17 = .ok (.aload_n 0, 1) := by decide +kernel
theorem dX7_load_18 : decode cX7_load 18 = .ok (.getfield 43, 3) := by decide +kernel
theorem dX7_load_21 : decode cX7_load 21 = .ok (.iconst 0, 1) := by decide +kernel
theorem dX7_load_22 : decode cX7_load 22 = .ok (.iconst 4, 1) := by decide +kernel
theorem dX7_load_23 : decode cX7_load 23 = .ok (.invokestatic 61, 3) := by decide +kernel
theorem dX7_load_26 : decode cX7_load 26 = .ok (.aload_n 1, 1) := by decide +kernel
theorem dX7_load_27 : decode cX7_load 27 = .ok (.iload_n 2, 1) := by decide +kernel
theorem dX7_load_28 : decode cX7_load 28 = .ok (.bipush 30, 2) := by decide +kernel
theorem dX7_load_30 : decode cX7_load 30 = .ok (.iadd, 1) := by decide +kernel
theorem dX7_load_31 : decode cX7_load 31 = .ok (.iconst 4, 1) := by decide +kernel
theorem dX7_load_32 : decode cX7_load 32 = .ok (.iadd, 1) := by decide +kernel
theorem dX7_load_33 : decode cX7_load 33 = .ok (.aload_n 0, 1) := by decide +kernel
theorem dX7_load_34 : decode cX7_load 34 = .ok (.getfield 46, 3) := by decide +kernel
theorem dX7_load_37 : decode cX7_load 37 = .ok (.iconst 0, 1) := by decide +kernel
theorem dX7_load_38 : decode cX7_load 38 = .ok (.iconst 4, 1) := by decide +kernel
theorem dX7_load_39 : decode cX7_load 39 = .ok (.invokestatic 61, 3) := by decide +kernel
theorem dX7_load_42 : decode cX7_load 42 = .ok (.iload_n 2, 1) := by decide +kernel
theorem dX7_load_43 : decode cX7_load 43 = .ok (.bipush 30, 2) := by decide +kernel
theorem dX7_load_45 : decode cX7_load 45 = .ok (.iadd, 1) := by decide +kernel
theorem dX7_load_46 : decode cX7_load 46 = .ok (.bipush 8, 2) := by decide +kernel
theorem dX7_load_48 : decode cX7_load 48 = .ok (.iadd, 1) := by decide +kernel
theorem dX7_load_49 : decode cX7_load 49 = .ok (.istore_n 3, 1) := by decide +kernel
theorem dX7_load_50 : decode cX7_load 50 = .ok (.aload_n 0, 1) := by decide +kernel
theorem dX7_load_51 : decode cX7_load 51 = .ok (.aload_n 1, 1) := by decide +kernel
theorem dX7_load_52 : decode cX7_load 52 = .ok (.iload_n 3, 1) := by decide +kernel
theorem dX7_load_53 : decode cX7_load 53 = .ok (.iaload, 1) := by decide +kernel
theorem dX7_load_54 : decode cX7_load 54 = .ok (.putfield 24, 3) := by decide +kernel
theorem dX7_load_57 : decode cX7_load 57 = .ok (.aload_n 0, 1) := by decide +kernel
theorem dX7_load_58 : decode cX7_load 58 = .ok (.aload_n 1, 1) := by decide +kernel
theorem dX7_load_59 : decode cX7_load 59 = .ok (.iload_n 3, 1) := by decide +kernel
theorem dX7_load_60 : decode cX7_load 60 = .ok (.iconst 1, 1) := by decide +kernel
theorem dX7_load_61 : decode cX7_load 61 = .ok (.iadd, 1) := by decide +kernel
theorem dX7_load_62 : decode cX7_load 62 = .ok (.iaload, 1) := by decide +kernel
theorem dX7_load_63 : decode cX7_load 63 = .ok (.putfield 27, 3) := by decide +kernel
theorem dX7_load_66 : decode cX7_load 66 = .ok (.aload_n 0, 1) := by decide +kernel
theorem dX7_load_67 : decode cX7_load 67 = .ok (.aload_n 1, 1) := by decide +kernel
theorem dX7_load_68 : decode cX7_load 68 = .ok (.iload_n 3, 1) := by decide +kernel
theorem dX7_load_69 : decode cX7_load 69 = .ok (.iconst 2, 1) := by decide +kernel
theorem dX7_load_70 : decode cX7_load 70 = .ok (.iadd, 1) := by decide +kernel
theorem dX7_load_71 : decode cX7_load 71 = .ok (.iaload, 1) := by decide +kernel
theorem dX7_load_72 : decode cX7_load 72 = .ok (.putfield 30, 3) := by decide +kernel
theorem dX7_load_75 : decode cX7_load 75 = .ok (.aload_n 0, 1) := by decide +kernel
theorem dX7_load_76 : decode cX7_load 76 = .ok (.aload_n 1, 1) := by decide +kernel
theorem dX7_load_77 : decode cX7_load 77 = .ok (.iload_n 3, 1) := by decide +kernel
theorem dX7_load_78 : decode cX7_load 78 = .ok (.iconst 3, 1) := by decide +kernel
theorem dX7_load_79 : decode cX7_load 79 = .ok (.iadd, 1) := by decide +kernel
theorem dX7_load_80 : decode cX7_load 80 = .ok (.iaload, 1) := by decide +kernel
theorem dX7_load_81 : decode cX7_load 81 = .ok (.putfield 33, 3) := by decide +kernel
theorem dX7_load_84 : decode cX7_load 84 = .ok (.aload_n 0, 1) := by decide +kernel
theorem dX7_load_85 : decode cX7_load 85 = .ok (.aload_n 1, 1) := by decide +kernel
theorem dX7_load_86 : decode cX7_load 86 = .ok (.iload_n 3, 1) := by decide +kernel
theorem dX7_load_87 : decode cX7_load 87 = .ok (.iconst 4, 1) := by decide +kernel
theorem dX7_load_88 : decode cX7_load 88 = .ok (.iadd, 1) := by decide +kernel
theorem dX7_load_89 : decode cX7_load 89 = .ok (.iaload, 1) := by decide +kernel
theorem dX7_load_90 : decode cX7_load 90 = .ok (.putfield 36, 3) := by decide +kernel
theorem dX7_load_93 : decode cX7_load 93 = .ok (.return_, 1) := by decide +kernel
theorem dX7_hasCell_0 : decode cX7_hasCell 0 = .ok (.iload_n 1, 1) := by decide +kernel
theorem dX7_hasCell_1 : decode cX7_hasCell 1 = .ok (.ifCond .lt 15, 3) := by decide +kernel
theorem dX7_hasCell_4 : decode cX7_hasCell 4 = .ok (.iload_n 1, 1) := by decide +kernel
theorem dX7_hasCell_5 : decode cX7_hasCell 5 = .ok (.aload_n 0, 1) := by decide +kernel
theorem dX7_hasCell_6 : decode cX7_hasCell 6 = .ok (.getfield 18, 3) := by decide +kernel
theorem dX7_hasCell_9 : decode cX7_hasCell 9 = .ok (.if_icmp .ge 7, 3) := by decide +kernel
theorem dX7_hasCell_12 : decode cX7_hasCell 12 = .ok (.iconst 1, 1) := by decide +kernel
theorem dX7_hasCell_13 : decode cX7_hasCell 13 = .ok (.goto 4, 3) := by decide +kernel
theorem dX7_hasCell_16 : decode cX7_hasCell 16 = .ok (.iconst 0, 1) := by decide +kernel
theorem dX7_hasCell_17 : decode cX7_hasCell 17 = .ok (.ireturn, 1) := by decide +kernel
theorem dX7_hasTower_0 : decode cX7_hasTower 0 = .ok (.iload_n 1, 1) := by decide +kernel
theorem dX7_hasTower_1 : decode cX7_hasTower 1 = .ok (.ifCond .lt 15, 3) := by decide +kernel
theorem dX7_hasTower_4 : decode cX7_hasTower 4 = .ok (.iload_n 1, 1) := by decide +kernel
theorem dX7_hasTower_5 : decode cX7_hasTower 5 = .ok (.aload_n 0, 1) := by decide +kernel
theorem dX7_hasTower_6 : decode cX7_hasTower 6 = .ok (.getfield 21, 3) := by decide +kernel
theorem dX7_hasTower_9 : decode cX7_hasTower 9 = .ok (.if_icmp .ge 7, 3) := by decide +kernel
theorem dX7_hasTower_12 : decode cX7_hasTower 12 = .ok (.iconst 1, 1) := by decide +kernel
theorem dX7_hasTower_13 : decode cX7_hasTower 13 = .ok (.goto 4, 3) := by decide +kernel
theorem dX7_hasTower_16 : decode cX7_hasTower 16 = .ok (.iconst 0, 1) := by decide +kernel
theorem dX7_hasTower_17 : decode cX7_hasTower 17 = .ok (.ireturn, 1) := by decide +kernel
theorem dX7_allCells_0 : decode cX7_allCells 0 = .ok (.iconst 1, 1) := by decide +kernel
theorem dX7_allCells_1 : decode cX7_allCells 1 = .ok (.aload_n 0, 1) := by decide +kernel
theorem dX7_allCells_2 : decode cX7_allCells 2 = .ok (.getfield 18, 3) := by decide +kernel
theorem dX7_allCells_5 : decode cX7_allCells 5 = .ok (.ishl, 1) := by decide +kernel
theorem dX7_allCells_6 : decode cX7_allCells 6 = .ok (.iconst 1, 1) := by decide +kernel
theorem dX7_allCells_7 : decode cX7_allCells 7 = .ok (.isub, 1) := by decide +kernel
theorem dX7_allCells_8 : decode cX7_allCells 8 = .ok (.ireturn, 1) := by decide +kernel
theorem dX7_allTowers_0 : decode cX7_allTowers 0 = .ok (.iconst 1, 1) := by decide +kernel
theorem dX7_allTowers_1 : decode cX7_allTowers 1 = .ok (.aload_n 0, 1) := by decide +kernel
theorem dX7_allTowers_2 : decode cX7_allTowers 2 = .ok (.getfield 21, 3) := by decide +kernel
theorem dX7_allTowers_5 : decode cX7_allTowers 5 = .ok (.ishl, 1) := by decide +kernel
