theorem dX8_back_0 : decode cX8_back 0 = .ok (.aload_n 0, 1) := by decide +kernel
theorem dX8_back_1 : decode cX8_back 1 = .ok (.getfield 46, 3) := by decide +kernel
theorem dX8_back_4 : decode cX8_back 4 = .ok (.aload_n 0, 1) := by decide +kernel
theorem dX8_back_5 : decode cX8_back 5 = .ok (.getfield 33, 3) := by decide +kernel
theorem dX8_back_8 : decode cX8_back 8 = .ok (.invokevirtual 209, 3) := by decide +kernel
theorem dX8_back_11 : decode cX8_back 11 = .ok (.ifCond .ne 6, 3) := by decide +kernel
theorem dX8_back_14 : decode cX8_back 14 = .ok (.bipush (-2), 2) := by decide +kernel
theorem dX8_back_16 : decode cX8_back 16 = .ok (.ireturn, 1) := by decide +kernel
theorem dX8_back_17 : decode cX8_back 17 = .ok (.aload_n 0, 1) := by decide +kernel
theorem dX8_back_18 : decode cX8_back 18 = .ok (.getfield 42, 3) := by decide +kernel
theorem dX8_back_21 : decode cX8_back 21 = .ok (.iconst 0, 1) := by decide +kernel
theorem dX8_back_22 : decode cX8_back 22 = .ok (.putfield 213, 3) := by decide +kernel
theorem dX8_back_25 : decode cX8_back 25 = .ok (.aload_n 0, 1) := by decide +kernel
theorem dX8_back_26 : decode cX8_back 26 = .ok (.invokevirtual 200, 3) := by decide +kernel
theorem dX8_back_29 : decode cX8_back 29 = .ok (.aload_n 0, 1) := by decide +kernel
theorem dX8_back_30 : decode cX8_back 30 = .ok (.getfield 46, 3) := by decide +kernel
theorem dX8_back_33 : decode cX8_back 33 = .ok (.getfield 213, 3) := by decide +kernel
theorem dX8_back_36 : decode cX8_back 36 = .ok (.ireturn, 1) := by decide +kernel
theorem dX8_bear_0 : decode cX8_bear 0 = .ok (.aload_n 0, 1) := by decide +kernel
theorem dX8_bear_1 : decode cX8_bear 1 = .ok (.getfield 23, 3) := by decide +kernel
theorem dX8_bear_4 : decode cX8_bear 4 = .ok (.iload_n 1, 1) := by decide +kernel
theorem dX8_bear_5 : decode cX8_bear 5 = .ok (.invokevirtual 146, 3) := by decide +kernel
theorem dX8_bear_8 : decode cX8_bear 8 = .ok (.ifCond .eq 23, 3) := by decide +kernel
theorem dX8_bear_11 : decode cX8_bear 11 = .ok (.iload_n 2, 1) := by decide +kernel
theorem dX8_bear_12 : decode cX8_bear 12 = .ok (.iconst 0, 1) := by decide +kernel
theorem dX8_bear_13 : decode cX8_bear 13 = .ok (.bipush 119, 2) := by decide +kernel
theorem dX8_bear_15 : decode cX8_bear 15 = .ok (.invokestatic 121, 3) := by decide +kernel
theorem dX8_bear_18 : decode cX8_bear 18 = .ok (.ifCond .eq 13, 3) := by decide +kernel
theorem dX8_bear_21 : decode cX8_bear 21 = .ok (.iload_n 3, 1) := by decide +kernel
theorem dX8_bear_22 : decode cX8_bear 22 = .ok (.iload_n 2, 1) := by decide +kernel
theorem dX8_bear_23 : decode cX8_bear 23 = .ok (.bipush 119, 2) := by decide +kernel
theorem dX8_bear_25 : decode cX8_bear 25 = .ok (.invokestatic 121, 3) := by decide +kernel
theorem dX8_bear_28 : decode cX8_bear 28 = .ok (.ifCond .ne 5, 3) := by decide +kernel
theorem dX8_bear_31 : decode cX8_bear 31 = .ok (.iconst (-1), 1) := by decide +kernel
theorem dX8_bear_32 : decode cX8_bear 32 = .ok (.ireturn, 1) := by decide +kernel
theorem dX8_bear_33 : decode cX8_bear 33 = .ok (.aload_n 0, 1) := by decide +kernel
theorem dX8_bear_34 : decode cX8_bear 34 = .ok (.getfield 33, 3) := by decide +kernel
theorem dX8_bear_37 : decode cX8_bear 37 = .ok (.invokevirtual 189, 3) := by decide +kernel
theorem dX8_bear_40 : decode cX8_bear 40 = .ok (.ifCond .eq 6, 3) := by decide +kernel
theorem dX8_bear_43 : decode cX8_bear 43 = .ok (.bipush (-3), 2) := by decide +kernel
theorem dX8_bear_45 : decode cX8_bear 45 = .ok (.ireturn, 1) := by decide +kernel
theorem dX8_bear_46 : decode cX8_bear 46 = .ok (.aload_n 0, 1) := by decide +kernel
theorem dX8_bear_47 : decode cX8_bear 47 = .ok (.getfield 42, 3) := by decide +kernel
theorem dX8_bear_50 : decode cX8_bear 50 = .ok (.aload_n 0, 1) := by decide +kernel
theorem dX8_bear_51 : decode cX8_bear 51 = .ok (.getfield 33, 3) := by decide +kernel
theorem dX8_bear_54 : decode cX8_bear 54 = .ok (.invokevirtual 193, 3) := by decide +kernel
theorem dX8_bear_57 : decode cX8_bear 57 = .ok (.aload_n 0, 1) := by decide +kernel
theorem dX8_bear_58 : decode cX8_bear 58 = .ok (.getfield 33, 3) := by decide +kernel
theorem dX8_bear_61 : decode cX8_bear 61 = .ok (.iload_n 1, 1) := by decide +kernel
theorem dX8_bear_62 : decode cX8_bear 62 = .ok (.iload_n 2, 1) := by decide +kernel
theorem dX8_bear_63 : decode cX8_bear 63 = .ok (.iload_n 3, 1) := by decide +kernel
theorem dX8_bear_64 : decode cX8_bear 64 = .ok (.invokevirtual 197, 3) := by decide +kernel
theorem dX8_bear_67 : decode cX8_bear 67 = .ok (.pop, 1) := by decide +kernel
theorem dX8_bear_68 : decode cX8_bear 68 = .ok (.aload_n 0, 1) := by decide +kernel
theorem dX8_bear_69 : decode cX8_bear 69 = .ok (.invokevirtual 200, 3) := by decide +kernel
theorem dX8_bear_72 : decode cX8_bear 72 = .ok (.aload_n 0, 1) := by decide +kernel
theorem dX8_bear_73 : decode cX8_bear 73 = .ok (.getfield 33, 3) := by decide +kernel
theorem dX8_bear_76 : decode cX8_bear 76 = .ok (.getfield 203, 3) := by decide +kernel
theorem dX8_bear_79 : decode cX8_bear 79 = .ok (.ireturn, 1) := by decide +kernel
theorem dX8_bearUpAlone_0 : decode cX8_bearUpAlone 0 = .ok (.iconst 0, 1) := by decide +kernel
theorem dX8_bearUpAlone_1 : decode cX8_bearUpAlone 1 = .ok (.istore_n 2, 1) := by decide +kernel
theorem dX8_bearUpAlone_2 : decode cX8_bearUpAlone 2 = .ok (.iload_n 2, 1) := by decide +kernel
theorem dX8_bearUpAlone_3 : decode cX8_bearUpAlone 3 = .ok (.aload_n 0, 1) := by decide +kernel
theorem dX8_bearUpAlone_4 : decode cX8_bearUpAlone 4 = .ok (.getfield 23, 3) := by decide +kernel
theorem dX8_bearUpAlone_7 : decode cX8_bearUpAlone 7 = .ok (.getfield 292, 3) := by decide +kernel
theorem dX8_bearUpAlone_10 : decode cX8_bearUpAlone 10 = .ok (.if_icmp .ge 16, 3) := by decide +kernel
theorem dX8_bearUpAlone_13 : decode cX8_bearUpAlone 13 = .ok (.aload_n 0, 1) := by decide +kernel
theorem dX8_bearUpAlone_14 : decode cX8_bearUpAlone 14 = .ok (.getfield 59, 3) := by decide +kernel
theorem dX8_bearUpAlone_17 : decode cX8_bearUpAlone 17 = .ok (.iload_n 2, 1) := by decide +kernel
theorem dX8_bearUpAlone_18 : decode cX8_bearUpAlone 18 = .ok (.iload_n 1, 1) := by decide +kernel
theorem dX8_bearUpAlone_19 : decode cX8_bearUpAlone 19 = .ok (.iastore, 1) := by decide +kernel
theorem dX8_bearUpAlone_20 : decode cX8_bearUpAlone 20 = .ok (.iinc 2 1, 3) := by decide +kernel
theorem dX8_bearUpAlone_23 : decode cX8_bearUpAlone 23 = .ok (.goto (-21), 3) := by decide +kernel
theorem dX8_bearUpAlone_26 : decode cX8_bearUpAlone 26 = .ok (.aload_n 0, 1) := by decide +kernel
theorem dX8_bearUpAlone_27 : decode cX8_bearUpAlone 27 = .ok (.getfield 71, 3) := by decide +kernel
theorem dX8_bearUpAlone_30 : decode cX8_bearUpAlone 30 = .ok (.aload_n 0, 1) := by decide +kernel
theorem dX8_bearUpAlone_31 : decode cX8_bearUpAlone 31 = .ok (.getfield 23, 3) := by decide +kernel
theorem dX8_bearUpAlone_34 : decode cX8_bearUpAlone 34 = .ok (.invokevirtual 253, 3) := by decide +kernel
theorem dX8_bearUpAlone_37 : decode cX8_bearUpAlone 37 = .ok (.aload_n 0, 1) := by decide +kernel
theorem dX8_bearUpAlone_38 : decode cX8_bearUpAlone 38 = .ok (.getfield 71, 3) := by decide +kernel
theorem dX8_bearUpAlone_41 : decode cX8_bearUpAlone 41 = .ok (.aload_n 0, 1) := by decide +kernel
theorem dX8_bearUpAlone_42 : decode cX8_bearUpAlone 42 = .ok (.getfield 59, 3) := by decide +kernel
theorem dX8_bearUpAlone_45 : decode cX8_bearUpAlone 45 = .ok (.invokevirtual 256, 3) := by decide +kernel
theorem dX8_bearUpAlone_48 : decode cX8_bearUpAlone 48 = .ok (.aload_n 0, 1) := by decide +kernel
theorem dX8_bearUpAlone_49 : decode cX8_bearUpAlone 49 = .ok (.getfield 71, 3) := by decide +kernel
theorem dX8_bearUpAlone_52 : decode cX8_bearUpAlone 52 = .ok (.getfield 167, 3) := by decide +kernel
theorem dX8_bearUpAlone_55 : decode cX8_bearUpAlone 55 = .ok (.bipush (-4), 2) := by decide +kernel
theorem dX8_bearUpAlone_57 : decode cX8_bearUpAlone 57 = .ok (.if_icmp .ne 7, 3) := by decide +kernel
theorem dX8_bearUpAlone_60 : decode cX8_bearUpAlone 60 = .ok (.iconst 1, 1) := by decide +kernel
theorem dX8_bearUpAlone_61 : decode cX8_bearUpAlone 61 = .ok (.goto 4, 3) := by decide +kernel
theorem dX8_bearUpAlone_64 : decode cX8_bearUpAlone 64 = .ok (.iconst 0, 1) := by decide +kernel
theorem dX8_bearUpAlone_65 : decode cX8_bearUpAlone 65 = .ok (.ireturn, 1) := by decide +kernel
theorem dX8_bearer_0 : decode cX8_bearer 0 = .ok (.aload_n 0, 1) := by decide +kernel
theorem dX8_bearer_1 : decode cX8_bearer 1 = .ok (.getfield 23, 3) := by decide +kernel
theorem dX8_bearer_4 : decode cX8_bearer 4 = .ok (.iload_n 1, 1) := by decide +kernel
theorem dX8_bearer_5 : decode cX8_bearer 5 = .ok (.invokevirtual 146, 3) := by decide +kernel
theorem dX8_bearer_8 : decode cX8_bearer 8 = .ok (.ifCond .ne 5, 3) := by decide +kernel
theorem dX8_bearer_11 : decode cX8_bearer 11 = .ok (.iconst (-1), 1) := by decide +kernel
theorem dX8_bearer_12 : decode cX8_bearer 12 = .ok (.ireturn, 1) := by decide +kernel
theorem dX8_bearer_13 : decode cX8_bearer 13 = .ok (.iload_n 2, 1) := by decide +kernel
theorem dX8_bearer_14 : decode cX8_bearer 14 = .ok (.tableswitch 97 0 5 #[38, 48, 58, 68, 77, 87], 38) := by decide +kernel
theorem dX8_bearer_52 : decode cX8_bearer 52 = .ok (.aload_n 0, 1) := by decide +kernel
theorem dX8_bearer_53 : decode cX8_bearer 53 = .ok (.getfield 23, 3) := by decide +kernel
theorem dX8_bearer_56 : decode cX8_bearer 56 = .ok (.getfield 149, 3) := by decide +kernel
theorem dX8_bearer_59 : decode cX8_bearer 59 = .ok (.iload_n 1, 1) := by decide +kernel
theorem dX8_bearer_60 : decode cX8_bearer 60 = .ok (.iaload, 1) := by decide +kernel
theorem dX8_bearer_61 : decode cX8_bearer 61 = .ok (.ireturn, 1) := by decide +kernel
theorem dX8_bearer_62 : decode cX8_bearer 62 = .ok (.aload_n 0, 1) := by decide +kernel
theorem dX8_bearer_63 : decode cX8_bearer 63 = .ok (.getfield 23, 3) := by decide +kernel
theorem dX8_bearer_66 : decode cX8_bearer 66 = .ok (.getfield 152, 3) := by decide +kernel
theorem dX8_bearer_69 : decode cX8_bearer 69 = .ok (.iload_n 1, 1) := by decide +kernel
theorem dX8_bearer_70 : decode cX8_bearer 70 = .ok (.iaload, 1) := by decide +kernel
theorem dX8_bearer_71 : decode cX8_bearer 71 = .ok (.ireturn, 1) := by decide +kernel
theorem dX8_bearer_72 : decode cX8_bearer 72 = .ok (.aload_n 0, 1) := by decide +kernel
theorem dX8_bearer_73 : decode cX8_bearer 73 = .ok (.getfield 67, 3) := by decide +kernel
theorem dX8_bearer_76 : decode cX8_bearer 76 = .ok (.getfield 155, 3) := by decide +kernel
theorem dX8_bearer_79 : decode cX8_bearer 79 = .ok (.iload_n 1, 1) := by decide +kernel
theorem dX8_bearer_80 : decode cX8_bearer 80 = .ok (.iaload, 1) := by decide +kernel
theorem dX8_bearer_81 : decode cX8_bearer 81 = .ok (.ireturn, 1) := by decide +kernel
theorem dX8_bearer_82 : decode cX8_bearer 82 = .ok (.aload_n 0, 1) := by decide +kernel
theorem dX8_bearer_83 : decode cX8_bearer 83 = .ok (.getfield 67, 3) := by decide +kernel
theorem dX8_bearer_86 : decode cX8_bearer 86 = .ok (.iload_n 1, 1) := by decide +kernel
theorem dX8_bearer_87 : decode cX8_bearer 87 = .ok (.invokevirtual 158, 3) := by decide +kernel
theorem dX8_bearer_90 : decode cX8_bearer 90 = .ok (.ireturn, 1) := by decide +kernel
theorem dX8_bearer_91 : decode cX8_bearer 91 = .ok (.aload_n 0, 1) := by decide +kernel
theorem dX8_bearer_92 : decode cX8_bearer 92 = .ok (.getfield 67, 3) := by decide +kernel
theorem dX8_bearer_95 : decode cX8_bearer 95 = .ok (.getfield 161, 3) := by decide +kernel
theorem dX8_bearer_98 : decode cX8_bearer 98 = .ok (.iload_n 1, 1) := by decide +kernel
theorem dX8_bearer_99 : decode cX8_bearer 99 = .ok (.iaload, 1) := by decide +kernel
theorem dX8_bearer_100 : decode cX8_bearer 100 = .ok (.ireturn, 1) := by decide +kernel
theorem dX8_bearer_101 : decode cX8_bearer 101 = .ok (.aload_n 0, 1) := by decide +kernel
theorem dX8_bearer_102 : decode cX8_bearer 102 = .ok (.getfield 67, 3) := by decide +kernel
theorem dX8_bearer_105 : decode cX8_bearer 105 = .ok (.getfield 164, 3) := by decide +kernel
theorem dX8_bearer_108 : decode cX8_bearer 108 = .ok (.iload_n 1, 1) := by decide +kernel
theorem dX8_bearer_109 : decode cX8_bearer 109 = .ok (.iaload, 1) := by decide +kernel
theorem dX8_bearer_110 : decode cX8_bearer 110 = .ok (.ireturn, 1) := by decide +kernel
theorem dX8_bearer_111 : decode cX8_bearer 111 = .ok (.iconst (-1), 1) := by decide +kernel
theorem dX8_bearer_112 : decode cX8_bearer 112 = .ok (.ireturn, 1) := by decide +kernel
theorem dX8_best_0 : decode cX8_best 0 = .ok (.aload_n 0, 1) := by decide +kernel
theorem dX8_best_1 : decode cX8_best 1 = .ok (.getfield 23, 3) := by decide +kernel
theorem dX8_best_4 : decode cX8_best 4 = .ok (.iload_n 1, 1) := by decide +kernel
theorem dX8_best_5 : decode cX8_best 5 = .ok (.invokevirtual 146, 3) := by decide +kernel
theorem dX8_best_8 : decode cX8_best 8 = .ok (.ifCond .eq 12, 3) := by decide +kernel
theorem dX8_best_11 : decode cX8_best 11 = .ok (.iload_n 2, 1) := by decide +kernel
theorem dX8_best_12 : decode cX8_best 12 = .ok (.iconst 0, 1) := by decide +kernel
theorem dX8_best_13 : decode cX8_best 13 = .ok (.iconst 1, 1) := by decide +kernel
theorem dX8_best_14 : decode cX8_best 14 = .ok (.invokestatic 121, 3) := by decide +kernel
theorem dX8_best_17 : decode cX8_best 17 = .ok (.ifCond .ne 5, 3) := by decide +kernel
theorem dX8_best_20 : decode cX8_best 20 = .ok (.iconst (-1), 1) := by decide +kernel
theorem dX8_best_21 : decode cX8_best 21 = .ok (.ireturn, 1) := by decide +kernel
theorem dX8_best_22 : decode cX8_best 22 = .ok (.aload_n 0, 1) := by decide +kernel
theorem dX8_best_23 : decode cX8_best 23 = .ok (.getfield 79, 3) := by decide +kernel
theorem dX8_best_26 : decode cX8_best 26 = .ok (.iload_n 1, 1) := by decide +kernel
theorem dX8_best_27 : decode cX8_best 27 = .ok (.aload_n 0, 1) := by decide +kernel
theorem dX8_best_28 : decode cX8_best 28 = .ok (.getfield 67, 3) := by decide +kernel
theorem dX8_best_31 : decode cX8_best 31 = .ok (.iload_n 1, 1) := by decide +kernel
theorem dX8_best_32 : decode cX8_best 32 = .ok (.invokevirtual 158, 3) := by decide +kernel
theorem dX8_best_35 : decode cX8_best 35 = .ok (.invokevirtual 214, 3) := by decide +kernel
theorem dX8_best_38 : decode cX8_best 38 = .ok (.ifCond .ne 6, 3) := by decide +kernel
theorem dX8_best_41 : decode cX8_best 41 = .ok (.bipush (-4), 2) := by decide +kernel
theorem dX8_best_43 : decode cX8_best 43 = .ok (.ireturn, 1) := by decide +kernel
theorem dX8_best_44 : decode cX8_best 44 = .ok (.iload_n 2, 1) := by decide +kernel
theorem dX8_best_45 : decode cX8_best 45 = .ok (.ifCond .ne 25, 3) := by decide +kernel
theorem dX8_best_48 : decode cX8_best 48 = .ok (.sipush 200, 3) := by decide +kernel
theorem dX8_best_51 : decode cX8_best 51 = .ok (.aload_n 0, 1) := by decide +kernel
theorem dX8_best_52 : decode cX8_best 52 = .ok (.getfield 79, 3) := by decide +kernel
theorem dX8_best_55 : decode cX8_best 55 = .ok (.getfield 218, 3) := by decide +kernel
theorem dX8_best_58 : decode cX8_best 58 = .ok (.imul, 1) := by decide +kernel
theorem dX8_best_59 : decode cX8_best 59 = .ok (.aload_n 0, 1) := by decide +kernel
theorem dX8_best_60 : decode cX8_best 60 = .ok (.getfield 79, 3) := by decide +kernel
theorem dX8_best_63 : decode cX8_best 63 = .ok (.getfield 220, 3) := by decide +kernel
theorem dX8_best_66 : decode cX8_best 66 = .ok (.iadd, 1) := by decide +kernel
theorem dX8_best_67 : decode cX8_best 67 = .ok (.goto 10, 3) := by decide +kernel
theorem dX8_best_70 : decode cX8_best 70 = .ok (.aload_n 0, 1) := by decide +kernel
theorem dX8_best_71 : decode cX8_best 71 = .ok (.getfield 79, 3) := by decide +kernel
theorem dX8_best_74 : decode cX8_best 74 = .ok (.getfield 222, 3) := by decide +kernel
theorem dX8_best_77 : decode cX8_best 77 = .ok (.ireturn, 1) := by decide +kernel
theorem dX8_cairn_0 : decode cX8_cairn 0 = .ok (.aload_n 0, 1) := by decide +kernel
theorem dX8_cairn_1 : decode cX8_cairn 1 = .ok (.getfield 23, 3) := by decide +kernel
theorem dX8_cairn_4 : decode cX8_cairn 4 = .ok (.iload_n 1, 1) := by decide +kernel
theorem dX8_cairn_5 : decode cX8_cairn 5 = .ok (.invokevirtual 146, 3) := by decide +kernel
theorem dX8_cairn_8 : decode cX8_cairn 8 = .ok (.ifCond .eq 29, 3) := by decide +kernel
theorem dX8_cairn_11 : decode cX8_cairn 11 = .ok (.aload_n 0, 1) := by decide +kernel
theorem dX8_cairn_12 : decode cX8_cairn 12 = .ok (.getfield 23, 3) := by decide +kernel
theorem dX8_cairn_15 : decode cX8_cairn 15 = .ok (.iload_n 2, 1) := by decide +kernel
theorem dX8_cairn_16 : decode cX8_cairn 16 = .ok (.invokevirtual 244, 3) := by decide +kernel
theorem dX8_cairn_19 : decode cX8_cairn 19 = .ok (.ifCond .eq 18, 3) := by decide +kernel
theorem dX8_cairn_22 : decode cX8_cairn 22 = .ok (.iload_n 3, 1) := by decide +kernel
theorem dX8_cairn_23 : decode cX8_cairn 23 = .ok (.bipush (-9), 2) := by decide +kernel
theorem dX8_cairn_25 : decode cX8_cairn 25 = .ok (.bipush 9, 2) := by decide +kernel
theorem dX8_cairn_27 : decode cX8_cairn 27 = .ok (.invokestatic 121, 3) := by decide +kernel
theorem dX8_cairn_30 : decode cX8_cairn 30 = .ok (.ifCond .eq 7, 3) := by decide +kernel
theorem dX8_cairn_33 : decode cX8_cairn 33 = .ok (.iload_n 3, 1) := by decide +kernel
theorem dX8_cairn_34 : decode cX8_cairn 34 = .ok (.ifCond .ne 5, 3) := by decide +kernel
theorem dX8_cairn_37 : decode cX8_cairn 37 = .ok (.iconst (-1), 1) := by decide +kernel
theorem dX8_cairn_38 : decode cX8_cairn 38 = .ok (.ireturn, 1) := by decide +kernel
theorem dX8_cairn_39 : decode cX8_cairn 39 = .ok (.aload_n 0, 1) := by decide +kernel
theorem dX8_cairn_40 : decode cX8_cairn 40 = .ok (.getfield 27, 3) := by decide +kernel
theorem dX8_cairn_43 : decode cX8_cairn 43 = .ok (.aload_n 0, 1) := by decide +kernel
theorem dX8_cairn_44 : decode cX8_cairn 44 = .ok (.getfield 23, 3) := by decide +kernel
theorem dX8_cairn_47 : decode cX8_cairn 47 = .ok (.invokevirtual 247, 3) := by decide +kernel
theorem dX8_cairn_50 : decode cX8_cairn 50 = .ok (.aload_n 0, 1) := by decide +kernel
theorem dX8_cairn_51 : decode cX8_cairn 51 = .ok (.getfield 27, 3) := by decide +kernel
theorem dX8_cairn_54 : decode cX8_cairn 54 = .ok (.iload_n 2, 1) := by decide +kernel
theorem dX8_cairn_55 : decode cX8_cairn 55 = .ok (.iload_n 3, 1) := by decide +kernel
theorem dX8_cairn_56 : decode cX8_cairn 56 = .ok (.invokevirtual 250, 3) := by decide +kernel
theorem dX8_cairn_59 : decode cX8_cairn 59 = .ok (.ifCond .ne 6, 3) := by decide +kernel
theorem dX8_cairn_62 : decode cX8_cairn 62 = .ok (.bipush (-2), 2) := by decide +kernel
theorem dX8_cairn_64 : decode cX8_cairn 64 = .ok (.ireturn, 1) := by decide +kernel
theorem dX8_cairn_65 : decode cX8_cairn 65 = .ok (.aload_n 0, 1) := by decide +kernel
theorem dX8_cairn_66 : decode cX8_cairn 66 = .ok (.getfield 71, 3) := by decide +kernel
theorem dX8_cairn_69 : decode cX8_cairn 69 = .ok (.aload_n 0, 1) := by decide +kernel
theorem dX8_cairn_70 : decode cX8_cairn 70 = .ok (.getfield 27, 3) := by decide +kernel
theorem dX8_cairn_73 : decode cX8_cairn 73 = .ok (.invokevirtual 253, 3) := by decide +kernel
theorem dX8_cairn_76 : decode cX8_cairn 76 = .ok (.aload_n 0, 1) := by decide +kernel
theorem dX8_cairn_77 : decode cX8_cairn 77 = .ok (.getfield 71, 3) := by decide +kernel
theorem dX8_cairn_80 : decode cX8_cairn 80 = .ok (.aload_n 0, 1) := by decide +kernel
theorem dX8_cairn_81 : decode cX8_cairn 81 = .ok (.getfield 56, 3) := by decide +kernel
theorem dX8_cairn_84 : decode cX8_cairn 84 = .ok (.invokevirtual 256, 3) := by decide +kernel
theorem dX8_cairn_87 : decode cX8_cairn 87 = .ok (.aload_n 0, 1) := by decide +kernel
theorem dX8_cairn_88 : decode cX8_cairn 88 = .ok (.getfield 71, 3) := by decide +kernel
theorem dX8_cairn_91 : decode cX8_cairn 91 = .ok (.iload_n 1, 1) := by decide +kernel
theorem dX8_cairn_92 : decode cX8_cairn 92 = .ok (.invokevirtual 158, 3) := by decide +kernel
theorem dX8_cairn_95 : decode cX8_cairn 95 = .ok (.aload_n 0, 1) := by decide +kernel
theorem dX8_cairn_96 : decode cX8_cairn 96 = .ok (.getfield 67, 3) := by decide +kernel
theorem dX8_cairn_99 : decode cX8_cairn 99 = .ok (.iload_n 1, 1) := by decide +kernel
theorem dX8_cairn_100 : decode cX8_cairn 100 = .ok (.invokevirtual 158, 3) := by decide +kernel
theorem dX8_cairn_103 : decode cX8_cairn 103 = .ok (.isub, 1) := by decide +kernel
theorem dX8_cairn_104 : decode cX8_cairn 104 = .ok (.sipush 9999, 3) := by decide +kernel
theorem dX8_cairn_107 : decode cX8_cairn 107 = .ok (.iadd, 1) := by decide +kernel
theorem dX8_cairn_108 : decode cX8_cairn 108 = .ok (.ireturn, 1) := by decide +kernel
theorem dX8_commonDivisor_0 : decode cX8_commonDivisor 0 = .ok (.iload_n 0, 1) := by decide +kernel
theorem dX8_commonDivisor_1 : decode cX8_commonDivisor 1 = .ok (.istore_n 2, 1) := by decide +kernel
theorem dX8_commonDivisor_2 : decode cX8_commonDivisor 2 = .ok (.iload_n 1, 1) := by decide +kernel
theorem dX8_commonDivisor_3 : decode cX8_commonDivisor 3 = .ok (.istore_n 3, 1) := by decide +kernel
theorem dX8_commonDivisor_4 : decode cX8_commonDivisor 4 = .ok (.iconst 0, 1) := by decide +kernel
theorem dX8_commonDivisor_5 : decode cX8_commonDivisor 5 = .ok (.istore 4, 2) := by decide +kernel
theorem dX8_commonDivisor_7 : decode cX8_commonDivisor 7 = .ok (.iload 4, 2) := by decide +kernel
theorem dX8_commonDivisor_9 : decode cX8_commonDivisor 9 = .ok (.bipush 100, 2) := by decide +kernel
theorem dX8_commonDivisor_11 : decode cX8_commonDivisor 11 = .ok (.if_icmp .ge 23, 3) := by decide +kernel
theorem dX8_commonDivisor_14 : decode cX8_commonDivisor 14 = .ok (.iload_n 3, 1) := by decide +kernel
theorem dX8_commonDivisor_15 : decode cX8_commonDivisor 15 = .ok (.ifCond .eq 19, 3) := by decide +kernel
theorem dX8_commonDivisor_18 : decode cX8_commonDivisor 18 = .ok (.iload_n 2, 1) := by decide +kernel
theorem dX8_commonDivisor_19 : decode cX8_commonDivisor 19 = .ok (.iload_n 3, 1) := by decide +kernel
theorem dX8_commonDivisor_20 : decode cX8_commonDivisor 20 = .ok (.irem, 1) := by decide +kernel
theorem dX8_commonDivisor_21 : decode cX8_commonDivisor 21 = .ok (.istore 5, 2) := by decide +kernel
theorem dX8_commonDivisor_23 : decode cX8_commonDivisor 23 = .ok (.iload_n 3, 1) := by decide +kernel
theorem dX8_commonDivisor_24 : decode cX8_commonDivisor 24 = .ok (.istore_n 2, 1) := by decide +kernel
theorem dX8_commonDivisor_25 : decode cX8_commonDivisor 25 = .ok (.iload 5, 2) := by decide +kernel
theorem dX8_commonDivisor_27 : decode cX8_commonDivisor 27 = .ok (.istore_n 3, 1) := by decide +kernel
theorem dX8_commonDivisor_28 : decode cX8_commonDivisor 28 = .ok (.iinc 4 1, 3) := by decide +kernel
theorem dX8_commonDivisor_31 : decode cX8_commonDivisor 31 = .ok (.goto (-24), 3) := by decide +kernel
theorem dX8_commonDivisor_34 : decode cX8_commonDivisor 34 = .ok (.iload_n 2, 1) := by decide +kernel
theorem dX8_commonDivisor_35 : decode cX8_commonDivisor 35 = .ok (.ireturn, 1) := by decide +kernel
theorem dX8_count_0 : decode cX8_count 0 = .ok (.iload_n 1, 1) := by decide +kernel
theorem dX8_count_1 : decode cX8_count 1 = .ok (.tableswitch 129 0 9 #[55, 63, 71, 79, 87, 95, 103, 108, 116, 124], 55) := by decide +kernel
theorem dX8_count_56 : decode cX8_count 56 = .ok (.aload_n 0, 1) := by decide +kernel
theorem dX8_count_57 : decode cX8_count 57 = .ok (.getfield 23, 3) := by decide +kernel
theorem dX8_count_60 : decode cX8_count 60 = .ok (.getfield 289, 3) := by decide +kernel
theorem dX8_count_63 : decode cX8_count 63 = .ok (.ireturn, 1) := by decide +kernel
theorem dX8_count_64 : decode cX8_count 64 = .ok (.aload_n 0, 1) := by decide +kernel
theorem dX8_count_65 : decode cX8_count 65 = .ok (.getfield 23, 3) := by decide +kernel
theorem dX8_count_68 : decode cX8_count 68 = .ok (.getfield 292, 3) := by decide +kernel
theorem dX8_count_71 : decode cX8_count 71 = .ok (.ireturn, 1) := by decide +kernel
theorem dX8_count_72 : decode cX8_count 72 = .ok (.aload_n 0, 1) := by decide +kernel
theorem dX8_count_73 : decode cX8_count 73 = .ok (.getfield 23, 3) := by decide +kernel
theorem dX8_count_76 : decode cX8_count 76 = .ok (.getfield 170, 3) := by decide +kernel
theorem dX8_count_79 : decode cX8_count 79 = .ok (.ireturn, 1) := by decide +kernel
theorem dX8_count_80 : decode cX8_count 80 = .ok (.aload_n 0, 1) := by decide +kernel
theorem dX8_count_81 : decode cX8_count 81 = .ok (.getfield 23, 3) := by decide +kernel
theorem dX8_count_84 : decode cX8_count 84 = .ok (.getfield 295, 3) := by decide +kernel
theorem dX8_count_87 : decode cX8_count 87 = .ok (.ireturn, 1) := by decide +kernel
theorem dX8_count_88 : decode cX8_count 88 = .ok (.aload_n 0, 1) := by decide +kernel
theorem dX8_count_89 : decode cX8_count 89 = .ok (.getfield 23, 3) := by decide +kernel
theorem dX8_count_92 : decode cX8_count 92 = .ok (.getfield 298, 3) := by decide +kernel
theorem dX8_count_95 : decode cX8_count 95 = .ok (.ireturn, 1) := by decide +kernel
theorem dX8_count_96 : decode cX8_count 96 = .ok (.aload_n 0, 1) := by decide +kernel
theorem dX8_count_97 : decode cX8_count 97 = .ok (.getfield 33, 3) := by decide +kernel
theorem dX8_count_100 : decode cX8_count 100 = .ok (.getfield 203, 3) := by decide +kernel
theorem dX8_count_103 : decode cX8_count 103 = .ok (.ireturn, 1) := by decide +kernel
theorem dX8_count_104 : decode cX8_count 104 = .ok (.aload_n 0, 1) := by decide +kernel
theorem dX8_count_105 : decode cX8_count 105 = .ok (.getfield 272, 3) := by decide +kernel
theorem dX8_count_108 : decode cX8_count 108 = .ok (.ireturn, 1) := by decide +kernel
theorem dX8_count_109 : decode cX8_count 109 = .ok (.aload_n 0, 1) := by decide +kernel
theorem dX8_count_110 : decode cX8_count 110 = .ok (.getfield 42, 3) := by decide +kernel
theorem dX8_count_113 : decode cX8_count 113 = .ok (.getfield 213, 3) := by decide +kernel
theorem dX8_count_116 : decode cX8_count 116 = .ok (.ireturn, 1) := by decide +kernel
theorem dX8_count_117 : decode cX8_count 117 = .ok (.aload_n 0, 1) := by decide +kernel
theorem dX8_count_118 : decode cX8_count 118 = .ok (.getfield 46, 3) := by decide +kernel
theorem dX8_count_121 : decode cX8_count 121 = .ok (.getfield 213, 3) := by decide +kernel
theorem dX8_count_124 : decode cX8_count 124 = .ok (.ireturn, 1) := by decide +kernel
theorem dX8_count_125 : decode cX8_count 125 = .ok (.aload_n 0, 1) := by decide +kernel
theorem dX8_count_126 : decode cX8_count 126 = .ok (.getfield 115, 3) := by decide +kernel
theorem dX8_count_129 : decode cX8_count 129 = .ok (.ireturn, 1) := by decide +kernel
theorem dX8_count_130 : decode cX8_count 130 = .ok (.iconst (-1), 1) := by decide +kernel
theorem dX8_count_131 : decode cX8_count 131 = .ok (.ireturn, 1) := by decide +kernel
theorem dX8_failed_0 : decode cX8_failed 0 = .ok (.aload_n 0, 1) := by decide +kernel
theorem dX8_failed_1 : decode cX8_failed 1 = .ok (.aload_n 0, 1) := by decide +kernel
theorem dX8_failed_2 : decode cX8_failed 2 = .ok (.getfield 67, 3) := by decide +kernel
theorem dX8_failed_5 : decode cX8_failed 5 = .ok (.invokevirtual 275, 3) := by decide +kernel
theorem dX8_failed_8 : decode cX8_failed 8 = .ok (.ifCond .eq 8, 3) := by decide +kernel
theorem dX8_failed_11 : decode cX8_failed 11 = .ok (.bipush 64, 2) := by decide +kernel
theorem dX8_failed_13 : decode cX8_failed 13 = .ok (.goto 4, 3) := by decide +kernel
theorem dX8_failed_16 : decode cX8_failed 16 = .ok (.iconst 0, 1) := by decide +kernel
theorem dX8_failed_17 : decode cX8_failed 17 = .ok (.istore_n 1, 1) := by decide +kernel
theorem dX8_failed_18 : decode cX8_failed 18 = .ok (.iconst 0, 1) := by decide +kernel
theorem dX8_failed_19 : decode cX8_failed 19 = .ok (.istore_n 2, 1) := by decide +kernel
theorem dX8_failed_20 : decode cX8_failed 20 = .ok (.iload_n 2, 1) := by decide +kernel
theorem dX8_failed_21 : decode cX8_failed 21 = .ok (.aload_n 0, 1) := by decide +kernel
theorem dX8_failed_22 : decode cX8_failed 22 = .ok (.getfield 23, 3) := by decide +kernel
theorem dX8_failed_25 : decode cX8_failed 25 = .ok (.getfield 170, 3) := by decide +kernel
theorem dX8_failed_28 : decode cX8_failed 28 = .ok (.if_icmp .ge 31, 3) := by decide +kernel
theorem dX8_failed_31 : decode cX8_failed 31 = .ok (.aload_n 0, 1) := by decide +kernel
theorem dX8_failed_32 : decode cX8_failed 32 = .ok (.iload_n 2, 1) := by decide +kernel
theorem dX8_failed_33 : decode cX8_failed 33 = .ok (.invokevirtual 224, 3) := by decide +kernel
theorem dX8_failed_36 : decode cX8_failed 36 = .ok (.aload_n 0, 1) := by decide +kernel
theorem dX8_failed_37 : decode cX8_failed 37 = .ok (.aload_n 0, 1) := by decide +kernel
theorem dX8_failed_38 : decode cX8_failed 38 = .ok (.getfield 71, 3) := by decide +kernel
theorem dX8_failed_41 : decode cX8_failed 41 = .ok (.invokevirtual 275, 3) := by decide +kernel
theorem dX8_failed_44 : decode cX8_failed 44 = .ok (.ifCond .eq 9, 3) := by decide +kernel
theorem dX8_failed_47 : decode cX8_failed 47 = .ok (.iload_n 1, 1) := by decide +kernel
theorem dX8_failed_48 : decode cX8_failed 48 = .ok (.iconst 1, 1) := by decide +kernel
theorem dX8_failed_49 : decode cX8_failed 49 = .ok (.iload_n 2, 1) := by decide +kernel
theorem dX8_failed_50 : decode cX8_failed 50 = .ok (.ishl, 1) := by decide +kernel
theorem dX8_failed_51 : decode cX8_failed 51 = .ok (.ior, 1) := by decide +kernel
theorem dX8_failed_52 : decode cX8_failed 52 = .ok (.istore_n 1, 1) := by decide +kernel
theorem dX8_failed_53 : decode cX8_failed 53 = .ok (.iinc 2 1, 3) := by decide +kernel
theorem dX8_failed_56 : decode cX8_failed 56 = .ok (.goto (-36), 3) := by decide +kernel
theorem dX8_failed_59 : decode cX8_failed 59 = .ok (.iload_n 1, 1) := by decide +kernel
theorem dX8_failed_60 : decode cX8_failed 60 = .ok (.ireturn, 1) := by decide +kernel
theorem dX8_far_0 : decode cX8_far 0 = .ok (.iload_n 1, 1) := by decide +kernel
theorem dX8_far_1 : decode cX8_far 1 = .ok (.iconst (-1), 1) := by decide +kernel
theorem dX8_far_2 : decode cX8_far 2 = .ok (.if_icmp .eq 16, 3) := by decide +kernel
theorem dX8_far_5 : decode cX8_far 5 = .ok (.aload_n 0, 1) := by decide +kernel
theorem dX8_far_6 : decode cX8_far 6 = .ok (.getfield 23, 3) := by decide +kernel
theorem dX8_far_9 : decode cX8_far 9 = .ok (.iload_n 1, 1) := by decide +kernel
theorem dX8_far_10 : decode cX8_far 10 = .ok (.invokevirtual 146, 3) := by decide +kernel
theorem dX8_far_13 : decode cX8_far 13 = .ok (.ifCond .ne 5, 3) := by decide +kernel
theorem dX8_far_16 : decode cX8_far 16 = .ok (.iconst (-1), 1) := by decide +kernel
theorem dX8_far_17 : decode cX8_far 17 = .ok (.ireturn, 1) := by decide +kernel
theorem dX8_far_18 : decode cX8_far 18 = .ok (.aload_n 0, 1) := by decide +kernel
theorem dX8_far_19 : decode cX8_far 19 = .ok (.getfield 86, 3) := by decide +kernel
theorem dX8_far_22 : decode cX8_far 22 = .ok (.iconst (-1), 1) := by decide +kernel
theorem dX8_far_23 : decode cX8_far 23 = .ok (.iconst 0, 1) := by decide +kernel
theorem dX8_far_24 : decode cX8_far 24 = .ok (.invokevirtual 235, 3) := by decide +kernel
theorem dX8_far_27 : decode cX8_far 27 = .ok (.iload_n 1, 1) := by decide +kernel
theorem dX8_far_28 : decode cX8_far 28 = .ok (.iconst (-1), 1) := by decide +kernel
theorem dX8_far_29 : decode cX8_far 29 = .ok (.if_icmp .ne 13, 3) := by decide +kernel
theorem dX8_far_32 : decode cX8_far 32 = .ok (.aload_n 0, 1) := by decide +kernel
theorem dX8_far_33 : decode cX8_far 33 = .ok (.getfield 86, 3) := by decide +kernel
theorem dX8_far_36 : decode cX8_far 36 = .ok (.getfield 238, 3) := by decide +kernel
theorem dX8_far_39 : decode cX8_far 39 = .ok (.goto 12, 3) := by decide +kernel
theorem dX8_far_42 : decode cX8_far 42 = .ok (.aload_n 0, 1) := by decide +kernel
theorem dX8_far_43 : decode cX8_far 43 = .ok (.getfield 86, 3) := by decide +kernel
theorem dX8_far_46 : decode cX8_far 46 = .ok (.getfield 241, 3) := by decide +kernel
theorem dX8_far_49 : decode cX8_far 49 = .ok (.iload_n 1, 1) := by decide +kernel
theorem dX8_far_50 : decode cX8_far 50 = .ok (.iaload, 1) := by decide +kernel
theorem dX8_far_51 : decode cX8_far 51 = .ok (.ireturn, 1) := by decide +kernel
theorem dX8_fault_0 : decode cX8_fault 0 = .ok (.aload_n 0, 1) := by decide +kernel
theorem dX8_fault_1 : decode cX8_fault 1 = .ok (.getfield 16, 3) := by decide +kernel
theorem dX8_fault_4 : decode cX8_fault 4 = .ok (.aload_n 0, 1) := by decide +kernel
theorem dX8_fault_5 : decode cX8_fault 5 = .ok (.getfield 9, 3) := by decide +kernel
theorem dX8_fault_8 : decode cX8_fault 8 = .ok (.aload_n 0, 1) := by decide +kernel
theorem dX8_fault_9 : decode cX8_fault 9 = .ok (.getfield 115, 3) := by decide +kernel
theorem dX8_fault_12 : decode cX8_fault 12 = .ok (.invokevirtual 125, 3) := by decide +kernel
theorem dX8_fault_15 : decode cX8_fault 15 = .ok (.ireturn, 1) := by decide +kernel
theorem dX8_forget_0 : decode cX8_forget 0 = .ok (.aload_n 0, 1) := by decide +kernel
theorem dX8_forget_1 : decode cX8_forget 1 = .ok (.getfield 272, 3) := by decide +kernel
theorem dX8_forget_4 : decode cX8_forget 4 = .ok (.istore_n 1, 1) := by decide +kernel
theorem dX8_forget_5 : decode cX8_forget 5 = .ok (.aload_n 0, 1) := by decide +kernel
theorem dX8_forget_6 : decode cX8_forget 6 = .ok (.iconst 0, 1) := by decide +kernel
theorem dX8_forget_7 : decode cX8_forget 7 = .ok (.putfield 272, 3) := by decide +kernel
theorem dX8_forget_10 : decode cX8_forget 10 = .ok (.iload_n 1, 1) := by decide +kernel
theorem dX8_forget_11 : decode cX8_forget 11 = .ok (.ireturn, 1) := by decide +kernel
theorem dX8_heir_0 : decode cX8_heir 0 = .ok (.iload_n 1, 1) := by decide +kernel
theorem dX8_heir_1 : decode cX8_heir 1 = .ok (.iconst 0, 1) := by decide +kernel
theorem dX8_heir_2 : decode cX8_heir 2 = .ok (.iconst 2, 1) := by decide +kernel
theorem dX8_heir_3 : decode cX8_heir 3 = .ok (.invokestatic 121, 3) := by decide +kernel
theorem dX8_heir_6 : decode cX8_heir 6 = .ok (.ifCond .ne 5, 3) := by decide +kernel
theorem dX8_heir_9 : decode cX8_heir 9 = .ok (.iconst (-1), 1) := by decide +kernel
theorem dX8_heir_10 : decode cX8_heir 10 = .ok (.ireturn, 1) := by decide +kernel
theorem dX8_heir_11 : decode cX8_heir 11 = .ok (.aload_n 0, 1) := by decide +kernel
theorem dX8_heir_12 : decode cX8_heir 12 = .ok (.getfield 67, 3) := by decide +kernel
theorem dX8_heir_15 : decode cX8_heir 15 = .ok (.iload_n 1, 1) := by decide +kernel
theorem dX8_heir_16 : decode cX8_heir 16 = .ok (.invokevirtual 260, 3) := by decide +kernel
theorem dX8_heir_19 : decode cX8_heir 19 = .ok (.ireturn, 1) := by decide +kernel
theorem dX8_init_0 : decode cX8_init 0 = .ok (.aload_n 0, 1) := by decide +kernel
theorem dX8_init_1 : decode cX8_init 1 = .ok (.invokespecial 1, 3) := by decide +kernel
theorem dX8_init_4 : decode cX8_init 4 = .ok (.aload_n 0, 1) := by decide +kernel
theorem dX8_init_5 : decode cX8_init 5 = .ok (.sipush 200, 3) := by decide +kernel
theorem dX8_init_8 : decode cX8_init 8 = .ok (.newarray .char, 2) := by decide +kernel
theorem dX8_init_10 : decode cX8_init 10 = .ok (.putfield 9, 3) := by decide +kernel
theorem dX8_init_13 : decode cX8_init 13 = .ok (.aload_n 0, 1) := by decide +kernel
theorem dX8_init_14 : decode cX8_init 14 = .ok (.new 13, 3) := by decide +kernel
theorem dX8_init_17 : decode cX8_init 17 = .ok (.dup, 1) := by decide +kernel
theorem dX8_init_18 : decode cX8_init 18 = .ok (.invokespecial 15, 3) := by decide +kernel
theorem dX8_init_21 : decode cX8_init 21 = .ok (.putfield 16, 3) := by decide +kernel
theorem dX8_init_24 : decode cX8_init 24 = .ok (.aload_n 0, 1) := by decide +kernel
theorem dX8_init_25 : decode cX8_init 25 = .ok (.new 20, 3) := by decide +kernel
theorem dX8_init_28 : decode cX8_init 28 = .ok (.dup, 1) := by decide +kernel
theorem dX8_init_29 : decode cX8_init 29 = .ok (.invokespecial 22, 3) := by decide +kernel
theorem dX8_init_32 : decode cX8_init 32 = .ok (.putfield 23, 3) := by decide +kernel
theorem dX8_init_35 : decode cX8_init 35 = .ok (.aload_n 0, 1) := by decide +kernel
theorem dX8_init_36 : decode cX8_init 36 = .ok (.new 20, 3) := by decide +kernel
theorem dX8_init_39 : decode cX8_init 39 = .ok (.dup, 1) := by decide +kernel
theorem dX8_init_40 : decode cX8_init 40 = .ok (.invokespecial 22, 3) := by decide +kernel
theorem dX8_init_43 : decode cX8_init 43 = .ok (.putfield 27, 3) := by decide +kernel
theorem dX8_init_46 : decode cX8_init 46 = .ok (.aload_n 0, 1) := by decide +kernel
theorem dX8_init_47 : decode cX8_init 47 = .ok (.new 30, 3) := by decide +kernel
theorem dX8_init_50 : decode cX8_init 50 = .ok (.dup, 1) := by decide +kernel
theorem dX8_init_51 : decode cX8_init 51 = .ok (.invokespecial 32, 3) := by decide +kernel
theorem dX8_init_54 : decode cX8_init 54 = .ok (.putfield 33, 3) := by decide +kernel
theorem dX8_init_57 : decode cX8_init 57 = .ok (.aload_n 0, 1) := by decide +kernel
theorem dX8_init_58 : decode cX8_init 58 = .ok (.new 37, 3) := by decide +kernel
theorem dX8_init_61 : decode cX8_init 61 = .ok (.dup, 1) := by decide +kernel
theorem dX8_init_62 : decode cX8_init 62 = .ok (.bipush 8, 2) := by decide +kernel
theorem dX8_init_64 : decode cX8_init 64 = .ok (.invokespecial 39, 3) := by decide +kernel
theorem dX8_init_67 : decode cX8_init 67 = .ok (.putfield 42, 3) := by decide +kernel
theorem dX8_init_70 : decode cX8_init 70 = .ok (.aload_n 0, 1) := by decide +kernel
theorem dX8_init_71 : decode cX8_init 71 = .ok (.new 37, 3) := by decide +kernel
theorem dX8_init_74 : decode cX8_init 74 = .ok (.dup, 1) := by decide +kernel
theorem dX8_init_75 : decode cX8_init 75 = .ok (.iconst 2, 1) := by decide +kernel
theorem dX8_init_76 : decode cX8_init 76 = .ok (.invokespecial 39, 3) := by decide +kernel
theorem dX8_init_79 : decode cX8_init 79 = .ok (.putfield 46, 3) := by decide +kernel
theorem dX8_init_82 : decode cX8_init 82 = .ok (.aload_n 0, 1) := by decide +kernel
theorem dX8_init_83 : decode cX8_init 83 = .ok (.bipush 8, 2) := by decide +kernel
theorem dX8_init_85 : decode cX8_init 85 = .ok (.newarray .int, 2) := by decide +kernel
theorem dX8_init_87 : decode cX8_init 87 = .ok (.putfield 49, 3) := by decide +kernel
theorem dX8_init_90 : decode cX8_init 90 = .ok (.aload_n 0, 1) := by decide +kernel
theorem dX8_init_91 : decode cX8_init 91 = .ok (.bipush 8, 2) := by decide +kernel
theorem dX8_init_93 : decode cX8_init 93 = .ok (.newarray .int, 2) := by decide +kernel
theorem dX8_init_95 : decode cX8_init 95 = .ok (.putfield 53, 3) := by decide +kernel
theorem dX8_init_98 : decode cX8_init 98 = .ok (.aload_n 0, 1) := by decide +kernel
theorem dX8_init_99 : decode cX8_init 99 = .ok (.bipush 120, 2) := by decide +kernel
theorem dX8_init_101 : decode cX8_init 101 = .ok (.newarray .int, 2) := by decide +kernel
theorem dX8_init_103 : decode cX8_init 103 = .ok (.putfield 56, 3) := by decide +kernel
theorem dX8_init_106 : decode cX8_init 106 = .ok (.aload_n 0, 1) := by decide +kernel
theorem dX8_init_107 : decode cX8_init 107 = .ok (.bipush 120, 2) := by decide +kernel
theorem dX8_init_109 : decode cX8_init 109 = .ok (.newarray .int, 2) := by decide +kernel
theorem dX8_init_111 : decode cX8_init 111 = .ok (.putfield 59, 3) := by decide +kernel
theorem dX8_init_114 : decode cX8_init 114 = .ok (.aload_n 0, 1) := by decide +kernel
theorem dX8_init_115 : decode cX8_init 115 = .ok (.new 62, 3) := by decide +kernel
theorem dX8_init_118 : decode cX8_init 118 = .ok (.dup, 1) := by decide +kernel
theorem dX8_init_119 : decode cX8_init 119 = .ok (.aload_n 0, 1) := by decide +kernel
theorem dX8_init_120 : decode cX8_init 120 = .ok (.getfield 23, 3) := by decide +kernel
theorem dX8_init_123 : decode cX8_init 123 = .ok (.invokespecial 64, 3) := by decide +kernel
theorem dX8_init_126 : decode cX8_init 126 = .ok (.putfield 67, 3) := by decide +kernel
theorem dX8_init_129 : decode cX8_init 129 = .ok (.aload_n 0, 1) := by decide +kernel
theorem dX8_init_130 : decode cX8_init 130 = .ok (.new 62, 3) := by decide +kernel
theorem dX8_init_133 : decode cX8_init 133 = .ok (.dup, 1) := by decide +kernel
theorem dX8_init_134 : decode cX8_init 134 = .ok (.aload_n 0, 1) := by decide +kernel
theorem dX8_init_135 : decode cX8_init 135 = .ok (.getfield 23, 3) := by decide +kernel
theorem dX8_init_138 : decode cX8_init 138 = .ok (.invokespecial 64, 3) := by decide +kernel
theorem dX8_init_141 : decode cX8_init 141 = .ok (.putfield 71, 3) := by decide +kernel
theorem dX8_init_144 : decode cX8_init 144 = .ok (.aload_n 0, 1) := by decide +kernel
theorem dX8_init_145 : decode cX8_init 145 = .ok (.new 74, 3) := by decide +kernel
theorem dX8_init_148 : decode cX8_init 148 = .ok (.dup, 1) := by decide +kernel
theorem dX8_init_149 : decode cX8_init 149 = .ok (.aload_n 0, 1) := by decide +kernel
theorem dX8_init_150 : decode cX8_init 150 = .ok (.getfield 23, 3) := by decide +kernel
theorem dX8_init_153 : decode cX8_init 153 = .ok (.aload_n 0, 1) := by decide +kernel
theorem dX8_init_154 : decode cX8_init 154 = .ok (.getfield 56, 3) := by decide +kernel
theorem dX8_init_157 : decode cX8_init 157 = .ok (.invokespecial 76, 3) := by decide +kernel
theorem dX8_init_160 : decode cX8_init 160 = .ok (.putfield 79, 3) := by decide +kernel
theorem dX8_init_163 : decode cX8_init 163 = .ok (.aload_n 0, 1) := by decide +kernel
theorem dX8_init_164 : decode cX8_init 164 = .ok (.new 83, 3) := by decide +kernel
theorem dX8_init_167 : decode cX8_init 167 = .ok (.dup, 1) := by decide +kernel
theorem dX8_init_168 : decode cX8_init 168 = .ok (.aload_n 0, 1) := by decide +kernel
theorem dX8_init_169 : decode cX8_init 169 = .ok (.getfield 23, 3) := by decide +kernel
theorem dX8_init_172 : decode cX8_init 172 = .ok (.invokespecial 85, 3) := by decide +kernel
theorem dX8_init_175 : decode cX8_init 175 = .ok (.putfield 86, 3) := by decide +kernel
theorem dX8_init_178 : decode cX8_init 178 = .ok (.aload_n 0, 1) := by decide +kernel
theorem dX8_init_179 : decode cX8_init 179 = .ok (.new 90, 3) := by decide +kernel
theorem dX8_init_182 : decode cX8_init 182 = .ok (.dup, 1) := by decide +kernel
theorem dX8_init_183 : decode cX8_init 183 = .ok (.aload_n 0, 1) := by decide +kernel
theorem dX8_init_184 : decode cX8_init 184 = .ok (.getfield 23, 3) := by decide +kernel
theorem dX8_init_187 : decode cX8_init 187 = .ok (.invokespecial 92, 3) := by decide +kernel
theorem dX8_init_190 : decode cX8_init 190 = .ok (.putfield 93, 3) := by decide +kernel
theorem dX8_init_193 : decode cX8_init 193 = .ok (.ldc 97, 2) := by decide +kernel
theorem dX8_init_195 : decode cX8_init 195 = .ok (.invokevirtual 99, 3) := by decide +kernel
theorem dX8_init_198 : decode cX8_init 198 = .ok (.sipush 200, 3) := by decide +kernel
theorem dX8_init_201 : decode cX8_init 201 = .ok (.invokestatic 105, 3) := by decide +kernel
theorem dX8_init_204 : decode cX8_init 204 = .ok (.istore_n 1, 1) := by decide +kernel
theorem dX8_init_205 : decode cX8_init 205 = .ok (.iconst 0, 1) := by decide +kernel
theorem dX8_init_206 : decode cX8_init 206 = .ok (.istore_n 2, 1) := by decide +kernel
theorem dX8_init_207 : decode cX8_init 207 = .ok (.iload_n 2, 1) := by decide +kernel
theorem dX8_init_208 : decode cX8_init 208 = .ok (.iload_n 1, 1) := by decide +kernel
theorem dX8_init_209 : decode cX8_init 209 = .ok (.if_icmp .ge 21, 3) := by decide +kernel
theorem dX8_init_212 : decode cX8_init 212 = .ok (.aload_n 0, 1) := by decide +kernel
theorem dX8_init_213 : decode cX8_init 213 = .ok (.getfield 9, 3) := by decide +kernel
theorem dX8_init_216 : decode cX8_init 216 = .ok (.iload_n 2, 1) := by decide +kernel
theorem dX8_init_217 : decode cX8_init 217 = .ok (.ldc 97, 2) := by decide +kernel
theorem dX8_init_219 : decode cX8_init 219 = .ok (.iload_n 2, 1) := by decide +kernel
theorem dX8_init_220 : decode cX8_init 220 = .ok (.invokevirtual 111, 3) := by decide +kernel
theorem dX8_init_223 : decode cX8_init 223 = .ok (.castore, 1) := by decide +kernel
theorem dX8_init_224 : decode cX8_init 224 = .ok (.iinc 2 1, 3) := by decide +kernel
theorem dX8_init_227 : decode cX8_init 227 = .ok (.goto (-20), 3) := by decide +kernel
theorem dX8_init_230 : decode cX8_init 230 = .ok (.aload_n 0, 1) := by decide +kernel
theorem dX8_init_231 : decode cX8_init 231 = .ok (.iload_n 1, 1) := by decide +kernel
theorem dX8_init_232 : decode cX8_init 232 = .ok (.putfield 115, 3) := by decide +kernel
theorem dX8_init_235 : decode cX8_init 235 = .ok (.aload_n 0, 1) := by decide +kernel
theorem dX8_init_236 : decode cX8_init 236 = .ok (.invokevirtual 118, 3) := by decide +kernel
theorem dX8_init_239 : decode cX8_init 239 = .ok (.pop, 1) := by decide +kernel
theorem dX8_init_240 : decode cX8_init 240 = .ok (.aload_n 0, 1) := by decide +kernel
theorem dX8_init_241 : decode cX8_init 241 = .ok (.iconst 0, 1) := by decide +kernel
theorem dX8_init_242 : decode cX8_init 242 = .ok (.putfield 115, 3) := by decide +kernel
theorem dX8_init_245 : decode cX8_init 245 = .ok (.return_, 1) := by decide +kernel
theorem dX8_isIn_0 : decode cX8_isIn 0 = .ok (.iload_n 1, 1) := by decide +kernel
theorem dX8_isIn_1 : decode cX8_isIn 1 = .ok (.iload_n 0, 1) := by decide +kernel
theorem dX8_isIn_2 : decode cX8_isIn 2 = .ok (.ishr, 1) := by decide +kernel
theorem dX8_isIn_3 : decode cX8_isIn 3 = .ok (.iconst 1, 1) := by decide +kernel
theorem dX8_isIn_4 : decode cX8_isIn 4 = .ok (.iand, 1) := by decide +kernel
theorem dX8_isIn_5 : decode cX8_isIn 5 = .ok (.ifCond .eq 7, 3) := by decide +kernel
theorem dX8_isIn_8 : decode cX8_isIn 8 = .ok (.iconst 1, 1) := by decide +kernel
theorem dX8_isIn_9 : decode cX8_isIn 9 = .ok (.goto 4, 3) := by decide +kernel
theorem dX8_isIn_12 : decode cX8_isIn 12 = .ok (.iconst 0, 1) := by decide +kernel
theorem dX8_isIn_13 : decode cX8_isIn 13 = .ok (.ireturn, 1) := by decide +kernel
theorem dX8_keep_0 : decode cX8_keep 0 = .ok (.aload_n 0, 1) := by decide +kernel
theorem dX8_keep_1 : decode cX8_keep 1 = .ok (.getfield 46, 3) := by decide +kernel
theorem dX8_keep_4 : decode cX8_keep 4 = .ok (.invokevirtual 288, 3) := by decide +kernel
theorem dX8_keep_7 : decode cX8_keep 7 = .ok (.ifCond .eq 6, 3) := by decide +kernel
theorem dX8_keep_10 : decode cX8_keep 10 = .ok (.bipush (-3), 2) := by decide +kernel
theorem dX8_keep_12 : decode cX8_keep 12 = .ok (.ireturn, 1) := by decide +kernel
theorem dX8_keep_13 : decode cX8_keep 13 = .ok (.aload_n 0, 1) := by decide +kernel
theorem dX8_keep_14 : decode cX8_keep 14 = .ok (.getfield 46, 3) := by decide +kernel
theorem dX8_keep_17 : decode cX8_keep 17 = .ok (.aload_n 0, 1) := by decide +kernel
theorem dX8_keep_18 : decode cX8_keep 18 = .ok (.getfield 33, 3) := by decide +kernel
theorem dX8_keep_21 : decode cX8_keep 21 = .ok (.invokevirtual 193, 3) := by decide +kernel
theorem dX8_keep_24 : decode cX8_keep 24 = .ok (.aload_n 0, 1) := by decide +kernel
theorem dX8_keep_25 : decode cX8_keep 25 = .ok (.getfield 46, 3) := by decide +kernel
theorem dX8_keep_28 : decode cX8_keep 28 = .ok (.getfield 213, 3) := by decide +kernel
theorem dX8_keep_31 : decode cX8_keep 31 = .ok (.ireturn, 1) := by decide +kernel
theorem dX8_lay_0 : decode cX8_lay 0 = .ok (.aload_n 0, 1) := by decide +kernel
theorem dX8_lay_1 : decode cX8_lay 1 = .ok (.invokevirtual 118, 3) := by decide +kernel
theorem dX8_lay_4 : decode cX8_lay 4 = .ok (.ireturn, 1) := by decide +kernel
theorem dX8_layText_0 : decode cX8_layText 0 = .ok (.aload_n 0, 1) := by decide +kernel
theorem dX8_layText_1 : decode cX8_layText 1 = .ok (.getfield 16, 3) := by decide +kernel
theorem dX8_layText_4 : decode cX8_layText 4 = .ok (.aload_n 0, 1) := by decide +kernel
theorem dX8_layText_5 : decode cX8_layText 5 = .ok (.getfield 9, 3) := by decide +kernel
theorem dX8_layText_8 : decode cX8_layText 8 = .ok (.aload_n 0, 1) := by decide +kernel
theorem dX8_layText_9 : decode cX8_layText 9 = .ok (.getfield 115, 3) := by decide +kernel
theorem dX8_layText_12 : decode cX8_layText 12 = .ok (.invokevirtual 125, 3) := by decide +kernel
theorem dX8_layText_15 : decode cX8_layText 15 = .ok (.bipush (-4), 2) := by decide +kernel
theorem dX8_layText_17 : decode cX8_layText 17 = .ok (.if_icmp .eq 6, 3) := by decide +kernel
theorem dX8_layText_20 : decode cX8_layText 20 = .ok (.bipush (-2), 2) := by decide +kernel
theorem dX8_layText_22 : decode cX8_layText 22 = .ok (.ireturn, 1) := by decide +kernel
theorem dX8_layText_23 : decode cX8_layText 23 = .ok (.aload_n 0, 1) := by decide +kernel
theorem dX8_layText_24 : decode cX8_layText 24 = .ok (.getfield 16, 3) := by decide +kernel
theorem dX8_layText_27 : decode cX8_layText 27 = .ok (.getfield 301, 3) := by decide +kernel
theorem dX8_layText_30 : decode cX8_layText 30 = .ok (.getfield 289, 3) := by decide +kernel
theorem dX8_layText_33 : decode cX8_layText 33 = .ok (.ifCond .eq 16, 3) := by decide +kernel
theorem dX8_layText_36 : decode cX8_layText 36 = .ok (.aload_n 0, 1) := by decide +kernel
theorem dX8_layText_37 : decode cX8_layText 37 = .ok (.getfield 16, 3) := by decide +kernel
theorem dX8_layText_40 : decode cX8_layText 40 = .ok (.getfield 301, 3) := by decide +kernel
theorem dX8_layText_43 : decode cX8_layText 43 = .ok (.getfield 170, 3) := by decide +kernel
theorem dX8_layText_46 : decode cX8_layText 46 = .ok (.ifCond .ne 6, 3) := by decide +kernel
theorem dX8_layText_49 : decode cX8_layText 49 = .ok (.bipush (-2), 2) := by decide +kernel
theorem dX8_layText_51 : decode cX8_layText 51 = .ok (.ireturn, 1) := by decide +kernel
theorem dX8_layText_52 : decode cX8_layText 52 = .ok (.aload_n 0, 1) := by decide +kernel
theorem dX8_layText_53 : decode cX8_layText 53 = .ok (.getfield 23, 3) := by decide +kernel
theorem dX8_layText_56 : decode cX8_layText 56 = .ok (.aload_n 0, 1) := by decide +kernel
theorem dX8_layText_57 : decode cX8_layText 57 = .ok (.getfield 16, 3) := by decide +kernel
theorem dX8_layText_60 : decode cX8_layText 60 = .ok (.getfield 301, 3) := by decide +kernel
theorem dX8_layText_63 : decode cX8_layText 63 = .ok (.invokevirtual 247, 3) := by decide +kernel
theorem dX8_layText_66 : decode cX8_layText 66 = .ok (.aload_n 0, 1) := by decide +kernel
theorem dX8_layText_67 : decode cX8_layText 67 = .ok (.getfield 33, 3) := by decide +kernel
theorem dX8_layText_70 : decode cX8_layText 70 = .ok (.aload_n 0, 1) := by decide +kernel
theorem dX8_layText_71 : decode cX8_layText 71 = .ok (.getfield 16, 3) := by decide +kernel
theorem dX8_layText_74 : decode cX8_layText 74 = .ok (.getfield 302, 3) := by decide +kernel
theorem dX8_layText_77 : decode cX8_layText 77 = .ok (.invokevirtual 303, 3) := by decide +kernel
theorem dX8_layText_80 : decode cX8_layText 80 = .ok (.aload_n 0, 1) := by decide +kernel
theorem dX8_layText_81 : decode cX8_layText 81 = .ok (.iconst 0, 1) := by decide +kernel
theorem dX8_layText_82 : decode cX8_layText 82 = .ok (.putfield 272, 3) := by decide +kernel
theorem dX8_layText_85 : decode cX8_layText 85 = .ok (.aload_n 0, 1) := by decide +kernel
theorem dX8_layText_86 : decode cX8_layText 86 = .ok (.getfield 42, 3) := by decide +kernel
theorem dX8_layText_89 : decode cX8_layText 89 = .ok (.iconst 0, 1) := by decide +kernel
theorem dX8_layText_90 : decode cX8_layText 90 = .ok (.putfield 213, 3) := by decide +kernel
theorem dX8_layText_93 : decode cX8_layText 93 = .ok (.aload_n 0, 1) := by decide +kernel
theorem dX8_layText_94 : decode cX8_layText 94 = .ok (.getfield 46, 3) := by decide +kernel
theorem dX8_layText_97 : decode cX8_layText 97 = .ok (.iconst 0, 1) := by decide +kernel
theorem dX8_layText_98 : decode cX8_layText 98 = .ok (.putfield 213, 3) := by decide +kernel
theorem dX8_layText_101 : decode cX8_layText 101 = .ok (.aload_n 0, 1) := by decide +kernel
theorem dX8_layText_102 : decode cX8_layText 102 = .ok (.invokevirtual 200, 3) := by decide +kernel
theorem dX8_layText_105 : decode cX8_layText 105 = .ok (.aload_n 0, 1) := by decide +kernel
theorem dX8_layText_106 : decode cX8_layText 106 = .ok (.getfield 23, 3) := by decide +kernel
theorem dX8_layText_109 : decode cX8_layText 109 = .ok (.getfield 292, 3) := by decide +kernel
theorem dX8_layText_112 : decode cX8_layText 112 = .ok (.ireturn, 1) := by decide +kernel
theorem dX8_leave_0 : decode cX8_leave 0 = .ok (.aload_n 0, 1) := by decide +kernel
theorem dX8_leave_1 : decode cX8_leave 1 = .ok (.getfield 33, 3) := by decide +kernel
theorem dX8_leave_4 : decode cX8_leave 4 = .ok (.iload_n 1, 1) := by decide +kernel
theorem dX8_leave_5 : decode cX8_leave 5 = .ok (.invokevirtual 177, 3) := by decide +kernel
theorem dX8_leave_8 : decode cX8_leave 8 = .ok (.ifCond .ne 5, 3) := by decide +kernel
theorem dX8_leave_11 : decode cX8_leave 11 = .ok (.iconst (-1), 1) := by decide +kernel
theorem dX8_leave_12 : decode cX8_leave 12 = .ok (.ireturn, 1) := by decide +kernel
theorem dX8_leave_13 : decode cX8_leave 13 = .ok (.aload_n 0, 1) := by decide +kernel
theorem dX8_leave_14 : decode cX8_leave 14 = .ok (.getfield 42, 3) := by decide +kernel
theorem dX8_leave_17 : decode cX8_leave 17 = .ok (.aload_n 0, 1) := by decide +kernel
theorem dX8_leave_18 : decode cX8_leave 18 = .ok (.getfield 33, 3) := by decide +kernel
theorem dX8_leave_21 : decode cX8_leave 21 = .ok (.invokevirtual 193, 3) := by decide +kernel
theorem dX8_leave_24 : decode cX8_leave 24 = .ok (.aload_n 0, 1) := by decide +kernel
theorem dX8_leave_25 : decode cX8_leave 25 = .ok (.getfield 33, 3) := by decide +kernel
theorem dX8_leave_28 : decode cX8_leave 28 = .ok (.iload_n 1, 1) := by decide +kernel
theorem dX8_leave_29 : decode cX8_leave 29 = .ok (.invokevirtual 206, 3) := by decide +kernel
theorem dX8_leave_32 : decode cX8_leave 32 = .ok (.aload_n 0, 1) := by decide +kernel
theorem dX8_leave_33 : decode cX8_leave 33 = .ok (.invokevirtual 200, 3) := by decide +kernel
theorem dX8_leave_36 : decode cX8_leave 36 = .ok (.aload_n 0, 1) := by decide +kernel
theorem dX8_leave_37 : decode cX8_leave 37 = .ok (.getfield 33, 3) := by decide +kernel
theorem dX8_leave_40 : decode cX8_leave 40 = .ok (.getfield 203, 3) := by decide +kernel
theorem dX8_leave_43 : decode cX8_leave 43 = .ok (.ireturn, 1) := by decide +kernel
theorem dX8_lowestTerms_0 : decode cX8_lowestTerms 0 = .ok (.iload_n 0, 1) := by decide +kernel
theorem dX8_lowestTerms_1 : decode cX8_lowestTerms 1 = .ok (.ifCond .eq 7, 3) := by decide +kernel
theorem dX8_lowestTerms_4 : decode cX8_lowestTerms 4 = .ok (.iload_n 1, 1) := by decide +kernel
theorem dX8_lowestTerms_5 : decode cX8_lowestTerms 5 = .ok (.ifCond .ne 13, 3) := by decide +kernel
theorem dX8_lowestTerms_8 : decode cX8_lowestTerms 8 = .ok (.iload_n 2, 1) := by decide +kernel
theorem dX8_lowestTerms_9 : decode cX8_lowestTerms 9 = .ok (.ifCond .ne 7, 3) := by decide +kernel
theorem dX8_lowestTerms_12 : decode cX8_lowestTerms 12 = .ok (.iconst 0, 1) := by decide +kernel
theorem dX8_lowestTerms_13 : decode cX8_lowestTerms 13 = .ok (.goto 4, 3) := by decide +kernel
theorem dX8_lowestTerms_16 : decode cX8_lowestTerms 16 = .ok (.iconst 1, 1) := by decide +kernel
theorem dX8_lowestTerms_17 : decode cX8_lowestTerms 17 = .ok (.ireturn, 1) := by decide +kernel
theorem dX8_lowestTerms_18 : decode cX8_lowestTerms 18 = .ok (.iload_n 0, 1) := by decide +kernel
theorem dX8_lowestTerms_19 : decode cX8_lowestTerms 19 = .ok (.iload_n 1, 1) := by decide +kernel
theorem dX8_lowestTerms_20 : decode cX8_lowestTerms 20 = .ok (.invokestatic 309, 3) := by decide +kernel
theorem dX8_lowestTerms_23 : decode cX8_lowestTerms 23 = .ok (.istore_n 3, 1) := by decide +kernel
theorem dX8_lowestTerms_24 : decode cX8_lowestTerms 24 = .ok (.iload_n 3, 1) := by decide +kernel
theorem dX8_lowestTerms_25 : decode cX8_lowestTerms 25 = .ok (.ifCond .ne 13, 3) := by decide +kernel
theorem dX8_lowestTerms_28 : decode cX8_lowestTerms 28 = .ok (.iload_n 2, 1) := by decide +kernel
theorem dX8_lowestTerms_29 : decode cX8_lowestTerms 29 = .ok (.ifCond .ne 7, 3) := by decide +kernel
theorem dX8_lowestTerms_32 : decode cX8_lowestTerms 32 = .ok (.iload_n 0, 1) := by decide +kernel
theorem dX8_lowestTerms_33 : decode cX8_lowestTerms 33 = .ok (.goto 4, 3) := by decide +kernel
theorem dX8_lowestTerms_36 : decode cX8_lowestTerms 36 = .ok (.iload_n 1, 1) := by decide +kernel
theorem dX8_lowestTerms_37 : decode cX8_lowestTerms 37 = .ok (.ireturn, 1) := by decide +kernel
theorem dX8_lowestTerms_38 : decode cX8_lowestTerms 38 = .ok (.iload_n 2, 1) := by decide +kernel
theorem dX8_lowestTerms_39 : decode cX8_lowestTerms 39 = .ok (.ifCond .ne 7, 3) := by decide +kernel
theorem dX8_lowestTerms_42 : decode cX8_lowestTerms 42 = .ok (.iload_n 0, 1) := by decide +kernel
theorem dX8_lowestTerms_43 : decode cX8_lowestTerms 43 = .ok (.goto 4, 3) := by decide +kernel
theorem dX8_lowestTerms_46 : decode cX8_lowestTerms 46 = .ok (.iload_n 1, 1) := by decide +kernel
theorem dX8_lowestTerms_47 : decode cX8_lowestTerms 47 = .ok (.iload_n 3, 1) := by decide +kernel
theorem dX8_lowestTerms_48 : decode cX8_lowestTerms 48 = .ok (.idiv, 1) := by decide +kernel
theorem dX8_lowestTerms_49 : decode cX8_lowestTerms 49 = .ok (.ireturn, 1) := by decide +kernel
theorem dX8_needed_0 : decode cX8_needed 0 = .ok (.bipush (-4), 2) := by decide +kernel
theorem dX8_needed_2 : decode cX8_needed 2 = .ok (.istore_n 1, 1) := by decide +kernel
theorem dX8_needed_3 : decode cX8_needed 3 = .ok (.bipush 7, 2) := by decide +kernel
theorem dX8_needed_5 : decode cX8_needed 5 = .ok (.istore_n 2, 1) := by decide +kernel
theorem dX8_needed_6 : decode cX8_needed 6 = .ok (.iconst 1, 1) := by decide +kernel
theorem dX8_needed_7 : decode cX8_needed 7 = .ok (.istore_n 3, 1) := by decide +kernel
theorem dX8_needed_8 : decode cX8_needed 8 = .ok (.iload_n 3, 1) := by decide +kernel
theorem dX8_needed_9 : decode cX8_needed 9 = .ok (.iconst 1, 1) := by decide +kernel
theorem dX8_needed_10 : decode cX8_needed 10 = .ok (.aload_n 0, 1) := by decide +kernel
theorem dX8_needed_11 : decode cX8_needed 11 = .ok (.getfield 23, 3) := by decide +kernel
theorem dX8_needed_14 : decode cX8_needed 14 = .ok (.getfield 170, 3) := by decide +kernel
theorem dX8_needed_17 : decode cX8_needed 17 = .ok (.ishl, 1) := by decide +kernel
theorem dX8_needed_18 : decode cX8_needed 18 = .ok (.if_icmp .ge 32, 3) := by decide +kernel
theorem dX8_needed_21 : decode cX8_needed 21 = .ok (.iload_n 3, 1) := by decide +kernel
theorem dX8_needed_22 : decode cX8_needed 22 = .ok (.invokestatic 227, 3) := by decide +kernel
theorem dX8_needed_25 : decode cX8_needed 25 = .ok (.iload_n 2, 1) := by decide +kernel
theorem dX8_needed_26 : decode cX8_needed 26 = .ok (.if_icmp .ge 18, 3) := by decide +kernel
theorem dX8_needed_29 : decode cX8_needed 29 = .ok (.aload_n 0, 1) := by decide +kernel
theorem dX8_needed_30 : decode cX8_needed 30 = .ok (.iload_n 3, 1) := by decide +kernel
theorem dX8_needed_31 : decode cX8_needed 31 = .ok (.invokevirtual 232, 3) := by decide +kernel
theorem dX8_needed_34 : decode cX8_needed 34 = .ok (.ifCond .eq 10, 3) := by decide +kernel
theorem dX8_needed_37 : decode cX8_needed 37 = .ok (.iload_n 3, 1) := by decide +kernel
theorem dX8_needed_38 : decode cX8_needed 38 = .ok (.istore_n 1, 1) := by decide +kernel
theorem dX8_needed_39 : decode cX8_needed 39 = .ok (.iload_n 3, 1) := by decide +kernel
theorem dX8_needed_40 : decode cX8_needed 40 = .ok (.invokestatic 227, 3) := by decide +kernel
theorem dX8_needed_43 : decode cX8_needed 43 = .ok (.istore_n 2, 1) := by decide +kernel
theorem dX8_needed_44 : decode cX8_needed 44 = .ok (.iinc 3 1, 3) := by decide +kernel
theorem dX8_needed_47 : decode cX8_needed 47 = .ok (.goto (-39), 3) := by decide +kernel
theorem dX8_needed_50 : decode cX8_needed 50 = .ok (.iload_n 1, 1) := by decide +kernel
theorem dX8_needed_51 : decode cX8_needed 51 = .ok (.ireturn, 1) := by decide +kernel
theorem dX8_neverStandsWithout_0 : decode cX8_neverStandsWithout 0 = .ok (.aload_n 0, 1) := by decide +kernel
theorem dX8_neverStandsWithout_1 : decode cX8_neverStandsWithout 1 = .ok (.getfield 33, 3) := by decide +kernel
theorem dX8_neverStandsWithout_4 : decode cX8_neverStandsWithout 4 = .ok (.iload_n 1, 1) := by decide +kernel
theorem dX8_neverStandsWithout_5 : decode cX8_neverStandsWithout 5 = .ok (.aload_n 0, 1) := by decide +kernel
theorem dX8_neverStandsWithout_6 : decode cX8_neverStandsWithout 6 = .ok (.getfield 23, 3) := by decide +kernel
theorem dX8_neverStandsWithout_9 : decode cX8_neverStandsWithout 9 = .ok (.getfield 292, 3) := by decide +kernel
theorem dX8_neverStandsWithout_12 : decode cX8_neverStandsWithout 12 = .ok (.aload_n 0, 1) := by decide +kernel
theorem dX8_neverStandsWithout_13 : decode cX8_neverStandsWithout 13 = .ok (.getfield 59, 3) := by decide +kernel
theorem dX8_neverStandsWithout_16 : decode cX8_neverStandsWithout 16 = .ok (.invokevirtual 305, 3) := by decide +kernel
theorem dX8_neverStandsWithout_19 : decode cX8_neverStandsWithout 19 = .ok (.aload_n 0, 1) := by decide +kernel
theorem dX8_neverStandsWithout_20 : decode cX8_neverStandsWithout 20 = .ok (.getfield 71, 3) := by decide +kernel
theorem dX8_neverStandsWithout_23 : decode cX8_neverStandsWithout 23 = .ok (.aload_n 0, 1) := by decide +kernel
theorem dX8_neverStandsWithout_24 : decode cX8_neverStandsWithout 24 = .ok (.getfield 23, 3) := by decide +kernel
theorem dX8_neverStandsWithout_27 : decode cX8_neverStandsWithout 27 = .ok (.invokevirtual 253, 3) := by decide +kernel
theorem dX8_neverStandsWithout_30 : decode cX8_neverStandsWithout 30 = .ok (.aload_n 0, 1) := by decide +kernel
theorem dX8_neverStandsWithout_31 : decode cX8_neverStandsWithout 31 = .ok (.getfield 71, 3) := by decide +kernel
theorem dX8_neverStandsWithout_34 : decode cX8_neverStandsWithout 34 = .ok (.aload_n 0, 1) := by decide +kernel
theorem dX8_neverStandsWithout_35 : decode cX8_neverStandsWithout 35 = .ok (.getfield 59, 3) := by decide +kernel
theorem dX8_neverStandsWithout_38 : decode cX8_neverStandsWithout 38 = .ok (.invokevirtual 256, 3) := by decide +kernel
theorem dX8_neverStandsWithout_41 : decode cX8_neverStandsWithout 41 = .ok (.aload_n 0, 1) := by decide +kernel
theorem dX8_neverStandsWithout_42 : decode cX8_neverStandsWithout 42 = .ok (.getfield 71, 3) := by decide +kernel
theorem dX8_neverStandsWithout_45 : decode cX8_neverStandsWithout 45 = .ok (.getfield 167, 3) := by decide +kernel
theorem dX8_neverStandsWithout_48 : decode cX8_neverStandsWithout 48 = .ok (.bipush (-4), 2) := by decide +kernel
theorem dX8_neverStandsWithout_50 : decode cX8_neverStandsWithout 50 = .ok (.if_icmp .ne 7, 3) := by decide +kernel
theorem dX8_neverStandsWithout_53 : decode cX8_neverStandsWithout 53 = .ok (.iconst 1, 1) := by decide +kernel
theorem dX8_neverStandsWithout_54 : decode cX8_neverStandsWithout 54 = .ok (.goto 4, 3) := by decide +kernel
theorem dX8_neverStandsWithout_57 : decode cX8_neverStandsWithout 57 = .ok (.iconst 0, 1) := by decide +kernel
theorem dX8_neverStandsWithout_58 : decode cX8_neverStandsWithout 58 = .ok (.ireturn, 1) := by decide +kernel
theorem dX8_odds_0 : decode cX8_odds 0 = .ok (.iload_n 1, 1) := by decide +kernel
theorem dX8_odds_1 : decode cX8_odds 1 = .ok (.iconst 0, 1) := by decide +kernel
theorem dX8_odds_2 : decode cX8_odds 2 = .ok (.iconst 5, 1) := by decide +kernel
theorem dX8_odds_3 : decode cX8_odds 3 = .ok (.invokestatic 121, 3) := by decide +kernel
theorem dX8_odds_6 : decode cX8_odds 6 = .ok (.ifCond .eq 22, 3) := by decide +kernel
theorem dX8_odds_9 : decode cX8_odds 9 = .ok (.iload_n 2, 1) := by decide +kernel
theorem dX8_odds_10 : decode cX8_odds 10 = .ok (.iconst 0, 1) := by decide +kernel
theorem dX8_odds_11 : decode cX8_odds 11 = .ok (.bipush 10, 2) := by decide +kernel
theorem dX8_odds_13 : decode cX8_odds 13 = .ok (.invokestatic 121, 3) := by decide +kernel
theorem dX8_odds_16 : decode cX8_odds 16 = .ok (.ifCond .eq 12, 3) := by decide +kernel
theorem dX8_odds_19 : decode cX8_odds 19 = .ok (.iload_n 3, 1) := by decide +kernel
theorem dX8_odds_20 : decode cX8_odds 20 = .ok (.iconst 0, 1) := by decide +kernel
theorem dX8_odds_21 : decode cX8_odds 21 = .ok (.iconst 1, 1) := by decide +kernel
theorem dX8_odds_22 : decode cX8_odds 22 = .ok (.invokestatic 121, 3) := by decide +kernel
theorem dX8_odds_25 : decode cX8_odds 25 = .ok (.ifCond .ne 5, 3) := by decide +kernel
theorem dX8_odds_28 : decode cX8_odds 28 = .ok (.iconst (-1), 1) := by decide +kernel
theorem dX8_odds_29 : decode cX8_odds 29 = .ok (.ireturn, 1) := by decide +kernel
theorem dX8_odds_30 : decode cX8_odds 30 = .ok (.iload_n 1, 1) := by decide +kernel
theorem dX8_odds_31 : decode cX8_odds 31 = .ok (.aload_n 0, 1) := by decide +kernel
theorem dX8_odds_32 : decode cX8_odds 32 = .ok (.getfield 33, 3) := by decide +kernel
theorem dX8_odds_35 : decode cX8_odds 35 = .ok (.getfield 203, 3) := by decide +kernel
theorem dX8_odds_38 : decode cX8_odds 38 = .ok (.invokestatic 105, 3) := by decide +kernel
theorem dX8_odds_41 : decode cX8_odds 41 = .ok (.istore 4, 2) := by decide +kernel
theorem dX8_odds_43 : decode cX8_odds 43 = .ok (.iconst 0, 1) := by decide +kernel
theorem dX8_odds_44 : decode cX8_odds 44 = .ok (.istore 5, 2) := by decide +kernel
theorem dX8_odds_46 : decode cX8_odds 46 = .ok (.bipush 10, 2) := by decide +kernel
theorem dX8_odds_48 : decode cX8_odds 48 = .ok (.iload 4, 2) := by decide +kernel
theorem dX8_odds_50 : decode cX8_odds 50 = .ok (.invokestatic 279, 3) := by decide +kernel
theorem dX8_odds_53 : decode cX8_odds 53 = .ok (.istore 6, 2) := by decide +kernel
theorem dX8_odds_55 : decode cX8_odds 55 = .ok (.iconst 0, 1) := by decide +kernel
theorem dX8_odds_56 : decode cX8_odds 56 = .ok (.istore 7, 2) := by decide +kernel
theorem dX8_odds_58 : decode cX8_odds 58 = .ok (.iload 7, 2) := by decide +kernel
theorem dX8_odds_60 : decode cX8_odds 60 = .ok (.iconst 1, 1) := by decide +kernel
theorem dX8_odds_61 : decode cX8_odds 61 = .ok (.iload 4, 2) := by decide +kernel
theorem dX8_odds_63 : decode cX8_odds 63 = .ok (.ishl, 1) := by decide +kernel
theorem dX8_odds_64 : decode cX8_odds 64 = .ok (.if_icmp .ge 58, 3) := by decide +kernel
theorem dX8_odds_67 : decode cX8_odds 67 = .ok (.iload 7, 2) := by decide +kernel
theorem dX8_odds_69 : decode cX8_odds 69 = .ok (.invokestatic 227, 3) := by decide +kernel
theorem dX8_odds_72 : decode cX8_odds 72 = .ok (.istore 8, 2) := by decide +kernel
theorem dX8_odds_74 : decode cX8_odds 74 = .ok (.iload_n 2, 1) := by decide +kernel
theorem dX8_odds_75 : decode cX8_odds 75 = .ok (.iload 8, 2) := by decide +kernel
theorem dX8_odds_77 : decode cX8_odds 77 = .ok (.invokestatic 279, 3) := by decide +kernel
theorem dX8_odds_80 : decode cX8_odds 80 = .ok (.bipush 10, 2) := by decide +kernel
theorem dX8_odds_82 : decode cX8_odds 82 = .ok (.iload_n 2, 1) := by decide +kernel
theorem dX8_odds_83 : decode cX8_odds 83 = .ok (.isub, 1) := by decide +kernel
theorem dX8_odds_84 : decode cX8_odds 84 = .ok (.iload 4, 2) := by decide +kernel
theorem dX8_odds_86 : decode cX8_odds 86 = .ok (.iload 8, 2) := by decide +kernel
theorem dX8_odds_88 : decode cX8_odds 88 = .ok (.isub, 1) := by decide +kernel
theorem dX8_odds_89 : decode cX8_odds 89 = .ok (.invokestatic 279, 3) := by decide +kernel
theorem dX8_odds_92 : decode cX8_odds 92 = .ok (.imul, 1) := by decide +kernel
theorem dX8_odds_93 : decode cX8_odds 93 = .ok (.istore 9, 2) := by decide +kernel
theorem dX8_odds_95 : decode cX8_odds 95 = .ok (.iload 9, 2) := by decide +kernel
theorem dX8_odds_97 : decode cX8_odds 97 = .ok (.ifCond .le 19, 3) := by decide +kernel
theorem dX8_odds_100 : decode cX8_odds 100 = .ok (.aload_n 0, 1) := by decide +kernel
theorem dX8_odds_101 : decode cX8_odds 101 = .ok (.iload 7, 2) := by decide +kernel
theorem dX8_odds_103 : decode cX8_odds 103 = .ok (.invokevirtual 282, 3) := by decide +kernel
theorem dX8_odds_106 : decode cX8_odds 106 = .ok (.ifCond .eq 10, 3) := by decide +kernel
theorem dX8_odds_109 : decode cX8_odds 109 = .ok (.iload 5, 2) := by decide +kernel
theorem dX8_odds_111 : decode cX8_odds 111 = .ok (.iload 9, 2) := by decide +kernel
theorem dX8_odds_113 : decode cX8_odds 113 = .ok (.iadd, 1) := by decide +kernel
theorem dX8_odds_114 : decode cX8_odds 114 = .ok (.istore 5, 2) := by decide +kernel
theorem dX8_odds_116 : decode cX8_odds 116 = .ok (.iinc 7 1, 3) := by decide +kernel
theorem dX8_odds_119 : decode cX8_odds 119 = .ok (.goto (-61), 3) := by decide +kernel
theorem dX8_odds_122 : decode cX8_odds 122 = .ok (.iload 5, 2) := by decide +kernel
theorem dX8_odds_124 : decode cX8_odds 124 = .ok (.iload 6, 2) := by decide +kernel
theorem dX8_odds_126 : decode cX8_odds 126 = .ok (.iload_n 3, 1) := by decide +kernel
theorem dX8_odds_127 : decode cX8_odds 127 = .ok (.invokestatic 173, 3) := by decide +kernel
theorem dX8_odds_130 : decode cX8_odds 130 = .ok (.ireturn, 1) := by decide +kernel
theorem dX8_power_0 : decode cX8_power 0 = .ok (.iconst 1, 1) := by decide +kernel
theorem dX8_power_1 : decode cX8_power 1 = .ok (.istore_n 2, 1) := by decide +kernel
theorem dX8_power_2 : decode cX8_power 2 = .ok (.iconst 0, 1) := by decide +kernel
theorem dX8_power_3 : decode cX8_power 3 = .ok (.istore_n 3, 1) := by decide +kernel
theorem dX8_power_4 : decode cX8_power 4 = .ok (.iload_n 3, 1) := by decide +kernel
theorem dX8_power_5 : decode cX8_power 5 = .ok (.iload_n 1, 1) := by decide +kernel
theorem dX8_power_6 : decode cX8_power 6 = .ok (.if_icmp .ge 13, 3) := by decide +kernel
theorem dX8_power_9 : decode cX8_power 9 = .ok (.iload_n 2, 1) := by decide +kernel
theorem dX8_power_10 : decode cX8_power 10 = .ok (.iload_n 0, 1) := by decide +kernel
theorem dX8_power_11 : decode cX8_power 11 = .ok (.imul, 1) := by decide +kernel
theorem dX8_power_12 : decode cX8_power 12 = .ok (.istore_n 2, 1) := by decide +kernel
theorem dX8_power_13 : decode cX8_power 13 = .ok (.iinc 3 1, 3) := by decide +kernel
theorem dX8_power_16 : decode cX8_power 16 = .ok (.goto (-12), 3) := by decide +kernel
theorem dX8_power_19 : decode cX8_power 19 = .ok (.iload_n 2, 1) := by decide +kernel
theorem dX8_power_20 : decode cX8_power 20 = .ok (.ireturn, 1) := by decide +kernel
theorem dX8_print_0 : decode cX8_print 0 = .ok (.aload_n 0, 1) := by decide +kernel
theorem dX8_print_1 : decode cX8_print 1 = .ok (.getfield 23, 3) := by decide +kernel
theorem dX8_print_4 : decode cX8_print 4 = .ok (.iload_n 1, 1) := by decide +kernel
theorem dX8_print_5 : decode cX8_print 5 = .ok (.invokevirtual 129, 3) := by decide +kernel
theorem dX8_print_8 : decode cX8_print 8 = .ok (.ifCond .eq 13, 3) := by decide +kernel
theorem dX8_print_11 : decode cX8_print 11 = .ok (.iload_n 2, 1) := by decide +kernel
theorem dX8_print_12 : decode cX8_print 12 = .ok (.iconst 0, 1) := by decide +kernel
theorem dX8_print_13 : decode cX8_print 13 = .ok (.bipush 6, 2) := by decide +kernel
theorem dX8_print_15 : decode cX8_print 15 = .ok (.invokestatic 121, 3) := by decide +kernel
theorem dX8_print_18 : decode cX8_print 18 = .ok (.ifCond .ne 5, 3) := by decide +kernel
theorem dX8_print_21 : decode cX8_print 21 = .ok (.iconst (-1), 1) := by decide +kernel
theorem dX8_print_22 : decode cX8_print 22 = .ok (.ireturn, 1) := by decide +kernel
theorem dX8_print_23 : decode cX8_print 23 = .ok (.aload_n 0, 1) := by decide +kernel
theorem dX8_print_24 : decode cX8_print 24 = .ok (.getfield 272, 3) := by decide +kernel
theorem dX8_print_27 : decode cX8_print 27 = .ok (.bipush 8, 2) := by decide +kernel
theorem dX8_print_29 : decode cX8_print 29 = .ok (.if_icmp .lt 6, 3) := by decide +kernel
theorem dX8_print_32 : decode cX8_print 32 = .ok (.bipush (-3), 2) := by decide +kernel
theorem dX8_print_34 : decode cX8_print 34 = .ok (.ireturn, 1) := by decide +kernel
theorem dX8_print_35 : decode cX8_print 35 = .ok (.aload_n 0, 1) := by decide +kernel
theorem dX8_print_36 : decode cX8_print 36 = .ok (.getfield 49, 3) := by decide +kernel
theorem dX8_print_39 : decode cX8_print 39 = .ok (.aload_n 0, 1) := by decide +kernel
theorem dX8_print_40 : decode cX8_print 40 = .ok (.getfield 272, 3) := by decide +kernel
theorem dX8_print_43 : decode cX8_print 43 = .ok (.iload_n 1, 1) := by decide +kernel
theorem dX8_print_44 : decode cX8_print 44 = .ok (.iastore, 1) := by decide +kernel
theorem dX8_print_45 : decode cX8_print 45 = .ok (.aload_n 0, 1) := by decide +kernel
theorem dX8_print_46 : decode cX8_print 46 = .ok (.getfield 53, 3) := by decide +kernel
theorem dX8_print_49 : decode cX8_print 49 = .ok (.aload_n 0, 1) := by decide +kernel
theorem dX8_print_50 : decode cX8_print 50 = .ok (.getfield 272, 3) := by decide +kernel
theorem dX8_print_53 : decode cX8_print 53 = .ok (.iload_n 2, 1) := by decide +kernel
theorem dX8_print_54 : decode cX8_print 54 = .ok (.iastore, 1) := by decide +kernel
theorem dX8_print_55 : decode cX8_print 55 = .ok (.aload_n 0, 1) := by decide +kernel
theorem dX8_print_56 : decode cX8_print 56 = .ok (.dup, 1) := by decide +kernel
theorem dX8_print_57 : decode cX8_print 57 = .ok (.getfield 272, 3) := by decide +kernel
theorem dX8_print_60 : decode cX8_print 60 = .ok (.iconst 1, 1) := by decide +kernel
theorem dX8_print_61 : decode cX8_print 61 = .ok (.iadd, 1) := by decide +kernel
theorem dX8_print_62 : decode cX8_print 62 = .ok (.putfield 272, 3) := by decide +kernel
theorem dX8_print_65 : decode cX8_print 65 = .ok (.aload_n 0, 1) := by decide +kernel
theorem dX8_print_66 : decode cX8_print 66 = .ok (.getfield 272, 3) := by decide +kernel
theorem dX8_print_69 : decode cX8_print 69 = .ok (.ireturn, 1) := by decide +kernel
theorem dX8_printsAreSo_0 : decode cX8_printsAreSo 0 = .ok (.iconst 0, 1) := by decide +kernel
theorem dX8_printsAreSo_1 : decode cX8_printsAreSo 1 = .ok (.istore_n 2, 1) := by decide +kernel
theorem dX8_printsAreSo_2 : decode cX8_printsAreSo 2 = .ok (.iload_n 2, 1) := by decide +kernel
theorem dX8_printsAreSo_3 : decode cX8_printsAreSo 3 = .ok (.aload_n 0, 1) := by decide +kernel
theorem dX8_printsAreSo_4 : decode cX8_printsAreSo 4 = .ok (.getfield 272, 3) := by decide +kernel
theorem dX8_printsAreSo_7 : decode cX8_printsAreSo 7 = .ok (.if_icmp .ge 34, 3) := by decide +kernel
theorem dX8_printsAreSo_10 : decode cX8_printsAreSo 10 = .ok (.aload_n 1, 1) := by decide +kernel
theorem dX8_printsAreSo_11 : decode cX8_printsAreSo 11 = .ok (.getfield 143, 3) := by decide +kernel
theorem dX8_printsAreSo_14 : decode cX8_printsAreSo 14 = .ok (.aload_n 0, 1) := by decide +kernel
theorem dX8_printsAreSo_15 : decode cX8_printsAreSo 15 = .ok (.getfield 49, 3) := by decide +kernel
theorem dX8_printsAreSo_18 : decode cX8_printsAreSo 18 = .ok (.iload_n 2, 1) := by decide +kernel
theorem dX8_printsAreSo_19 : decode cX8_printsAreSo 19 = .ok (.iaload, 1) := by decide +kernel
theorem dX8_printsAreSo_20 : decode cX8_printsAreSo 20 = .ok (.iaload, 1) := by decide +kernel
theorem dX8_printsAreSo_21 : decode cX8_printsAreSo 21 = .ok (.invokestatic 227, 3) := by decide +kernel
theorem dX8_printsAreSo_24 : decode cX8_printsAreSo 24 = .ok (.aload_n 0, 1) := by decide +kernel
theorem dX8_printsAreSo_25 : decode cX8_printsAreSo 25 = .ok (.getfield 53, 3) := by decide +kernel
theorem dX8_printsAreSo_28 : decode cX8_printsAreSo 28 = .ok (.iload_n 2, 1) := by decide +kernel
theorem dX8_printsAreSo_29 : decode cX8_printsAreSo 29 = .ok (.iaload, 1) := by decide +kernel
theorem dX8_printsAreSo_30 : decode cX8_printsAreSo 30 = .ok (.if_icmp .eq 5, 3) := by decide +kernel
theorem dX8_printsAreSo_33 : decode cX8_printsAreSo 33 = .ok (.iconst 0, 1) := by decide +kernel
theorem dX8_printsAreSo_34 : decode cX8_printsAreSo 34 = .ok (.ireturn, 1) := by decide +kernel
theorem dX8_printsAreSo_35 : decode cX8_printsAreSo 35 = .ok (.iinc 2 1, 3) := by decide +kernel
theorem dX8_printsAreSo_38 : decode cX8_printsAreSo 38 = .ok (.goto (-36), 3) := by decide +kernel
theorem dX8_printsAreSo_41 : decode cX8_printsAreSo 41 = .ok (.iconst 1, 1) := by decide +kernel
theorem dX8_printsAreSo_42 : decode cX8_printsAreSo 42 = .ok (.ireturn, 1) := by decide +kernel
theorem dX8_rain_0 : decode cX8_rain 0 = .ok (.iload_n 1, 1) := by decide +kernel
theorem dX8_rain_1 : decode cX8_rain 1 = .ok (.iconst 0, 1) := by decide +kernel
theorem dX8_rain_2 : decode cX8_rain 2 = .ok (.sipush 9999, 3) := by decide +kernel
theorem dX8_rain_5 : decode cX8_rain 5 = .ok (.invokestatic 121, 3) := by decide +kernel
theorem dX8_rain_8 : decode cX8_rain 8 = .ok (.ifCond .eq 12, 3) := by decide +kernel
theorem dX8_rain_11 : decode cX8_rain 11 = .ok (.iload_n 2, 1) := by decide +kernel
theorem dX8_rain_12 : decode cX8_rain 12 = .ok (.iconst 0, 1) := by decide +kernel
theorem dX8_rain_13 : decode cX8_rain 13 = .ok (.iconst 1, 1) := by decide +kernel
theorem dX8_rain_14 : decode cX8_rain 14 = .ok (.invokestatic 121, 3) := by decide +kernel
theorem dX8_rain_17 : decode cX8_rain 17 = .ok (.ifCond .ne 5, 3) := by decide +kernel
theorem dX8_rain_20 : decode cX8_rain 20 = .ok (.iconst (-1), 1) := by decide +kernel
theorem dX8_rain_21 : decode cX8_rain 21 = .ok (.ireturn, 1) := by decide +kernel
theorem dX8_rain_22 : decode cX8_rain 22 = .ok (.aload_n 0, 1) := by decide +kernel
theorem dX8_rain_23 : decode cX8_rain 23 = .ok (.getfield 71, 3) := by decide +kernel
theorem dX8_rain_26 : decode cX8_rain 26 = .ok (.aload_n 0, 1) := by decide +kernel
theorem dX8_rain_27 : decode cX8_rain 27 = .ok (.getfield 23, 3) := by decide +kernel
theorem dX8_rain_30 : decode cX8_rain 30 = .ok (.invokevirtual 253, 3) := by decide +kernel
theorem dX8_rain_33 : decode cX8_rain 33 = .ok (.aload_n 0, 1) := by decide +kernel
theorem dX8_rain_34 : decode cX8_rain 34 = .ok (.getfield 71, 3) := by decide +kernel
theorem dX8_rain_37 : decode cX8_rain 37 = .ok (.iload_n 1, 1) := by decide +kernel
theorem dX8_rain_38 : decode cX8_rain 38 = .ok (.putfield 285, 3) := by decide +kernel
theorem dX8_rain_41 : decode cX8_rain 41 = .ok (.aload_n 0, 1) := by decide +kernel
theorem dX8_rain_42 : decode cX8_rain 42 = .ok (.getfield 71, 3) := by decide +kernel
theorem dX8_rain_45 : decode cX8_rain 45 = .ok (.aload_n 0, 1) := by decide +kernel
theorem dX8_rain_46 : decode cX8_rain 46 = .ok (.getfield 56, 3) := by decide +kernel
theorem dX8_rain_49 : decode cX8_rain 49 = .ok (.invokevirtual 256, 3) := by decide +kernel
theorem dX8_rain_52 : decode cX8_rain 52 = .ok (.iload_n 2, 1) := by decide +kernel
theorem dX8_rain_53 : decode cX8_rain 53 = .ok (.ifCond .ne 13, 3) := by decide +kernel
theorem dX8_rain_56 : decode cX8_rain 56 = .ok (.aload_n 0, 1) := by decide +kernel
theorem dX8_rain_57 : decode cX8_rain 57 = .ok (.getfield 71, 3) := by decide +kernel
theorem dX8_rain_60 : decode cX8_rain 60 = .ok (.getfield 167, 3) := by decide +kernel
theorem dX8_rain_63 : decode cX8_rain 63 = .ok (.goto 11, 3) := by decide +kernel
theorem dX8_rain_66 : decode cX8_rain 66 = .ok (.aload_n 0, 1) := by decide +kernel
theorem dX8_rain_67 : decode cX8_rain 67 = .ok (.getfield 71, 3) := by decide +kernel
theorem dX8_rain_70 : decode cX8_rain 70 = .ok (.iconst 0, 1) := by decide +kernel
theorem dX8_rain_71 : decode cX8_rain 71 = .ok (.invokevirtual 260, 3) := by decide +kernel
theorem dX8_rain_74 : decode cX8_rain 74 = .ok (.ireturn, 1) := by decide +kernel
theorem dX8_rests_0 : decode cX8_rests 0 = .ok (.aload_n 0, 1) := by decide +kernel
theorem dX8_rests_1 : decode cX8_rests 1 = .ok (.getfield 23, 3) := by decide +kernel
theorem dX8_rests_4 : decode cX8_rests 4 = .ok (.iload_n 1, 1) := by decide +kernel
theorem dX8_rests_5 : decode cX8_rests 5 = .ok (.invokevirtual 146, 3) := by decide +kernel
theorem dX8_rests_8 : decode cX8_rests 8 = .ok (.ifCond .eq 28, 3) := by decide +kernel
theorem dX8_rests_11 : decode cX8_rests 11 = .ok (.aload_n 0, 1) := by decide +kernel
theorem dX8_rests_12 : decode cX8_rests 12 = .ok (.getfield 23, 3) := by decide +kernel
theorem dX8_rests_15 : decode cX8_rests 15 = .ok (.iload_n 2, 1) := by decide +kernel
theorem dX8_rests_16 : decode cX8_rests 16 = .ok (.invokevirtual 146, 3) := by decide +kernel
theorem dX8_rests_19 : decode cX8_rests 19 = .ok (.ifCond .eq 17, 3) := by decide +kernel
theorem dX8_rests_22 : decode cX8_rests 22 = .ok (.iload_n 1, 1) := by decide +kernel
theorem dX8_rests_23 : decode cX8_rests 23 = .ok (.iload_n 2, 1) := by decide +kernel
theorem dX8_rests_24 : decode cX8_rests 24 = .ok (.if_icmp .eq 12, 3) := by decide +kernel
theorem dX8_rests_27 : decode cX8_rests 27 = .ok (.iload_n 3, 1) := by decide +kernel
theorem dX8_rests_28 : decode cX8_rests 28 = .ok (.iconst 0, 1) := by decide +kernel
theorem dX8_rests_29 : decode cX8_rests 29 = .ok (.iconst 1, 1) := by decide +kernel
theorem dX8_rests_30 : decode cX8_rests 30 = .ok (.invokestatic 121, 3) := by decide +kernel
theorem dX8_rests_33 : decode cX8_rests 33 = .ok (.ifCond .ne 5, 3) := by decide +kernel
theorem dX8_rests_36 : decode cX8_rests 36 = .ok (.iconst (-1), 1) := by decide +kernel
theorem dX8_rests_37 : decode cX8_rests 37 = .ok (.ireturn, 1) := by decide +kernel
theorem dX8_rests_38 : decode cX8_rests 38 = .ok (.aload_n 0, 1) := by decide +kernel
theorem dX8_rests_39 : decode cX8_rests 39 = .ok (.getfield 93, 3) := by decide +kernel
theorem dX8_rests_42 : decode cX8_rests 42 = .ok (.iload_n 1, 1) := by decide +kernel
theorem dX8_rests_43 : decode cX8_rests 43 = .ok (.iload_n 2, 1) := by decide +kernel
theorem dX8_rests_44 : decode cX8_rests 44 = .ok (.invokevirtual 263, 3) := by decide +kernel
theorem dX8_rests_47 : decode cX8_rests 47 = .ok (.iload_n 3, 1) := by decide +kernel
theorem dX8_rests_48 : decode cX8_rests 48 = .ok (.ifCond .ne 13, 3) := by decide +kernel
theorem dX8_rests_51 : decode cX8_rests 51 = .ok (.aload_n 0, 1) := by decide +kernel
theorem dX8_rests_52 : decode cX8_rests 52 = .ok (.getfield 93, 3) := by decide +kernel
theorem dX8_rests_55 : decode cX8_rests 55 = .ok (.getfield 266, 3) := by decide +kernel
theorem dX8_rests_58 : decode cX8_rests 58 = .ok (.goto 10, 3) := by decide +kernel
theorem dX8_rests_61 : decode cX8_rests 61 = .ok (.aload_n 0, 1) := by decide +kernel
theorem dX8_rests_62 : decode cX8_rests 62 = .ok (.getfield 93, 3) := by decide +kernel
theorem dX8_rests_65 : decode cX8_rests 65 = .ok (.getfield 269, 3) := by decide +kernel
theorem dX8_rests_68 : decode cX8_rests 68 = .ok (.ireturn, 1) := by decide +kernel
