theorem dX9_layFarthest_0 : decode cX9_layFarthest 0 = .ok (.iconst (-1), 1) := by decide +kernel
theorem dX9_layFarthest_1 : decode cX9_layFarthest 1 = .ok (.istore_n 3, 1) := by decide +kernel
theorem dX9_layFarthest_2 : decode cX9_layFarthest 2 = .ok (.iconst 1, 1) := by decide +kernel
theorem dX9_layFarthest_3 : decode cX9_layFarthest 3 = .ok (.istore 4, 2) := by decide +kernel
theorem dX9_layFarthest_5 : decode cX9_layFarthest 5 = .ok (.iconst 0, 1) := by decide +kernel
theorem dX9_layFarthest_6 : decode cX9_layFarthest 6 = .ok (.istore 5, 2) := by decide +kernel
theorem dX9_layFarthest_8 : decode cX9_layFarthest 8 = .ok (.iload 5, 2) := by decide +kernel
theorem dX9_layFarthest_10 : decode cX9_layFarthest 10 = .ok (.aload_n 0, 1) := by decide +kernel
theorem dX9_layFarthest_11 : decode cX9_layFarthest 11 = .ok (.getfield 7, 3) := by decide +kernel
theorem dX9_layFarthest_14 : decode cX9_layFarthest 14 = .ok (.iconst 1, 1) := by decide +kernel
theorem dX9_layFarthest_15 : decode cX9_layFarthest 15 = .ok (.iaload, 1) := by decide +kernel
theorem dX9_layFarthest_16 : decode cX9_layFarthest 16 = .ok (.if_icmp .ge 16, 3) := by decide +kernel
theorem dX9_layFarthest_19 : decode cX9_layFarthest 19 = .ok (.iload 4, 2) := by decide +kernel
theorem dX9_layFarthest_21 : decode cX9_layFarthest 21 = .ok (.bipush 6, 2) := by decide +kernel
theorem dX9_layFarthest_23 : decode cX9_layFarthest 23 = .ok (.imul, 1) := by decide +kernel
theorem dX9_layFarthest_24 : decode cX9_layFarthest 24 = .ok (.istore 4, 2) := by decide +kernel
theorem dX9_layFarthest_26 : decode cX9_layFarthest 26 = .ok (.iinc 5 1, 3) := by decide +kernel
theorem dX9_layFarthest_29 : decode cX9_layFarthest 29 = .ok (.goto (-21), 3) := by decide +kernel
theorem dX9_layFarthest_32 : decode cX9_layFarthest 32 = .ok (.iconst 0, 1) := by decide +kernel
theorem dX9_layFarthest_33 : decode cX9_layFarthest 33 = .ok (.istore 5, 2) := by decide +kernel
theorem dX9_layFarthest_35 : decode cX9_layFarthest 35 = .ok (.iload 5, 2) := by decide +kernel
theorem dX9_layFarthest_37 : decode cX9_layFarthest 37 = .ok (.iload 4, 2) := by decide +kernel
theorem dX9_layFarthest_39 : decode cX9_layFarthest 39 = .ok (.if_icmp .ge 79, 3) := by decide +kernel
theorem dX9_layFarthest_42 : decode cX9_layFarthest 42 = .ok (.aload_n 0, 1) := by decide +kernel
theorem dX9_layFarthest_43 : decode cX9_layFarthest 43 = .ok (.iload 5, 2) := by decide +kernel
theorem dX9_layFarthest_45 : decode cX9_layFarthest 45 = .ok (.invokevirtual 248, 3) := by decide +kernel
theorem dX9_layFarthest_48 : decode cX9_layFarthest 48 = .ok (.ifCond .eq 12, 3) := by decide +kernel
theorem dX9_layFarthest_51 : decode cX9_layFarthest 51 = .ok (.aload_n 0, 1) := by decide +kernel
theorem dX9_layFarthest_52 : decode cX9_layFarthest 52 = .ok (.iload_n 1, 1) := by decide +kernel
theorem dX9_layFarthest_53 : decode cX9_layFarthest 53 = .ok (.iload_n 2, 1) := by decide +kernel
theorem dX9_layFarthest_54 : decode cX9_layFarthest 54 = .ok (.invokevirtual 251, 3) := by decide +kernel
theorem dX9_layFarthest_57 : decode cX9_layFarthest 57 = .ok (.goto 4, 3) := by decide +kernel
theorem dX9_layFarthest_60 : decode cX9_layFarthest 60 = .ok (.iconst (-1), 1) := by decide +kernel
theorem dX9_layFarthest_61 : decode cX9_layFarthest 61 = .ok (.istore 6, 2) := by decide +kernel
theorem dX9_layFarthest_63 : decode cX9_layFarthest 63 = .ok (.iconst 0, 1) := by decide +kernel
theorem dX9_layFarthest_64 : decode cX9_layFarthest 64 = .ok (.istore 7, 2) := by decide +kernel
theorem dX9_layFarthest_66 : decode cX9_layFarthest 66 = .ok (.iload 7, 2) := by decide +kernel
theorem dX9_layFarthest_68 : decode cX9_layFarthest 68 = .ok (.bipush 6, 2) := by decide +kernel
theorem dX9_layFarthest_70 : decode cX9_layFarthest 70 = .ok (.if_icmp .ge 29, 3) := by decide +kernel
theorem dX9_layFarthest_73 : decode cX9_layFarthest 73 = .ok (.iload 6, 2) := by decide +kernel
theorem dX9_layFarthest_75 : decode cX9_layFarthest 75 = .ok (.iload_n 3, 1) := by decide +kernel
theorem dX9_layFarthest_76 : decode cX9_layFarthest 76 = .ok (.if_icmp .le 23, 3) := by decide +kernel
theorem dX9_layFarthest_79 : decode cX9_layFarthest 79 = .ok (.aload_n 0, 1) := by decide +kernel
theorem dX9_layFarthest_80 : decode cX9_layFarthest 80 = .ok (.getfield 61, 3) := by decide +kernel
theorem dX9_layFarthest_83 : decode cX9_layFarthest 83 = .ok (.iload 7, 2) := by decide +kernel
theorem dX9_layFarthest_85 : decode cX9_layFarthest 85 = .ok (.aload_n 0, 1) := by decide +kernel
theorem dX9_layFarthest_86 : decode cX9_layFarthest 86 = .ok (.getfield 58, 3) := by decide +kernel
theorem dX9_layFarthest_89 : decode cX9_layFarthest 89 = .ok (.iload 7, 2) := by decide +kernel
theorem dX9_layFarthest_91 : decode cX9_layFarthest 91 = .ok (.iaload, 1) := by decide +kernel
theorem dX9_layFarthest_92 : decode cX9_layFarthest 92 = .ok (.iastore, 1) := by decide +kernel
theorem dX9_layFarthest_93 : decode cX9_layFarthest 93 = .ok (.iinc 7 1, 3) := by decide +kernel
theorem dX9_layFarthest_96 : decode cX9_layFarthest 96 = .ok (.goto (-30), 3) := by decide +kernel
theorem dX9_layFarthest_99 : decode cX9_layFarthest 99 = .ok (.iload 6, 2) := by decide +kernel
theorem dX9_layFarthest_101 : decode cX9_layFarthest 101 = .ok (.iload_n 3, 1) := by decide +kernel
theorem dX9_layFarthest_102 : decode cX9_layFarthest 102 = .ok (.if_icmp .le 8, 3) := by decide +kernel
theorem dX9_layFarthest_105 : decode cX9_layFarthest 105 = .ok (.iload 6, 2) := by decide +kernel
theorem dX9_layFarthest_107 : decode cX9_layFarthest 107 = .ok (.goto 4, 3) := by decide +kernel
theorem dX9_layFarthest_110 : decode cX9_layFarthest 110 = .ok (.iload_n 3, 1) := by decide +kernel
theorem dX9_layFarthest_111 : decode cX9_layFarthest 111 = .ok (.istore_n 3, 1) := by decide +kernel
theorem dX9_layFarthest_112 : decode cX9_layFarthest 112 = .ok (.iinc 5 1, 3) := by decide +kernel
theorem dX9_layFarthest_115 : decode cX9_layFarthest 115 = .ok (.goto (-80), 3) := by decide +kernel
theorem dX9_layFarthest_118 : decode cX9_layFarthest 118 = .ok (.iload_n 3, 1) := by decide +kernel
theorem dX9_layFarthest_119 : decode cX9_layFarthest 119 = .ok (.ireturn, 1) := by decide +kernel
theorem dX9_layOrder_0 : decode cX9_layOrder 0 = .ok (.aload_n 0, 1) := by decide +kernel
theorem dX9_layOrder_1 : decode cX9_layOrder 1 = .ok (.getfield 7, 3) := by decide +kernel
theorem dX9_layOrder_4 : decode cX9_layOrder 4 = .ok (.iconst 1, 1) := by decide +kernel
theorem dX9_layOrder_5 : decode cX9_layOrder 5 = .ok (.iaload, 1) := by decide +kernel
theorem dX9_layOrder_6 : decode cX9_layOrder 6 = .ok (.istore_n 2, 1) := by decide +kernel
theorem dX9_layOrder_7 : decode cX9_layOrder 7 = .ok (.iload_n 1, 1) := by decide +kernel
theorem dX9_layOrder_8 : decode cX9_layOrder 8 = .ok (.istore_n 3, 1) := by decide +kernel
theorem dX9_layOrder_9 : decode cX9_layOrder 9 = .ok (.iconst 0, 1) := by decide +kernel
theorem dX9_layOrder_10 : decode cX9_layOrder 10 = .ok (.istore 4, 2) := by decide +kernel
theorem dX9_layOrder_12 : decode cX9_layOrder 12 = .ok (.iload_n 2, 1) := by decide +kernel
theorem dX9_layOrder_13 : decode cX9_layOrder 13 = .ok (.iconst 1, 1) := by decide +kernel
theorem dX9_layOrder_14 : decode cX9_layOrder 14 = .ok (.isub, 1) := by decide +kernel
theorem dX9_layOrder_15 : decode cX9_layOrder 15 = .ok (.istore 5, 2) := by decide +kernel
theorem dX9_layOrder_17 : decode cX9_layOrder 17 = .ok (.iload 5, 2) := by decide +kernel
theorem dX9_layOrder_19 : decode cX9_layOrder 19 = .ok (.ifCond .lt 39, 3) := by decide +kernel
theorem dX9_layOrder_22 : decode cX9_layOrder 22 = .ok (.aload_n 0, 1) := by decide +kernel
theorem dX9_layOrder_23 : decode cX9_layOrder 23 = .ok (.getfield 58, 3) := by decide +kernel
theorem dX9_layOrder_26 : decode cX9_layOrder 26 = .ok (.iload 5, 2) := by decide +kernel
theorem dX9_layOrder_28 : decode cX9_layOrder 28 = .ok (.iload_n 3, 1) := by decide +kernel
theorem dX9_layOrder_29 : decode cX9_layOrder 29 = .ok (.bipush 6, 2) := by decide +kernel
theorem dX9_layOrder_31 : decode cX9_layOrder 31 = .ok (.irem, 1) := by decide +kernel
theorem dX9_layOrder_32 : decode cX9_layOrder 32 = .ok (.iastore, 1) := by decide +kernel
theorem dX9_layOrder_33 : decode cX9_layOrder 33 = .ok (.iload_n 3, 1) := by decide +kernel
theorem dX9_layOrder_34 : decode cX9_layOrder 34 = .ok (.bipush 6, 2) := by decide +kernel
theorem dX9_layOrder_36 : decode cX9_layOrder 36 = .ok (.idiv, 1) := by decide +kernel
theorem dX9_layOrder_37 : decode cX9_layOrder 37 = .ok (.istore_n 3, 1) := by decide +kernel
theorem dX9_layOrder_38 : decode cX9_layOrder 38 = .ok (.iload 4, 2) := by decide +kernel
theorem dX9_layOrder_40 : decode cX9_layOrder 40 = .ok (.iconst 1, 1) := by decide +kernel
theorem dX9_layOrder_41 : decode cX9_layOrder 41 = .ok (.aload_n 0, 1) := by decide +kernel
theorem dX9_layOrder_42 : decode cX9_layOrder 42 = .ok (.getfield 58, 3) := by decide +kernel
theorem dX9_layOrder_45 : decode cX9_layOrder 45 = .ok (.iload 5, 2) := by decide +kernel
theorem dX9_layOrder_47 : decode cX9_layOrder 47 = .ok (.iaload, 1) := by decide +kernel
theorem dX9_layOrder_48 : decode cX9_layOrder 48 = .ok (.ishl, 1) := by decide +kernel
theorem dX9_layOrder_49 : decode cX9_layOrder 49 = .ok (.ior, 1) := by decide +kernel
theorem dX9_layOrder_50 : decode cX9_layOrder 50 = .ok (.istore 4, 2) := by decide +kernel
theorem dX9_layOrder_52 : decode cX9_layOrder 52 = .ok (.iinc 5 (-1), 3) := by decide +kernel
theorem dX9_layOrder_55 : decode cX9_layOrder 55 = .ok (.goto (-38), 3) := by decide +kernel
theorem dX9_layOrder_58 : decode cX9_layOrder 58 = .ok (.iload 4, 2) := by decide +kernel
theorem dX9_layOrder_60 : decode cX9_layOrder 60 = .ok (.iconst 1, 1) := by decide +kernel
theorem dX9_layOrder_61 : decode cX9_layOrder 61 = .ok (.iload_n 2, 1) := by decide +kernel
theorem dX9_layOrder_62 : decode cX9_layOrder 62 = .ok (.ishl, 1) := by decide +kernel
theorem dX9_layOrder_63 : decode cX9_layOrder 63 = .ok (.iconst 1, 1) := by decide +kernel
theorem dX9_layOrder_64 : decode cX9_layOrder 64 = .ok (.isub, 1) := by decide +kernel
theorem dX9_layOrder_65 : decode cX9_layOrder 65 = .ok (.if_icmp .ne 7, 3) := by decide +kernel
theorem dX9_layOrder_68 : decode cX9_layOrder 68 = .ok (.iconst 1, 1) := by decide +kernel
theorem dX9_layOrder_69 : decode cX9_layOrder 69 = .ok (.goto 4, 3) := by decide +kernel
theorem dX9_layOrder_72 : decode cX9_layOrder 72 = .ok (.iconst 0, 1) := by decide +kernel
theorem dX9_layOrder_73 : decode cX9_layOrder 73 = .ok (.ireturn, 1) := by decide +kernel
theorem dX9_leave_0 : decode cX9_leave 0 = .ok (.aload_n 0, 1) := by decide +kernel
theorem dX9_leave_1 : decode cX9_leave 1 = .ok (.iload_n 1, 1) := by decide +kernel
theorem dX9_leave_2 : decode cX9_leave 2 = .ok (.invokevirtual 232, 3) := by decide +kernel
theorem dX9_leave_5 : decode cX9_leave 5 = .ok (.ifCond .ne 5, 3) := by decide +kernel
theorem dX9_leave_8 : decode cX9_leave 8 = .ok (.iconst (-1), 1) := by decide +kernel
theorem dX9_leave_9 : decode cX9_leave 9 = .ok (.ireturn, 1) := by decide +kernel
theorem dX9_leave_10 : decode cX9_leave 10 = .ok (.aload_n 0, 1) := by decide +kernel
theorem dX9_leave_11 : decode cX9_leave 11 = .ok (.invokevirtual 241, 3) := by decide +kernel
theorem dX9_leave_14 : decode cX9_leave 14 = .ok (.iload_n 1, 1) := by decide +kernel
theorem dX9_leave_15 : decode cX9_leave 15 = .ok (.istore_n 2, 1) := by decide +kernel
theorem dX9_leave_16 : decode cX9_leave 16 = .ok (.iload_n 2, 1) := by decide +kernel
theorem dX9_leave_17 : decode cX9_leave 17 = .ok (.aload_n 0, 1) := by decide +kernel
theorem dX9_leave_18 : decode cX9_leave 18 = .ok (.getfield 16, 3) := by decide +kernel
theorem dX9_leave_21 : decode cX9_leave 21 = .ok (.iconst 0, 1) := by decide +kernel
theorem dX9_leave_22 : decode cX9_leave 22 = .ok (.iaload, 1) := by decide +kernel
theorem dX9_leave_23 : decode cX9_leave 23 = .ok (.iconst 1, 1) := by decide +kernel
theorem dX9_leave_24 : decode cX9_leave 24 = .ok (.isub, 1) := by decide +kernel
theorem dX9_leave_25 : decode cX9_leave 25 = .ok (.if_icmp .ge 50, 3) := by decide +kernel
theorem dX9_leave_28 : decode cX9_leave 28 = .ok (.iconst 0, 1) := by decide +kernel
theorem dX9_leave_29 : decode cX9_leave 29 = .ok (.istore_n 3, 1) := by decide +kernel
theorem dX9_leave_30 : decode cX9_leave 30 = .ok (.iload_n 3, 1) := by decide +kernel
theorem dX9_leave_31 : decode cX9_leave 31 = .ok (.iconst 3, 1) := by decide +kernel
theorem dX9_leave_32 : decode cX9_leave 32 = .ok (.if_icmp .ge 37, 3) := by decide +kernel
theorem dX9_leave_35 : decode cX9_leave 35 = .ok (.aload_n 0, 1) := by decide +kernel
theorem dX9_leave_36 : decode cX9_leave 36 = .ok (.getfield 16, 3) := by decide +kernel
theorem dX9_leave_39 : decode cX9_leave 39 = .ok (.iconst 1, 1) := by decide +kernel
theorem dX9_leave_40 : decode cX9_leave 40 = .ok (.bipush 10, 2) := by decide +kernel
theorem dX9_leave_42 : decode cX9_leave 42 = .ok (.iload_n 3, 1) := by decide +kernel
theorem dX9_leave_43 : decode cX9_leave 43 = .ok (.imul, 1) := by decide +kernel
theorem dX9_leave_44 : decode cX9_leave 44 = .ok (.iadd, 1) := by decide +kernel
theorem dX9_leave_45 : decode cX9_leave 45 = .ok (.iload_n 2, 1) := by decide +kernel
theorem dX9_leave_46 : decode cX9_leave 46 = .ok (.iadd, 1) := by decide +kernel
theorem dX9_leave_47 : decode cX9_leave 47 = .ok (.aload_n 0, 1) := by decide +kernel
theorem dX9_leave_48 : decode cX9_leave 48 = .ok (.getfield 16, 3) := by decide +kernel
theorem dX9_leave_51 : decode cX9_leave 51 = .ok (.iconst 1, 1) := by decide +kernel
theorem dX9_leave_52 : decode cX9_leave 52 = .ok (.bipush 10, 2) := by decide +kernel
theorem dX9_leave_54 : decode cX9_leave 54 = .ok (.iload_n 3, 1) := by decide +kernel
theorem dX9_leave_55 : decode cX9_leave 55 = .ok (.imul, 1) := by decide +kernel
theorem dX9_leave_56 : decode cX9_leave 56 = .ok (.iadd, 1) := by decide +kernel
theorem dX9_leave_57 : decode cX9_leave 57 = .ok (.iload_n 2, 1) := by decide +kernel
theorem dX9_leave_58 : decode cX9_leave 58 = .ok (.iadd, 1) := by decide +kernel
theorem dX9_leave_59 : decode cX9_leave 59 = .ok (.iconst 1, 1) := by decide +kernel
theorem dX9_leave_60 : decode cX9_leave 60 = .ok (.iadd, 1) := by decide +kernel
theorem dX9_leave_61 : decode cX9_leave 61 = .ok (.iaload, 1) := by decide +kernel
theorem dX9_leave_62 : decode cX9_leave 62 = .ok (.iastore, 1) := by decide +kernel
theorem dX9_leave_63 : decode cX9_leave 63 = .ok (.iinc 3 1, 3) := by decide +kernel
theorem dX9_leave_66 : decode cX9_leave 66 = .ok (.goto (-36), 3) := by decide +kernel
theorem dX9_leave_69 : decode cX9_leave 69 = .ok (.iinc 2 1, 3) := by decide +kernel
theorem dX9_leave_72 : decode cX9_leave 72 = .ok (.goto (-56), 3) := by decide +kernel
theorem dX9_leave_75 : decode cX9_leave 75 = .ok (.aload_n 0, 1) := by decide +kernel
theorem dX9_leave_76 : decode cX9_leave 76 = .ok (.getfield 16, 3) := by decide +kernel
theorem dX9_leave_79 : decode cX9_leave 79 = .ok (.iconst 0, 1) := by decide +kernel
theorem dX9_leave_80 : decode cX9_leave 80 = .ok (.dup2, 1) := by decide +kernel
theorem dX9_leave_81 : decode cX9_leave 81 = .ok (.iaload, 1) := by decide +kernel
theorem dX9_leave_82 : decode cX9_leave 82 = .ok (.iconst 1, 1) := by decide +kernel
theorem dX9_leave_83 : decode cX9_leave 83 = .ok (.isub, 1) := by decide +kernel
theorem dX9_leave_84 : decode cX9_leave 84 = .ok (.iastore, 1) := by decide +kernel
theorem dX9_leave_85 : decode cX9_leave 85 = .ok (.aload_n 0, 1) := by decide +kernel
theorem dX9_leave_86 : decode cX9_leave 86 = .ok (.getfield 16, 3) := by decide +kernel
theorem dX9_leave_89 : decode cX9_leave 89 = .ok (.iconst 0, 1) := by decide +kernel
theorem dX9_leave_90 : decode cX9_leave 90 = .ok (.iaload, 1) := by decide +kernel
theorem dX9_leave_91 : decode cX9_leave 91 = .ok (.ireturn, 1) := by decide +kernel
theorem dX9_needed_0 : decode cX9_needed 0 = .ok (.bipush (-4), 2) := by decide +kernel
theorem dX9_needed_2 : decode cX9_needed 2 = .ok (.istore_n 1, 1) := by decide +kernel
theorem dX9_needed_3 : decode cX9_needed 3 = .ok (.iconst 0, 1) := by decide +kernel
theorem dX9_needed_4 : decode cX9_needed 4 = .ok (.istore_n 2, 1) := by decide +kernel
theorem dX9_needed_5 : decode cX9_needed 5 = .ok (.iload_n 2, 1) := by decide +kernel
theorem dX9_needed_6 : decode cX9_needed 6 = .ok (.iconst 1, 1) := by decide +kernel
theorem dX9_needed_7 : decode cX9_needed 7 = .ok (.aload_n 0, 1) := by decide +kernel
theorem dX9_needed_8 : decode cX9_needed 8 = .ok (.getfield 7, 3) := by decide +kernel
theorem dX9_needed_11 : decode cX9_needed 11 = .ok (.iconst 1, 1) := by decide +kernel
theorem dX9_needed_12 : decode cX9_needed 12 = .ok (.iaload, 1) := by decide +kernel
theorem dX9_needed_13 : decode cX9_needed 13 = .ok (.ishl, 1) := by decide +kernel
theorem dX9_needed_14 : decode cX9_needed 14 = .ok (.if_icmp .ge 103, 3) := by decide +kernel
theorem dX9_needed_17 : decode cX9_needed 17 = .ok (.aload_n 0, 1) := by decide +kernel
theorem dX9_needed_18 : decode cX9_needed 18 = .ok (.invokevirtual 214, 3) := by decide +kernel
theorem dX9_needed_21 : decode cX9_needed 21 = .ok (.aload_n 0, 1) := by decide +kernel
theorem dX9_needed_22 : decode cX9_needed 22 = .ok (.getfield 40, 3) := by decide +kernel
theorem dX9_needed_25 : decode cX9_needed 25 = .ok (.iconst 0, 1) := by decide +kernel
theorem dX9_needed_26 : decode cX9_needed 26 = .ok (.iconst 0, 1) := by decide +kernel
theorem dX9_needed_27 : decode cX9_needed 27 = .ok (.iastore, 1) := by decide +kernel
theorem dX9_needed_28 : decode cX9_needed 28 = .ok (.iconst 0, 1) := by decide +kernel
theorem dX9_needed_29 : decode cX9_needed 29 = .ok (.istore_n 3, 1) := by decide +kernel
theorem dX9_needed_30 : decode cX9_needed 30 = .ok (.iload_n 3, 1) := by decide +kernel
theorem dX9_needed_31 : decode cX9_needed 31 = .ok (.aload_n 0, 1) := by decide +kernel
theorem dX9_needed_32 : decode cX9_needed 32 = .ok (.getfield 7, 3) := by decide +kernel
theorem dX9_needed_35 : decode cX9_needed 35 = .ok (.iconst 1, 1) := by decide +kernel
theorem dX9_needed_36 : decode cX9_needed 36 = .ok (.iaload, 1) := by decide +kernel
theorem dX9_needed_37 : decode cX9_needed 37 = .ok (.if_icmp .ge 28, 3) := by decide +kernel
theorem dX9_needed_40 : decode cX9_needed 40 = .ok (.iload_n 2, 1) := by decide +kernel
theorem dX9_needed_41 : decode cX9_needed 41 = .ok (.iload_n 3, 1) := by decide +kernel
theorem dX9_needed_42 : decode cX9_needed 42 = .ok (.invokestatic 166, 3) := by decide +kernel
theorem dX9_needed_45 : decode cX9_needed 45 = .ok (.ifCond .eq 14, 3) := by decide +kernel
theorem dX9_needed_48 : decode cX9_needed 48 = .ok (.aload_n 0, 1) := by decide +kernel
theorem dX9_needed_49 : decode cX9_needed 49 = .ok (.getfield 40, 3) := by decide +kernel
theorem dX9_needed_52 : decode cX9_needed 52 = .ok (.iload_n 3, 1) := by decide +kernel
theorem dX9_needed_53 : decode cX9_needed 53 = .ok (.iconst 0, 1) := by decide +kernel
theorem dX9_needed_54 : decode cX9_needed 54 = .ok (.bipush 119, 2) := by decide +kernel
theorem dX9_needed_56 : decode cX9_needed 56 = .ok (.invokestatic 244, 3) := by decide +kernel
theorem dX9_needed_59 : decode cX9_needed 59 = .ok (.iinc 3 1, 3) := by decide +kernel
theorem dX9_needed_62 : decode cX9_needed 62 = .ok (.goto (-32), 3) := by decide +kernel
theorem dX9_needed_65 : decode cX9_needed 65 = .ok (.aload_n 0, 1) := by decide +kernel
theorem dX9_needed_66 : decode cX9_needed 66 = .ok (.invokevirtual 217, 3) := by decide +kernel
theorem dX9_needed_69 : decode cX9_needed 69 = .ok (.iload_n 1, 1) := by decide +kernel
theorem dX9_needed_70 : decode cX9_needed 70 = .ok (.bipush (-4), 2) := by decide +kernel
theorem dX9_needed_72 : decode cX9_needed 72 = .ok (.if_icmp .eq 14, 3) := by decide +kernel
theorem dX9_needed_75 : decode cX9_needed 75 = .ok (.iload_n 2, 1) := by decide +kernel
theorem dX9_needed_76 : decode cX9_needed 76 = .ok (.invokestatic 174, 3) := by decide +kernel
theorem dX9_needed_79 : decode cX9_needed 79 = .ok (.iload_n 1, 1) := by decide +kernel
theorem dX9_needed_80 : decode cX9_needed 80 = .ok (.invokestatic 174, 3) := by decide +kernel
theorem dX9_needed_83 : decode cX9_needed 83 = .ok (.if_icmp .ge 7, 3) := by decide +kernel
theorem dX9_needed_86 : decode cX9_needed 86 = .ok (.iconst 1, 1) := by decide +kernel
theorem dX9_needed_87 : decode cX9_needed 87 = .ok (.goto 4, 3) := by decide +kernel
theorem dX9_needed_90 : decode cX9_needed 90 = .ok (.iconst 0, 1) := by decide +kernel
theorem dX9_needed_91 : decode cX9_needed 91 = .ok (.istore_n 3, 1) := by decide +kernel
theorem dX9_needed_92 : decode cX9_needed 92 = .ok (.aload_n 0, 1) := by decide +kernel
theorem dX9_needed_93 : decode cX9_needed 93 = .ok (.getfield 182, 3) := by decide +kernel
theorem dX9_needed_96 : decode cX9_needed 96 = .ok (.bipush (-4), 2) := by decide +kernel
theorem dX9_needed_98 : decode cX9_needed 98 = .ok (.if_icmp .ne 11, 3) := by decide +kernel
theorem dX9_needed_101 : decode cX9_needed 101 = .ok (.iload_n 3, 1) := by decide +kernel
theorem dX9_needed_102 : decode cX9_needed 102 = .ok (.ifCond .eq 7, 3) := by decide +kernel
theorem dX9_needed_105 : decode cX9_needed 105 = .ok (.iload_n 2, 1) := by decide +kernel
theorem dX9_needed_106 : decode cX9_needed 106 = .ok (.goto 4, 3) := by decide +kernel
theorem dX9_needed_109 : decode cX9_needed 109 = .ok (.iload_n 1, 1) := by decide +kernel
theorem dX9_needed_110 : decode cX9_needed 110 = .ok (.istore_n 1, 1) := by decide +kernel
theorem dX9_needed_111 : decode cX9_needed 111 = .ok (.iinc 2 1, 3) := by decide +kernel
theorem dX9_needed_114 : decode cX9_needed 114 = .ok (.goto (-109), 3) := by decide +kernel
theorem dX9_needed_117 : decode cX9_needed 117 = .ok (.iload_n 1, 1) := by decide +kernel
theorem dX9_needed_118 : decode cX9_needed 118 = .ok (.ireturn, 1) := by decide +kernel
theorem dX9_odds_0 : decode cX9_odds 0 = .ok (.iload_n 1, 1) := by decide +kernel
theorem dX9_odds_1 : decode cX9_odds 1 = .ok (.i2l, 1) := by decide +kernel
theorem dX9_odds_2 : decode cX9_odds 2 = .ok (.lconst 0, 1) := by decide +kernel
theorem dX9_odds_3 : decode cX9_odds 3 = .ok (.ldc2_w 223, 3) := by decide +kernel
theorem dX9_odds_6 : decode cX9_odds 6 = .ok (.invokestatic 87, 3) := by decide +kernel
theorem dX9_odds_9 : decode cX9_odds 9 = .ok (.ifCond .eq 22, 3) := by decide +kernel
theorem dX9_odds_12 : decode cX9_odds 12 = .ok (.iload_n 2, 1) := by decide +kernel
theorem dX9_odds_13 : decode cX9_odds 13 = .ok (.i2l, 1) := by decide +kernel
theorem dX9_odds_14 : decode cX9_odds 14 = .ok (.lconst 0, 1) := by decide +kernel
theorem dX9_odds_15 : decode cX9_odds 15 = .ok (.ldc2_w 277, 3) := by decide +kernel
theorem dX9_odds_18 : decode cX9_odds 18 = .ok (.invokestatic 87, 3) := by decide +kernel
theorem dX9_odds_21 : decode cX9_odds 21 = .ok (.ifCond .eq 10, 3) := by decide +kernel
theorem dX9_odds_24 : decode cX9_odds 24 = .ok (.iload_n 3, 1) := by decide +kernel
theorem dX9_odds_25 : decode cX9_odds 25 = .ok (.invokestatic 225, 3) := by decide +kernel
theorem dX9_odds_28 : decode cX9_odds 28 = .ok (.ifCond .ne 5, 3) := by decide +kernel
theorem dX9_odds_31 : decode cX9_odds 31 = .ok (.iconst (-1), 1) := by decide +kernel
theorem dX9_odds_32 : decode cX9_odds 32 = .ok (.ireturn, 1) := by decide +kernel
theorem dX9_odds_33 : decode cX9_odds 33 = .ok (.iload_n 1, 1) := by decide +kernel
theorem dX9_odds_34 : decode cX9_odds 34 = .ok (.aload_n 0, 1) := by decide +kernel
theorem dX9_odds_35 : decode cX9_odds 35 = .ok (.getfield 16, 3) := by decide +kernel
theorem dX9_odds_38 : decode cX9_odds 38 = .ok (.iconst 0, 1) := by decide +kernel
theorem dX9_odds_39 : decode cX9_odds 39 = .ok (.iaload, 1) := by decide +kernel
theorem dX9_odds_40 : decode cX9_odds 40 = .ok (.if_icmp .ge 7, 3) := by decide +kernel
theorem dX9_odds_43 : decode cX9_odds 43 = .ok (.iload_n 1, 1) := by decide +kernel
theorem dX9_odds_44 : decode cX9_odds 44 = .ok (.goto 9, 3) := by decide +kernel
theorem dX9_odds_47 : decode cX9_odds 47 = .ok (.aload_n 0, 1) := by decide +kernel
theorem dX9_odds_48 : decode cX9_odds 48 = .ok (.getfield 16, 3) := by decide +kernel
theorem dX9_odds_51 : decode cX9_odds 51 = .ok (.iconst 0, 1) := by decide +kernel
theorem dX9_odds_52 : decode cX9_odds 52 = .ok (.iaload, 1) := by decide +kernel
theorem dX9_odds_53 : decode cX9_odds 53 = .ok (.istore 4, 2) := by decide +kernel
theorem dX9_odds_55 : decode cX9_odds 55 = .ok (.lconst 0, 1) := by decide +kernel
theorem dX9_odds_56 : decode cX9_odds 56 = .ok (.lstore 5, 2) := by decide +kernel
theorem dX9_odds_58 : decode cX9_odds 58 = .ok (.lconst 1, 1) := by decide +kernel
theorem dX9_odds_59 : decode cX9_odds 59 = .ok (.lstore 7, 2) := by decide +kernel
theorem dX9_odds_61 : decode cX9_odds 61 = .ok (.iconst 0, 1) := by decide +kernel
theorem dX9_odds_62 : decode cX9_odds 62 = .ok (.istore 9, 2) := by decide +kernel
theorem dX9_odds_64 : decode cX9_odds 64 = .ok (.iload 9, 2) := by decide +kernel
theorem dX9_odds_66 : decode cX9_odds 66 = .ok (.iload 4, 2) := by decide +kernel
theorem dX9_odds_68 : decode cX9_odds 68 = .ok (.if_icmp .ge 17, 3) := by decide +kernel
theorem dX9_odds_71 : decode cX9_odds 71 = .ok (.lload 7, 2) := by decide +kernel
theorem dX9_odds_73 : decode cX9_odds 73 = .ok (.ldc2_w 277, 3) := by decide +kernel
theorem dX9_odds_76 : decode cX9_odds 76 = .ok (.lmul, 1) := by decide +kernel
theorem dX9_odds_77 : decode cX9_odds 77 = .ok (.lstore 7, 2) := by decide +kernel
theorem dX9_odds_79 : decode cX9_odds 79 = .ok (.iinc 9 1, 3) := by decide +kernel
theorem dX9_odds_82 : decode cX9_odds 82 = .ok (.goto (-18), 3) := by decide +kernel
theorem dX9_odds_85 : decode cX9_odds 85 = .ok (.iconst 0, 1) := by decide +kernel
theorem dX9_odds_86 : decode cX9_odds 86 = .ok (.istore 9, 2) := by decide +kernel
theorem dX9_odds_88 : decode cX9_odds 88 = .ok (.iload 9, 2) := by decide +kernel
theorem dX9_odds_90 : decode cX9_odds 90 = .ok (.iconst 1, 1) := by decide +kernel
theorem dX9_odds_91 : decode cX9_odds 91 = .ok (.iload 4, 2) := by decide +kernel
theorem dX9_odds_93 : decode cX9_odds 93 = .ok (.ishl, 1) := by decide +kernel
theorem dX9_odds_94 : decode cX9_odds 94 = .ok (.if_icmp .ge 164, 3) := by decide +kernel
theorem dX9_odds_97 : decode cX9_odds 97 = .ok (.aload_n 0, 1) := by decide +kernel
theorem dX9_odds_98 : decode cX9_odds 98 = .ok (.invokevirtual 214, 3) := by decide +kernel
theorem dX9_odds_101 : decode cX9_odds 101 = .ok (.lconst 1, 1) := by decide +kernel
theorem dX9_odds_102 : decode cX9_odds 102 = .ok (.lstore 10, 2) := by decide +kernel
theorem dX9_odds_104 : decode cX9_odds 104 = .ok (.aload_n 0, 1) := by decide +kernel
theorem dX9_odds_105 : decode cX9_odds 105 = .ok (.getfield 40, 3) := by decide +kernel
theorem dX9_odds_108 : decode cX9_odds 108 = .ok (.iconst 0, 1) := by decide +kernel
theorem dX9_odds_109 : decode cX9_odds 109 = .ok (.iconst 0, 1) := by decide +kernel
theorem dX9_odds_110 : decode cX9_odds 110 = .ok (.iastore, 1) := by decide +kernel
theorem dX9_odds_111 : decode cX9_odds 111 = .ok (.iconst 0, 1) := by decide +kernel
theorem dX9_odds_112 : decode cX9_odds 112 = .ok (.istore 12, 2) := by decide +kernel
theorem dX9_odds_114 : decode cX9_odds 114 = .ok (.iload 12, 2) := by decide +kernel
theorem dX9_odds_116 : decode cX9_odds 116 = .ok (.aload_n 0, 1) := by decide +kernel
theorem dX9_odds_117 : decode cX9_odds 117 = .ok (.getfield 16, 3) := by decide +kernel
theorem dX9_odds_120 : decode cX9_odds 120 = .ok (.iconst 0, 1) := by decide +kernel
theorem dX9_odds_121 : decode cX9_odds 121 = .ok (.iaload, 1) := by decide +kernel
theorem dX9_odds_122 : decode cX9_odds 122 = .ok (.if_icmp .ge 106, 3) := by decide +kernel
theorem dX9_odds_125 : decode cX9_odds 125 = .ok (.iload 12, 2) := by decide +kernel
theorem dX9_odds_127 : decode cX9_odds 127 = .ok (.iload 4, 2) := by decide +kernel
theorem dX9_odds_129 : decode cX9_odds 129 = .ok (.if_icmp .ge 13, 3) := by decide +kernel
theorem dX9_odds_132 : decode cX9_odds 132 = .ok (.iload 9, 2) := by decide +kernel
theorem dX9_odds_134 : decode cX9_odds 134 = .ok (.iload 12, 2) := by decide +kernel
theorem dX9_odds_136 : decode cX9_odds 136 = .ok (.invokestatic 166, 3) := by decide +kernel
theorem dX9_odds_139 : decode cX9_odds 139 = .ok (.ifCond .ne 7, 3) := by decide +kernel
theorem dX9_odds_142 : decode cX9_odds 142 = .ok (.iconst 1, 1) := by decide +kernel
theorem dX9_odds_143 : decode cX9_odds 143 = .ok (.goto 4, 3) := by decide +kernel
theorem dX9_odds_146 : decode cX9_odds 146 = .ok (.iconst 0, 1) := by decide +kernel
theorem dX9_odds_147 : decode cX9_odds 147 = .ok (.istore 13, 2) := by decide +kernel
theorem dX9_odds_149 : decode cX9_odds 149 = .ok (.iload 13, 2) := by decide +kernel
theorem dX9_odds_151 : decode cX9_odds 151 = .ok (.ifCond .eq 39, 3) := by decide +kernel
theorem dX9_odds_154 : decode cX9_odds 154 = .ok (.aload_n 0, 1) := by decide +kernel
theorem dX9_odds_155 : decode cX9_odds 155 = .ok (.getfield 40, 3) := by decide +kernel
theorem dX9_odds_158 : decode cX9_odds 158 = .ok (.aload_n 0, 1) := by decide +kernel
theorem dX9_odds_159 : decode cX9_odds 159 = .ok (.getfield 16, 3) := by decide +kernel
theorem dX9_odds_162 : decode cX9_odds 162 = .ok (.iconst 1, 1) := by decide +kernel
theorem dX9_odds_163 : decode cX9_odds 163 = .ok (.iload 12, 2) := by decide +kernel
theorem dX9_odds_165 : decode cX9_odds 165 = .ok (.iadd, 1) := by decide +kernel
theorem dX9_odds_166 : decode cX9_odds 166 = .ok (.iaload, 1) := by decide +kernel
theorem dX9_odds_167 : decode cX9_odds 167 = .ok (.aload_n 0, 1) := by decide +kernel
theorem dX9_odds_168 : decode cX9_odds 168 = .ok (.getfield 16, 3) := by decide +kernel
theorem dX9_odds_171 : decode cX9_odds 171 = .ok (.bipush 11, 2) := by decide +kernel
theorem dX9_odds_173 : decode cX9_odds 173 = .ok (.iload 12, 2) := by decide +kernel
theorem dX9_odds_175 : decode cX9_odds 175 = .ok (.iadd, 1) := by decide +kernel
theorem dX9_odds_176 : decode cX9_odds 176 = .ok (.iaload, 1) := by decide +kernel
theorem dX9_odds_177 : decode cX9_odds 177 = .ok (.aload_n 0, 1) := by decide +kernel
theorem dX9_odds_178 : decode cX9_odds 178 = .ok (.getfield 16, 3) := by decide +kernel
theorem dX9_odds_181 : decode cX9_odds 181 = .ok (.bipush 21, 2) := by decide +kernel
theorem dX9_odds_183 : decode cX9_odds 183 = .ok (.iload 12, 2) := by decide +kernel
theorem dX9_odds_185 : decode cX9_odds 185 = .ok (.iadd, 1) := by decide +kernel
theorem dX9_odds_186 : decode cX9_odds 186 = .ok (.iaload, 1) := by decide +kernel
theorem dX9_odds_187 : decode cX9_odds 187 = .ok (.invokestatic 244, 3) := by decide +kernel
theorem dX9_odds_190 : decode cX9_odds 190 = .ok (.lload 10, 2) := by decide +kernel
theorem dX9_odds_192 : decode cX9_odds 192 = .ok (.iload 12, 2) := by decide +kernel
theorem dX9_odds_194 : decode cX9_odds 194 = .ok (.iload 4, 2) := by decide +kernel
theorem dX9_odds_196 : decode cX9_odds 196 = .ok (.if_icmp .lt 7, 3) := by decide +kernel
theorem dX9_odds_199 : decode cX9_odds 199 = .ok (.lconst 1, 1) := by decide +kernel
theorem dX9_odds_200 : decode cX9_odds 200 = .ok (.goto 19, 3) := by decide +kernel
theorem dX9_odds_203 : decode cX9_odds 203 = .ok (.iload 13, 2) := by decide +kernel
theorem dX9_odds_205 : decode cX9_odds 205 = .ok (.ifCond .eq 12, 3) := by decide +kernel
theorem dX9_odds_208 : decode cX9_odds 208 = .ok (.ldc2_w 277, 3) := by decide +kernel
theorem dX9_odds_211 : decode cX9_odds 211 = .ok (.iload_n 2, 1) := by decide +kernel
theorem dX9_odds_212 : decode cX9_odds 212 = .ok (.i2l, 1) := by decide +kernel
theorem dX9_odds_213 : decode cX9_odds 213 = .ok (.lsub, 1) := by decide +kernel
theorem dX9_odds_214 : decode cX9_odds 214 = .ok (.goto 5, 3) := by decide +kernel
theorem dX9_odds_217 : decode cX9_odds 217 = .ok (.iload_n 2, 1) := by decide +kernel
theorem dX9_odds_218 : decode cX9_odds 218 = .ok (.i2l, 1) := by decide +kernel
theorem dX9_odds_219 : decode cX9_odds 219 = .ok (.lmul, 1) := by decide +kernel
theorem dX9_odds_220 : decode cX9_odds 220 = .ok (.lstore 10, 2) := by decide +kernel
theorem dX9_odds_222 : decode cX9_odds 222 = .ok (.iinc 12 1, 3) := by decide +kernel
theorem dX9_odds_225 : decode cX9_odds 225 = .ok (.goto (-111), 3) := by decide +kernel
theorem dX9_odds_228 : decode cX9_odds 228 = .ok (.aload_n 0, 1) := by decide +kernel
theorem dX9_odds_229 : decode cX9_odds 229 = .ok (.invokevirtual 217, 3) := by decide +kernel
theorem dX9_odds_232 : decode cX9_odds 232 = .ok (.lload 5, 2) := by decide +kernel
theorem dX9_odds_234 : decode cX9_odds 234 = .ok (.aload_n 0, 1) := by decide +kernel
theorem dX9_odds_235 : decode cX9_odds 235 = .ok (.getfield 182, 3) := by decide +kernel
theorem dX9_odds_238 : decode cX9_odds 238 = .ok (.bipush (-4), 2) := by decide +kernel
theorem dX9_odds_240 : decode cX9_odds 240 = .ok (.if_icmp .ne 8, 3) := by decide +kernel
theorem dX9_odds_243 : decode cX9_odds 243 = .ok (.lload 10, 2) := by decide +kernel
theorem dX9_odds_245 : decode cX9_odds 245 = .ok (.goto 4, 3) := by decide +kernel
theorem dX9_odds_248 : decode cX9_odds 248 = .ok (.lconst 0, 1) := by decide +kernel
theorem dX9_odds_249 : decode cX9_odds 249 = .ok (.ladd, 1) := by decide +kernel
theorem dX9_odds_250 : decode cX9_odds 250 = .ok (.lstore 5, 2) := by decide +kernel
theorem dX9_odds_252 : decode cX9_odds 252 = .ok (.iinc 9 1, 3) := by decide +kernel
theorem dX9_odds_255 : decode cX9_odds 255 = .ok (.goto (-167), 3) := by decide +kernel
theorem dX9_odds_258 : decode cX9_odds 258 = .ok (.lload 5, 2) := by decide +kernel
theorem dX9_odds_260 : decode cX9_odds 260 = .ok (.lload 7, 2) := by decide +kernel
theorem dX9_odds_262 : decode cX9_odds 262 = .ok (.iload_n 3, 1) := by decide +kernel
theorem dX9_odds_263 : decode cX9_odds 263 = .ok (.invokestatic 228, 3) := by decide +kernel
theorem dX9_odds_266 : decode cX9_odds 266 = .ok (.ireturn, 1) := by decide +kernel
theorem dX9_pays_0 : decode cX9_pays 0 = .ok (.iconst 0, 1) := by decide +kernel
theorem dX9_pays_1 : decode cX9_pays 1 = .ok (.istore 5, 2) := by decide +kernel
theorem dX9_pays_3 : decode cX9_pays 3 = .ok (.iload 5, 2) := by decide +kernel
theorem dX9_pays_5 : decode cX9_pays 5 = .ok (.aload_n 0, 1) := by decide +kernel
theorem dX9_pays_6 : decode cX9_pays 6 = .ok (.getfield 37, 3) := by decide +kernel
theorem dX9_pays_9 : decode cX9_pays 9 = .ok (.iconst 1, 1) := by decide +kernel
theorem dX9_pays_10 : decode cX9_pays 10 = .ok (.iaload, 1) := by decide +kernel
theorem dX9_pays_11 : decode cX9_pays 11 = .ok (.if_icmp .ge 67, 3) := by decide +kernel
theorem dX9_pays_14 : decode cX9_pays 14 = .ok (.iload_n 1, 1) := by decide +kernel
theorem dX9_pays_15 : decode cX9_pays 15 = .ok (.iload 5, 2) := by decide +kernel
theorem dX9_pays_17 : decode cX9_pays 17 = .ok (.invokestatic 166, 3) := by decide +kernel
theorem dX9_pays_20 : decode cX9_pays 20 = .ok (.ifCond .eq 52, 3) := by decide +kernel
theorem dX9_pays_23 : decode cX9_pays 23 = .ok (.aload_n 0, 1) := by decide +kernel
theorem dX9_pays_24 : decode cX9_pays 24 = .ok (.getfield 43, 3) := by decide +kernel
theorem dX9_pays_27 : decode cX9_pays 27 = .ok (.iload 5, 2) := by decide +kernel
theorem dX9_pays_29 : decode cX9_pays 29 = .ok (.dup2, 1) := by decide +kernel
theorem dX9_pays_30 : decode cX9_pays 30 = .ok (.iaload, 1) := by decide +kernel
theorem dX9_pays_31 : decode cX9_pays 31 = .ok (.aload_n 0, 1) := by decide +kernel
theorem dX9_pays_32 : decode cX9_pays 32 = .ok (.getfield 37, 3) := by decide +kernel
theorem dX9_pays_35 : decode cX9_pays 35 = .ok (.iload 5, 2) := by decide +kernel
theorem dX9_pays_37 : decode cX9_pays 37 = .ok (.iload_n 2, 1) := by decide +kernel
theorem dX9_pays_38 : decode cX9_pays 38 = .ok (.iload_n 3, 1) := by decide +kernel
theorem dX9_pays_39 : decode cX9_pays 39 = .ok (.invokestatic 178, 3) := by decide +kernel
theorem dX9_pays_42 : decode cX9_pays 42 = .ok (.isub, 1) := by decide +kernel
theorem dX9_pays_43 : decode cX9_pays 43 = .ok (.iastore, 1) := by decide +kernel
theorem dX9_pays_44 : decode cX9_pays 44 = .ok (.aload_n 0, 1) := by decide +kernel
theorem dX9_pays_45 : decode cX9_pays 45 = .ok (.getfield 46, 3) := by decide +kernel
theorem dX9_pays_48 : decode cX9_pays 48 = .ok (.iload 5, 2) := by decide +kernel
theorem dX9_pays_50 : decode cX9_pays 50 = .ok (.dup2, 1) := by decide +kernel
theorem dX9_pays_51 : decode cX9_pays 51 = .ok (.iaload, 1) := by decide +kernel
theorem dX9_pays_52 : decode cX9_pays 52 = .ok (.iload 4, 2) := by decide +kernel
theorem dX9_pays_54 : decode cX9_pays 54 = .ok (.iload_n 1, 1) := by decide +kernel
theorem dX9_pays_55 : decode cX9_pays 55 = .ok (.invokestatic 174, 3) := by decide +kernel
theorem dX9_pays_58 : decode cX9_pays 58 = .ok (.idiv, 1) := by decide +kernel
theorem dX9_pays_59 : decode cX9_pays 59 = .ok (.iadd, 1) := by decide +kernel
theorem dX9_pays_60 : decode cX9_pays 60 = .ok (.iastore, 1) := by decide +kernel
theorem dX9_pays_61 : decode cX9_pays 61 = .ok (.aload_n 0, 1) := by decide +kernel
theorem dX9_pays_62 : decode cX9_pays 62 = .ok (.getfield 52, 3) := by decide +kernel
theorem dX9_pays_65 : decode cX9_pays 65 = .ok (.iload 5, 2) := by decide +kernel
theorem dX9_pays_67 : decode cX9_pays 67 = .ok (.dup2, 1) := by decide +kernel
theorem dX9_pays_68 : decode cX9_pays 68 = .ok (.iaload, 1) := by decide +kernel
theorem dX9_pays_69 : decode cX9_pays 69 = .ok (.iconst 1, 1) := by decide +kernel
theorem dX9_pays_70 : decode cX9_pays 70 = .ok (.iadd, 1) := by decide +kernel
theorem dX9_pays_71 : decode cX9_pays 71 = .ok (.iastore, 1) := by decide +kernel
theorem dX9_pays_72 : decode cX9_pays 72 = .ok (.iinc 5 1, 3) := by decide +kernel
theorem dX9_pays_75 : decode cX9_pays 75 = .ok (.goto (-72), 3) := by decide +kernel
theorem dX9_pays_78 : decode cX9_pays 78 = .ok (.return_, 1) := by decide +kernel
theorem dX9_print_0 : decode cX9_print 0 = .ok (.aload_n 0, 1) := by decide +kernel
theorem dX9_print_1 : decode cX9_print 1 = .ok (.iload_n 1, 1) := by decide +kernel
theorem dX9_print_2 : decode cX9_print 2 = .ok (.invokevirtual 209, 3) := by decide +kernel
theorem dX9_print_5 : decode cX9_print 5 = .ok (.ifCond .eq 15, 3) := by decide +kernel
theorem dX9_print_8 : decode cX9_print 8 = .ok (.iload_n 2, 1) := by decide +kernel
theorem dX9_print_9 : decode cX9_print 9 = .ok (.i2l, 1) := by decide +kernel
theorem dX9_print_10 : decode cX9_print 10 = .ok (.lconst 0, 1) := by decide +kernel
theorem dX9_print_11 : decode cX9_print 11 = .ok (.ldc2_w 272, 3) := by decide +kernel
theorem dX9_print_14 : decode cX9_print 14 = .ok (.invokestatic 87, 3) := by decide +kernel
theorem dX9_print_17 : decode cX9_print 17 = .ok (.ifCond .ne 5, 3) := by decide +kernel
theorem dX9_print_20 : decode cX9_print 20 = .ok (.iconst (-1), 1) := by decide +kernel
theorem dX9_print_21 : decode cX9_print 21 = .ok (.ireturn, 1) := by decide +kernel
theorem dX9_print_22 : decode cX9_print 22 = .ok (.aload_n 0, 1) := by decide +kernel
theorem dX9_print_23 : decode cX9_print 23 = .ok (.getfield 139, 3) := by decide +kernel
theorem dX9_print_26 : decode cX9_print 26 = .ok (.bipush 8, 2) := by decide +kernel
theorem dX9_print_28 : decode cX9_print 28 = .ok (.if_icmp .ne 6, 3) := by decide +kernel
theorem dX9_print_31 : decode cX9_print 31 = .ok (.bipush (-3), 2) := by decide +kernel
theorem dX9_print_33 : decode cX9_print 33 = .ok (.ireturn, 1) := by decide +kernel
theorem dX9_print_34 : decode cX9_print 34 = .ok (.aload_n 0, 1) := by decide +kernel
theorem dX9_print_35 : decode cX9_print 35 = .ok (.getfield 31, 3) := by decide +kernel
theorem dX9_print_38 : decode cX9_print 38 = .ok (.iconst 2, 1) := by decide +kernel
theorem dX9_print_39 : decode cX9_print 39 = .ok (.aload_n 0, 1) := by decide +kernel
theorem dX9_print_40 : decode cX9_print 40 = .ok (.getfield 139, 3) := by decide +kernel
theorem dX9_print_43 : decode cX9_print 43 = .ok (.imul, 1) := by decide +kernel
theorem dX9_print_44 : decode cX9_print 44 = .ok (.iload_n 1, 1) := by decide +kernel
theorem dX9_print_45 : decode cX9_print 45 = .ok (.iastore, 1) := by decide +kernel
theorem dX9_print_46 : decode cX9_print 46 = .ok (.aload_n 0, 1) := by decide +kernel
theorem dX9_print_47 : decode cX9_print 47 = .ok (.getfield 31, 3) := by decide +kernel
theorem dX9_print_50 : decode cX9_print 50 = .ok (.iconst 2, 1) := by decide +kernel
theorem dX9_print_51 : decode cX9_print 51 = .ok (.aload_n 0, 1) := by decide +kernel
theorem dX9_print_52 : decode cX9_print 52 = .ok (.getfield 139, 3) := by decide +kernel
theorem dX9_print_55 : decode cX9_print 55 = .ok (.imul, 1) := by decide +kernel
theorem dX9_print_56 : decode cX9_print 56 = .ok (.iconst 1, 1) := by decide +kernel
theorem dX9_print_57 : decode cX9_print 57 = .ok (.iadd, 1) := by decide +kernel
theorem dX9_print_58 : decode cX9_print 58 = .ok (.iload_n 2, 1) := by decide +kernel
theorem dX9_print_59 : decode cX9_print 59 = .ok (.iastore, 1) := by decide +kernel
theorem dX9_print_60 : decode cX9_print 60 = .ok (.aload_n 0, 1) := by decide +kernel
theorem dX9_print_61 : decode cX9_print 61 = .ok (.dup, 1) := by decide +kernel
theorem dX9_print_62 : decode cX9_print 62 = .ok (.getfield 139, 3) := by decide +kernel
theorem dX9_print_65 : decode cX9_print 65 = .ok (.iconst 1, 1) := by decide +kernel
theorem dX9_print_66 : decode cX9_print 66 = .ok (.iadd, 1) := by decide +kernel
theorem dX9_print_67 : decode cX9_print 67 = .ok (.putfield 139, 3) := by decide +kernel
theorem dX9_print_70 : decode cX9_print 70 = .ok (.aload_n 0, 1) := by decide +kernel
theorem dX9_print_71 : decode cX9_print 71 = .ok (.getfield 139, 3) := by decide +kernel
theorem dX9_print_74 : decode cX9_print 74 = .ok (.ireturn, 1) := by decide +kernel
theorem dX9_rain_0 : decode cX9_rain 0 = .ok (.iload_n 1, 1) := by decide +kernel
theorem dX9_rain_1 : decode cX9_rain 1 = .ok (.i2l, 1) := by decide +kernel
theorem dX9_rain_2 : decode cX9_rain 2 = .ok (.lconst 0, 1) := by decide +kernel
theorem dX9_rain_3 : decode cX9_rain 3 = .ok (.ldc2_w 279, 3) := by decide +kernel
theorem dX9_rain_6 : decode cX9_rain 6 = .ok (.invokestatic 87, 3) := by decide +kernel
theorem dX9_rain_9 : decode cX9_rain 9 = .ok (.ifCond .eq 10, 3) := by decide +kernel
theorem dX9_rain_12 : decode cX9_rain 12 = .ok (.iload_n 2, 1) := by decide +kernel
theorem dX9_rain_13 : decode cX9_rain 13 = .ok (.invokestatic 225, 3) := by decide +kernel
theorem dX9_rain_16 : decode cX9_rain 16 = .ok (.ifCond .ne 5, 3) := by decide +kernel
theorem dX9_rain_19 : decode cX9_rain 19 = .ok (.iconst (-1), 1) := by decide +kernel
theorem dX9_rain_20 : decode cX9_rain 20 = .ok (.ireturn, 1) := by decide +kernel
theorem dX9_rain_21 : decode cX9_rain 21 = .ok (.aload_n 0, 1) := by decide +kernel
theorem dX9_rain_22 : decode cX9_rain 22 = .ok (.invokevirtual 214, 3) := by decide +kernel
theorem dX9_rain_25 : decode cX9_rain 25 = .ok (.aload_n 0, 1) := by decide +kernel
theorem dX9_rain_26 : decode cX9_rain 26 = .ok (.iload_n 1, 1) := by decide +kernel
theorem dX9_rain_27 : decode cX9_rain 27 = .ok (.putfield 155, 3) := by decide +kernel
theorem dX9_rain_30 : decode cX9_rain 30 = .ok (.aload_n 0, 1) := by decide +kernel
theorem dX9_rain_31 : decode cX9_rain 31 = .ok (.invokevirtual 217, 3) := by decide +kernel
theorem dX9_rain_34 : decode cX9_rain 34 = .ok (.iload_n 2, 1) := by decide +kernel
theorem dX9_rain_35 : decode cX9_rain 35 = .ok (.ifCond .ne 10, 3) := by decide +kernel
theorem dX9_rain_38 : decode cX9_rain 38 = .ok (.aload_n 0, 1) := by decide +kernel
theorem dX9_rain_39 : decode cX9_rain 39 = .ok (.getfield 182, 3) := by decide +kernel
theorem dX9_rain_42 : decode cX9_rain 42 = .ok (.goto 8, 3) := by decide +kernel
theorem dX9_rain_45 : decode cX9_rain 45 = .ok (.aload_n 0, 1) := by decide +kernel
theorem dX9_rain_46 : decode cX9_rain 46 = .ok (.iconst 0, 1) := by decide +kernel
theorem dX9_rain_47 : decode cX9_rain 47 = .ok (.invokevirtual 266, 3) := by decide +kernel
theorem dX9_rain_50 : decode cX9_rain 50 = .ok (.ireturn, 1) := by decide +kernel
theorem dX9_rainAt_0 : decode cX9_rainAt 0 = .ok (.aload_n 0, 1) := by decide +kernel
theorem dX9_rainAt_1 : decode cX9_rainAt 1 = .ok (.getfield 155, 3) := by decide +kernel
theorem dX9_rainAt_4 : decode cX9_rainAt 4 = .ok (.ifCond .ge 10, 3) := by decide +kernel
theorem dX9_rainAt_7 : decode cX9_rainAt 7 = .ok (.aload_n 0, 1) := by decide +kernel
theorem dX9_rainAt_8 : decode cX9_rainAt 8 = .ok (.getfield 37, 3) := by decide +kernel
theorem dX9_rainAt_11 : decode cX9_rainAt 11 = .ok (.iconst 3, 1) := by decide +kernel
theorem dX9_rainAt_12 : decode cX9_rainAt 12 = .ok (.iaload, 1) := by decide +kernel
theorem dX9_rainAt_13 : decode cX9_rainAt 13 = .ok (.ireturn, 1) := by decide +kernel
theorem dX9_rainAt_14 : decode cX9_rainAt 14 = .ok (.ldc2_w 158, 3) := by decide +kernel
theorem dX9_rainAt_17 : decode cX9_rainAt 17 = .ok (.aload_n 0, 1) := by decide +kernel
theorem dX9_rainAt_18 : decode cX9_rainAt 18 = .ok (.getfield 155, 3) := by decide +kernel
theorem dX9_rainAt_21 : decode cX9_rainAt 21 = .ok (.i2l, 1) := by decide +kernel
theorem dX9_rainAt_22 : decode cX9_rainAt 22 = .ok (.lmul, 1) := by decide +kernel
theorem dX9_rainAt_23 : decode cX9_rainAt 23 = .ok (.ldc2_w 160, 3) := by decide +kernel
theorem dX9_rainAt_26 : decode cX9_rainAt 26 = .ok (.iload_n 1, 1) := by decide +kernel
theorem dX9_rainAt_27 : decode cX9_rainAt 27 = .ok (.i2l, 1) := by decide +kernel
theorem dX9_rainAt_28 : decode cX9_rainAt 28 = .ok (.lmul, 1) := by decide +kernel
theorem dX9_rainAt_29 : decode cX9_rainAt 29 = .ok (.ladd, 1) := by decide +kernel
theorem dX9_rainAt_30 : decode cX9_rainAt 30 = .ok (.lconst 1, 1) := by decide +kernel
theorem dX9_rainAt_31 : decode cX9_rainAt 31 = .ok (.ladd, 1) := by decide +kernel
theorem dX9_rainAt_32 : decode cX9_rainAt 32 = .ok (.lstore_n 2, 1) := by decide +kernel
theorem dX9_rainAt_33 : decode cX9_rainAt 33 = .ok (.aload_n 0, 1) := by decide +kernel
theorem dX9_rainAt_34 : decode cX9_rainAt 34 = .ok (.getfield 37, 3) := by decide +kernel
theorem dX9_rainAt_37 : decode cX9_rainAt 37 = .ok (.iconst 3, 1) := by decide +kernel
theorem dX9_rainAt_38 : decode cX9_rainAt 38 = .ok (.iaload, 1) := by decide +kernel
theorem dX9_rainAt_39 : decode cX9_rainAt 39 = .ok (.lload_n 2, 1) := by decide +kernel
theorem dX9_rainAt_40 : decode cX9_rainAt 40 = .ok (.lload_n 2, 1) := by decide +kernel
theorem dX9_rainAt_41 : decode cX9_rainAt 41 = .ok (.lmul, 1) := by decide +kernel
theorem dX9_rainAt_42 : decode cX9_rainAt 42 = .ok (.ldc2_w 162, 3) := by decide +kernel
theorem dX9_rainAt_45 : decode cX9_rainAt 45 = .ok (.lrem, 1) := by decide +kernel
theorem dX9_rainAt_46 : decode cX9_rainAt 46 = .ok (.ldc2_w 164, 3) := by decide +kernel
theorem dX9_rainAt_49 : decode cX9_rainAt 49 = .ok (.lrem, 1) := by decide +kernel
theorem dX9_rainAt_50 : decode cX9_rainAt 50 = .ok (.l2i, 1) := by decide +kernel
theorem dX9_rainAt_51 : decode cX9_rainAt 51 = .ok (.iadd, 1) := by decide +kernel
theorem dX9_rainAt_52 : decode cX9_rainAt 52 = .ok (.ireturn, 1) := by decide +kernel
theorem dX9_remember_0 : decode cX9_remember 0 = .ok (.aload_n 0, 1) := by decide +kernel
theorem dX9_remember_1 : decode cX9_remember 1 = .ok (.getfield 142, 3) := by decide +kernel
theorem dX9_remember_4 : decode cX9_remember 4 = .ok (.bipush 8, 2) := by decide +kernel
theorem dX9_remember_6 : decode cX9_remember 6 = .ok (.if_icmp .ne 43, 3) := by decide +kernel
theorem dX9_remember_9 : decode cX9_remember 9 = .ok (.iconst 0, 1) := by decide +kernel
theorem dX9_remember_10 : decode cX9_remember 10 = .ok (.istore_n 1, 1) := by decide +kernel
theorem dX9_remember_11 : decode cX9_remember 11 = .ok (.iload_n 1, 1) := by decide +kernel
theorem dX9_remember_12 : decode cX9_remember 12 = .ok (.sipush 217, 3) := by decide +kernel
theorem dX9_remember_15 : decode cX9_remember 15 = .ok (.if_icmp .ge 24, 3) := by decide +kernel
theorem dX9_remember_18 : decode cX9_remember 18 = .ok (.aload_n 0, 1) := by decide +kernel
theorem dX9_remember_19 : decode cX9_remember 19 = .ok (.getfield 22, 3) := by decide +kernel
theorem dX9_remember_22 : decode cX9_remember 22 = .ok (.iload_n 1, 1) := by decide +kernel
theorem dX9_remember_23 : decode cX9_remember 23 = .ok (.aload_n 0, 1) := by decide +kernel
theorem dX9_remember_24 : decode cX9_remember 24 = .ok (.getfield 22, 3) := by decide +kernel
theorem dX9_remember_27 : decode cX9_remember 27 = .ok (.iload_n 1, 1) := by decide +kernel
theorem dX9_remember_28 : decode cX9_remember 28 = .ok (.bipush 31, 2) := by decide +kernel
theorem dX9_remember_30 : decode cX9_remember 30 = .ok (.iadd, 1) := by decide +kernel
theorem dX9_remember_31 : decode cX9_remember 31 = .ok (.iaload, 1) := by decide +kernel
theorem dX9_remember_32 : decode cX9_remember 32 = .ok (.iastore, 1) := by decide +kernel
theorem dX9_remember_33 : decode cX9_remember 33 = .ok (.iinc 1 1, 3) := by decide +kernel
theorem dX9_remember_36 : decode cX9_remember 36 = .ok (.goto (-25), 3) := by decide +kernel
theorem dX9_remember_39 : decode cX9_remember 39 = .ok (.aload_n 0, 1) := by decide +kernel
theorem dX9_remember_40 : decode cX9_remember 40 = .ok (.dup, 1) := by decide +kernel
theorem dX9_remember_41 : decode cX9_remember 41 = .ok (.getfield 142, 3) := by decide +kernel
theorem dX9_remember_44 : decode cX9_remember 44 = .ok (.iconst 1, 1) := by decide +kernel
theorem dX9_remember_45 : decode cX9_remember 45 = .ok (.isub, 1) := by decide +kernel
theorem dX9_remember_46 : decode cX9_remember 46 = .ok (.putfield 142, 3) := by decide +kernel
theorem dX9_remember_49 : decode cX9_remember 49 = .ok (.aload_n 0, 1) := by decide +kernel
theorem dX9_remember_50 : decode cX9_remember 50 = .ok (.getfield 16, 3) := by decide +kernel
theorem dX9_remember_53 : decode cX9_remember 53 = .ok (.iconst 0, 1) := by decide +kernel
theorem dX9_remember_54 : decode cX9_remember 54 = .ok (.aload_n 0, 1) := by decide +kernel
theorem dX9_remember_55 : decode cX9_remember 55 = .ok (.getfield 22, 3) := by decide +kernel
theorem dX9_remember_58 : decode cX9_remember 58 = .ok (.bipush 31, 2) := by decide +kernel
theorem dX9_remember_60 : decode cX9_remember 60 = .ok (.aload_n 0, 1) := by decide +kernel
theorem dX9_remember_61 : decode cX9_remember 61 = .ok (.getfield 142, 3) := by decide +kernel
theorem dX9_remember_64 : decode cX9_remember 64 = .ok (.imul, 1) := by decide +kernel
theorem dX9_remember_65 : decode cX9_remember 65 = .ok (.invokestatic 235, 3) := by decide +kernel
theorem dX9_remember_68 : decode cX9_remember 68 = .ok (.aload_n 0, 1) := by decide +kernel
theorem dX9_remember_69 : decode cX9_remember 69 = .ok (.dup, 1) := by decide +kernel
theorem dX9_remember_70 : decode cX9_remember 70 = .ok (.getfield 142, 3) := by decide +kernel
theorem dX9_remember_73 : decode cX9_remember 73 = .ok (.iconst 1, 1) := by decide +kernel
theorem dX9_remember_74 : decode cX9_remember 74 = .ok (.iadd, 1) := by decide +kernel
theorem dX9_remember_75 : decode cX9_remember 75 = .ok (.putfield 142, 3) := by decide +kernel
theorem dX9_remember_78 : decode cX9_remember 78 = .ok (.return_, 1) := by decide +kernel
theorem dX9_rests_0 : decode cX9_rests 0 = .ok (.aload_n 0, 1) := by decide +kernel
theorem dX9_rests_1 : decode cX9_rests 1 = .ok (.iload_n 1, 1) := by decide +kernel
theorem dX9_rests_2 : decode cX9_rests 2 = .ok (.invokevirtual 220, 3) := by decide +kernel
theorem dX9_rests_5 : decode cX9_rests 5 = .ok (.ifCond .eq 23, 3) := by decide +kernel
theorem dX9_rests_8 : decode cX9_rests 8 = .ok (.aload_n 0, 1) := by decide +kernel
theorem dX9_rests_9 : decode cX9_rests 9 = .ok (.iload_n 2, 1) := by decide +kernel
theorem dX9_rests_10 : decode cX9_rests 10 = .ok (.invokevirtual 220, 3) := by decide +kernel
theorem dX9_rests_13 : decode cX9_rests 13 = .ok (.ifCond .eq 15, 3) := by decide +kernel
theorem dX9_rests_16 : decode cX9_rests 16 = .ok (.iload_n 1, 1) := by decide +kernel
theorem dX9_rests_17 : decode cX9_rests 17 = .ok (.iload_n 2, 1) := by decide +kernel
theorem dX9_rests_18 : decode cX9_rests 18 = .ok (.if_icmp .eq 10, 3) := by decide +kernel
theorem dX9_rests_21 : decode cX9_rests 21 = .ok (.iload_n 3, 1) := by decide +kernel
theorem dX9_rests_22 : decode cX9_rests 22 = .ok (.invokestatic 225, 3) := by decide +kernel
theorem dX9_rests_25 : decode cX9_rests 25 = .ok (.ifCond .ne 5, 3) := by decide +kernel
theorem dX9_rests_28 : decode cX9_rests 28 = .ok (.iconst (-1), 1) := by decide +kernel
theorem dX9_rests_29 : decode cX9_rests 29 = .ok (.ireturn, 1) := by decide +kernel
theorem dX9_rests_30 : decode cX9_rests 30 = .ok (.aload_n 0, 1) := by decide +kernel
theorem dX9_rests_31 : decode cX9_rests 31 = .ok (.getfield 7, 3) := by decide +kernel
theorem dX9_rests_34 : decode cX9_rests 34 = .ok (.iconst 0, 1) := by decide +kernel
theorem dX9_rests_35 : decode cX9_rests 35 = .ok (.iaload, 1) := by decide +kernel
theorem dX9_rests_36 : decode cX9_rests 36 = .ok (.istore 4, 2) := by decide +kernel
theorem dX9_rests_38 : decode cX9_rests 38 = .ok (.iconst 0, 1) := by decide +kernel
theorem dX9_rests_39 : decode cX9_rests 39 = .ok (.istore 5, 2) := by decide +kernel
theorem dX9_rests_41 : decode cX9_rests 41 = .ok (.iload 5, 2) := by decide +kernel
theorem dX9_rests_43 : decode cX9_rests 43 = .ok (.iload 4, 2) := by decide +kernel
theorem dX9_rests_45 : decode cX9_rests 45 = .ok (.if_icmp .ge 35, 3) := by decide +kernel
theorem dX9_rests_48 : decode cX9_rests 48 = .ok (.iconst 0, 1) := by decide +kernel
theorem dX9_rests_49 : decode cX9_rests 49 = .ok (.istore 6, 2) := by decide +kernel
theorem dX9_rests_51 : decode cX9_rests 51 = .ok (.iload 6, 2) := by decide +kernel
theorem dX9_rests_53 : decode cX9_rests 53 = .ok (.iload 4, 2) := by decide +kernel
theorem dX9_rests_55 : decode cX9_rests 55 = .ok (.if_icmp .ge 19, 3) := by decide +kernel
theorem dX9_rests_58 : decode cX9_rests 58 = .ok (.aload_n 0, 1) := by decide +kernel
theorem dX9_rests_59 : decode cX9_rests 59 = .ok (.iload_n 1, 1) := by decide +kernel
theorem dX9_rests_60 : decode cX9_rests 60 = .ok (.iload_n 2, 1) := by decide +kernel
theorem dX9_rests_61 : decode cX9_rests 61 = .ok (.iload 5, 2) := by decide +kernel
theorem dX9_rests_63 : decode cX9_rests 63 = .ok (.iload 6, 2) := by decide +kernel
theorem dX9_rests_65 : decode cX9_rests 65 = .ok (.invokevirtual 269, 3) := by decide +kernel
theorem dX9_rests_68 : decode cX9_rests 68 = .ok (.iinc 6 1, 3) := by decide +kernel
theorem dX9_rests_71 : decode cX9_rests 71 = .ok (.goto (-20), 3) := by decide +kernel
theorem dX9_rests_74 : decode cX9_rests 74 = .ok (.iinc 5 1, 3) := by decide +kernel
theorem dX9_rests_77 : decode cX9_rests 77 = .ok (.goto (-36), 3) := by decide +kernel
theorem dX9_rests_80 : decode cX9_rests 80 = .ok (.iconst 0, 1) := by decide +kernel
theorem dX9_rests_81 : decode cX9_rests 81 = .ok (.istore 5, 2) := by decide +kernel
theorem dX9_rests_83 : decode cX9_rests 83 = .ok (.bipush (-4), 2) := by decide +kernel
theorem dX9_rests_85 : decode cX9_rests 85 = .ok (.istore 6, 2) := by decide +kernel
theorem dX9_rests_87 : decode cX9_rests 87 = .ok (.iload 4, 2) := by decide +kernel
theorem dX9_rests_89 : decode cX9_rests 89 = .ok (.iconst 1, 1) := by decide +kernel
theorem dX9_rests_90 : decode cX9_rests 90 = .ok (.isub, 1) := by decide +kernel
theorem dX9_rests_91 : decode cX9_rests 91 = .ok (.istore 7, 2) := by decide +kernel
theorem dX9_rests_93 : decode cX9_rests 93 = .ok (.iload 7, 2) := by decide +kernel
theorem dX9_rests_95 : decode cX9_rests 95 = .ok (.ifCond .lt 150, 3) := by decide +kernel
theorem dX9_rests_98 : decode cX9_rests 98 = .ok (.iload 4, 2) := by decide +kernel
theorem dX9_rests_100 : decode cX9_rests 100 = .ok (.iconst 1, 1) := by decide +kernel
theorem dX9_rests_101 : decode cX9_rests 101 = .ok (.isub, 1) := by decide +kernel
theorem dX9_rests_102 : decode cX9_rests 102 = .ok (.istore 8, 2) := by decide +kernel
theorem dX9_rests_104 : decode cX9_rests 104 = .ok (.iload 8, 2) := by decide +kernel
theorem dX9_rests_106 : decode cX9_rests 106 = .ok (.ifCond .lt 133, 3) := by decide +kernel
theorem dX9_rests_109 : decode cX9_rests 109 = .ok (.iconst 1, 1) := by decide +kernel
theorem dX9_rests_110 : decode cX9_rests 110 = .ok (.istore 9, 2) := by decide +kernel
theorem dX9_rests_112 : decode cX9_rests 112 = .ok (.iconst 0, 1) := by decide +kernel
theorem dX9_rests_113 : decode cX9_rests 113 = .ok (.istore 10, 2) := by decide +kernel
theorem dX9_rests_115 : decode cX9_rests 115 = .ok (.iload 10, 2) := by decide +kernel
theorem dX9_rests_117 : decode cX9_rests 117 = .ok (.iload 4, 2) := by decide +kernel
theorem dX9_rests_119 : decode cX9_rests 119 = .ok (.if_icmp .ge 79, 3) := by decide +kernel
theorem dX9_rests_122 : decode cX9_rests 122 = .ok (.iload 9, 2) := by decide +kernel
theorem dX9_rests_124 : decode cX9_rests 124 = .ok (.ifCond .eq 65, 3) := by decide +kernel
theorem dX9_rests_127 : decode cX9_rests 127 = .ok (.aload_n 0, 1) := by decide +kernel
theorem dX9_rests_128 : decode cX9_rests 128 = .ok (.getfield 64, 3) := by decide +kernel
theorem dX9_rests_131 : decode cX9_rests 131 = .ok (.bipush 6, 2) := by decide +kernel
theorem dX9_rests_133 : decode cX9_rests 133 = .ok (.iload 10, 2) := by decide +kernel
theorem dX9_rests_135 : decode cX9_rests 135 = .ok (.imul, 1) := by decide +kernel
theorem dX9_rests_136 : decode cX9_rests 136 = .ok (.iload 8, 2) := by decide +kernel
theorem dX9_rests_138 : decode cX9_rests 138 = .ok (.iadd, 1) := by decide +kernel
theorem dX9_rests_139 : decode cX9_rests 139 = .ok (.iaload, 1) := by decide +kernel
theorem dX9_rests_140 : decode cX9_rests 140 = .ok (.aload_n 0, 1) := by decide +kernel
theorem dX9_rests_141 : decode cX9_rests 141 = .ok (.getfield 64, 3) := by decide +kernel
theorem dX9_rests_144 : decode cX9_rests 144 = .ok (.bipush 6, 2) := by decide +kernel
theorem dX9_rests_146 : decode cX9_rests 146 = .ok (.iload 7, 2) := by decide +kernel
theorem dX9_rests_148 : decode cX9_rests 148 = .ok (.imul, 1) := by decide +kernel
theorem dX9_rests_149 : decode cX9_rests 149 = .ok (.iload 8, 2) := by decide +kernel
theorem dX9_rests_151 : decode cX9_rests 151 = .ok (.iadd, 1) := by decide +kernel
theorem dX9_rests_152 : decode cX9_rests 152 = .ok (.iaload, 1) := by decide +kernel
theorem dX9_rests_153 : decode cX9_rests 153 = .ok (.if_icmp .gt 36, 3) := by decide +kernel
theorem dX9_rests_156 : decode cX9_rests 156 = .ok (.aload_n 0, 1) := by decide +kernel
theorem dX9_rests_157 : decode cX9_rests 157 = .ok (.getfield 67, 3) := by decide +kernel
theorem dX9_rests_160 : decode cX9_rests 160 = .ok (.bipush 6, 2) := by decide +kernel
theorem dX9_rests_162 : decode cX9_rests 162 = .ok (.iload 7, 2) := by decide +kernel
theorem dX9_rests_164 : decode cX9_rests 164 = .ok (.imul, 1) := by decide +kernel
theorem dX9_rests_165 : decode cX9_rests 165 = .ok (.iload 10, 2) := by decide +kernel
theorem dX9_rests_167 : decode cX9_rests 167 = .ok (.iadd, 1) := by decide +kernel
theorem dX9_rests_168 : decode cX9_rests 168 = .ok (.iaload, 1) := by decide +kernel
theorem dX9_rests_169 : decode cX9_rests 169 = .ok (.aload_n 0, 1) := by decide +kernel
theorem dX9_rests_170 : decode cX9_rests 170 = .ok (.getfield 67, 3) := by decide +kernel
theorem dX9_rests_173 : decode cX9_rests 173 = .ok (.bipush 6, 2) := by decide +kernel
theorem dX9_rests_175 : decode cX9_rests 175 = .ok (.iload 7, 2) := by decide +kernel
theorem dX9_rests_177 : decode cX9_rests 177 = .ok (.imul, 1) := by decide +kernel
theorem dX9_rests_178 : decode cX9_rests 178 = .ok (.iload 8, 2) := by decide +kernel
theorem dX9_rests_180 : decode cX9_rests 180 = .ok (.iadd, 1) := by decide +kernel
theorem dX9_rests_181 : decode cX9_rests 181 = .ok (.iaload, 1) := by decide +kernel
theorem dX9_rests_182 : decode cX9_rests 182 = .ok (.if_icmp .gt 7, 3) := by decide +kernel
theorem dX9_rests_185 : decode cX9_rests 185 = .ok (.iconst 1, 1) := by decide +kernel
theorem dX9_rests_186 : decode cX9_rests 186 = .ok (.goto 4, 3) := by decide +kernel
theorem dX9_rests_189 : decode cX9_rests 189 = .ok (.iconst 0, 1) := by decide +kernel
theorem dX9_rests_190 : decode cX9_rests 190 = .ok (.istore 9, 2) := by decide +kernel
theorem dX9_rests_192 : decode cX9_rests 192 = .ok (.iinc 10 1, 3) := by decide +kernel
theorem dX9_rests_195 : decode cX9_rests 195 = .ok (.goto (-80), 3) := by decide +kernel
theorem dX9_rests_198 : decode cX9_rests 198 = .ok (.iload 5, 2) := by decide +kernel
theorem dX9_rests_200 : decode cX9_rests 200 = .ok (.iload 9, 2) := by decide +kernel
theorem dX9_rests_202 : decode cX9_rests 202 = .ok (.ifCond .eq 7, 3) := by decide +kernel
theorem dX9_rests_205 : decode cX9_rests 205 = .ok (.iconst 1, 1) := by decide +kernel
theorem dX9_rests_206 : decode cX9_rests 206 = .ok (.goto 4, 3) := by decide +kernel
theorem dX9_rests_209 : decode cX9_rests 209 = .ok (.iconst 0, 1) := by decide +kernel
theorem dX9_rests_210 : decode cX9_rests 210 = .ok (.iadd, 1) := by decide +kernel
theorem dX9_rests_211 : decode cX9_rests 211 = .ok (.istore 5, 2) := by decide +kernel
theorem dX9_rests_213 : decode cX9_rests 213 = .ok (.iload 9, 2) := by decide +kernel
theorem dX9_rests_215 : decode cX9_rests 215 = .ok (.ifCond .eq 14, 3) := by decide +kernel
theorem dX9_rests_218 : decode cX9_rests 218 = .ok (.bipush 8, 2) := by decide +kernel
theorem dX9_rests_220 : decode cX9_rests 220 = .ok (.iload 7, 2) := by decide +kernel
theorem dX9_rests_222 : decode cX9_rests 222 = .ok (.imul, 1) := by decide +kernel
theorem dX9_rests_223 : decode cX9_rests 223 = .ok (.iload 8, 2) := by decide +kernel
theorem dX9_rests_225 : decode cX9_rests 225 = .ok (.iadd, 1) := by decide +kernel
theorem dX9_rests_226 : decode cX9_rests 226 = .ok (.goto 5, 3) := by decide +kernel
theorem dX9_rests_229 : decode cX9_rests 229 = .ok (.iload 6, 2) := by decide +kernel
theorem dX9_rests_231 : decode cX9_rests 231 = .ok (.istore 6, 2) := by decide +kernel
theorem dX9_rests_233 : decode cX9_rests 233 = .ok (.iinc 8 (-1), 3) := by decide +kernel
theorem dX9_rests_236 : decode cX9_rests 236 = .ok (.goto (-132), 3) := by decide +kernel
theorem dX9_rests_239 : decode cX9_rests 239 = .ok (.iinc 7 (-1), 3) := by decide +kernel
theorem dX9_rests_242 : decode cX9_rests 242 = .ok (.goto (-149), 3) := by decide +kernel
theorem dX9_rests_245 : decode cX9_rests 245 = .ok (.iload_n 3, 1) := by decide +kernel
theorem dX9_rests_246 : decode cX9_rests 246 = .ok (.ifCond .ne 8, 3) := by decide +kernel
theorem dX9_rests_249 : decode cX9_rests 249 = .ok (.iload 5, 2) := by decide +kernel
theorem dX9_rests_251 : decode cX9_rests 251 = .ok (.goto 5, 3) := by decide +kernel
theorem dX9_rests_254 : decode cX9_rests 254 = .ok (.iload 6, 2) := by decide +kernel
theorem dX9_rests_256 : decode cX9_rests 256 = .ok (.ireturn, 1) := by decide +kernel
theorem dX9_safe_0 : decode cX9_safe 0 = .ok (.iconst 0, 1) := by decide +kernel
theorem dX9_safe_1 : decode cX9_safe 1 = .ok (.istore_n 1, 1) := by decide +kernel
theorem dX9_safe_2 : decode cX9_safe 2 = .ok (.iload_n 1, 1) := by decide +kernel
theorem dX9_safe_3 : decode cX9_safe 3 = .ok (.aload_n 0, 1) := by decide +kernel
theorem dX9_safe_4 : decode cX9_safe 4 = .ok (.getfield 7, 3) := by decide +kernel
theorem dX9_safe_7 : decode cX9_safe 7 = .ok (.iconst 1, 1) := by decide +kernel
theorem dX9_safe_8 : decode cX9_safe 8 = .ok (.iaload, 1) := by decide +kernel
theorem dX9_safe_9 : decode cX9_safe 9 = .ok (.if_icmp .ge 33, 3) := by decide +kernel
theorem dX9_safe_12 : decode cX9_safe 12 = .ok (.aload_n 0, 1) := by decide +kernel
theorem dX9_safe_13 : decode cX9_safe 13 = .ok (.invokevirtual 214, 3) := by decide +kernel
theorem dX9_safe_16 : decode cX9_safe 16 = .ok (.aload_n 0, 1) := by decide +kernel
theorem dX9_safe_17 : decode cX9_safe 17 = .ok (.iload_n 1, 1) := by decide +kernel
theorem dX9_safe_18 : decode cX9_safe 18 = .ok (.putfield 152, 3) := by decide +kernel
theorem dX9_safe_21 : decode cX9_safe 21 = .ok (.aload_n 0, 1) := by decide +kernel
theorem dX9_safe_22 : decode cX9_safe 22 = .ok (.invokevirtual 217, 3) := by decide +kernel
theorem dX9_safe_25 : decode cX9_safe 25 = .ok (.aload_n 0, 1) := by decide +kernel
theorem dX9_safe_26 : decode cX9_safe 26 = .ok (.getfield 182, 3) := by decide +kernel
theorem dX9_safe_29 : decode cX9_safe 29 = .ok (.bipush (-4), 2) := by decide +kernel
theorem dX9_safe_31 : decode cX9_safe 31 = .ok (.if_icmp .eq 5, 3) := by decide +kernel
theorem dX9_safe_34 : decode cX9_safe 34 = .ok (.iload_n 1, 1) := by decide +kernel
theorem dX9_safe_35 : decode cX9_safe 35 = .ok (.ireturn, 1) := by decide +kernel
theorem dX9_safe_36 : decode cX9_safe 36 = .ok (.iinc 1 1, 3) := by decide +kernel
theorem dX9_safe_39 : decode cX9_safe 39 = .ok (.goto (-37), 3) := by decide +kernel
theorem dX9_safe_42 : decode cX9_safe 42 = .ok (.bipush (-4), 2) := by decide +kernel
theorem dX9_safe_44 : decode cX9_safe 44 = .ok (.ireturn, 1) := by decide +kernel
theorem dX9_share_0 : decode cX9_share 0 = .ok (.aload_n 0, 1) := by decide +kernel
theorem dX9_share_1 : decode cX9_share 1 = .ok (.iload_n 1, 1) := by decide +kernel
theorem dX9_share_2 : decode cX9_share 2 = .ok (.invokevirtual 220, 3) := by decide +kernel
theorem dX9_share_5 : decode cX9_share 5 = .ok (.ifCond .eq 10, 3) := by decide +kernel
theorem dX9_share_8 : decode cX9_share 8 = .ok (.iload_n 2, 1) := by decide +kernel
theorem dX9_share_9 : decode cX9_share 9 = .ok (.invokestatic 225, 3) := by decide +kernel
theorem dX9_share_12 : decode cX9_share 12 = .ok (.ifCond .ne 5, 3) := by decide +kernel
theorem dX9_share_15 : decode cX9_share 15 = .ok (.iconst (-1), 1) := by decide +kernel
theorem dX9_share_16 : decode cX9_share 16 = .ok (.ireturn, 1) := by decide +kernel
theorem dX9_share_17 : decode cX9_share 17 = .ok (.aload_n 0, 1) := by decide +kernel
theorem dX9_share_18 : decode cX9_share 18 = .ok (.invokevirtual 214, 3) := by decide +kernel
theorem dX9_share_21 : decode cX9_share 21 = .ok (.aload_n 0, 1) := by decide +kernel
theorem dX9_share_22 : decode cX9_share 22 = .ok (.invokevirtual 217, 3) := by decide +kernel
theorem dX9_share_25 : decode cX9_share 25 = .ok (.iconst 0, 1) := by decide +kernel
theorem dX9_share_26 : decode cX9_share 26 = .ok (.istore_n 3, 1) := by decide +kernel
theorem dX9_share_27 : decode cX9_share 27 = .ok (.iconst 0, 1) := by decide +kernel
theorem dX9_share_28 : decode cX9_share 28 = .ok (.istore 4, 2) := by decide +kernel
theorem dX9_share_30 : decode cX9_share 30 = .ok (.iload 4, 2) := by decide +kernel
theorem dX9_share_32 : decode cX9_share 32 = .ok (.aload_n 0, 1) := by decide +kernel
theorem dX9_share_33 : decode cX9_share 33 = .ok (.getfield 7, 3) := by decide +kernel
theorem dX9_share_36 : decode cX9_share 36 = .ok (.iconst 1, 1) := by decide +kernel
theorem dX9_share_37 : decode cX9_share 37 = .ok (.iaload, 1) := by decide +kernel
theorem dX9_share_38 : decode cX9_share 38 = .ok (.if_icmp .ge 19, 3) := by decide +kernel
theorem dX9_share_41 : decode cX9_share 41 = .ok (.iload_n 3, 1) := by decide +kernel
theorem dX9_share_42 : decode cX9_share 42 = .ok (.aload_n 0, 1) := by decide +kernel
theorem dX9_share_43 : decode cX9_share 43 = .ok (.getfield 46, 3) := by decide +kernel
theorem dX9_share_46 : decode cX9_share 46 = .ok (.iload 4, 2) := by decide +kernel
theorem dX9_share_48 : decode cX9_share 48 = .ok (.iaload, 1) := by decide +kernel
theorem dX9_share_49 : decode cX9_share 49 = .ok (.iadd, 1) := by decide +kernel
theorem dX9_share_50 : decode cX9_share 50 = .ok (.istore_n 3, 1) := by decide +kernel
theorem dX9_share_51 : decode cX9_share 51 = .ok (.iinc 4 1, 3) := by decide +kernel
theorem dX9_share_54 : decode cX9_share 54 = .ok (.goto (-24), 3) := by decide +kernel
theorem dX9_share_57 : decode cX9_share 57 = .ok (.aload_n 0, 1) := by decide +kernel
theorem dX9_share_58 : decode cX9_share 58 = .ok (.getfield 46, 3) := by decide +kernel
theorem dX9_share_61 : decode cX9_share 61 = .ok (.iload_n 1, 1) := by decide +kernel
theorem dX9_share_62 : decode cX9_share 62 = .ok (.iaload, 1) := by decide +kernel
theorem dX9_share_63 : decode cX9_share 63 = .ok (.i2l, 1) := by decide +kernel
theorem dX9_share_64 : decode cX9_share 64 = .ok (.iload_n 3, 1) := by decide +kernel
theorem dX9_share_65 : decode cX9_share 65 = .ok (.ifCond .ne 7, 3) := by decide +kernel
theorem dX9_share_68 : decode cX9_share 68 = .ok (.lconst 1, 1) := by decide +kernel
theorem dX9_share_69 : decode cX9_share 69 = .ok (.goto 5, 3) := by decide +kernel
theorem dX9_share_72 : decode cX9_share 72 = .ok (.iload_n 3, 1) := by decide +kernel
theorem dX9_share_73 : decode cX9_share 73 = .ok (.i2l, 1) := by decide +kernel
theorem dX9_share_74 : decode cX9_share 74 = .ok (.iload_n 2, 1) := by decide +kernel
theorem dX9_share_75 : decode cX9_share 75 = .ok (.invokestatic 228, 3) := by decide +kernel
theorem dX9_share_78 : decode cX9_share 78 = .ok (.ireturn, 1) := by decide +kernel
theorem dX9_son_0 : decode cX9_son 0 = .ok (.aload_n 0, 1) := by decide +kernel
theorem dX9_son_1 : decode cX9_son 1 = .ok (.iload_n 1, 1) := by decide +kernel
theorem dX9_son_2 : decode cX9_son 2 = .ok (.invokevirtual 220, 3) := by decide +kernel
theorem dX9_son_5 : decode cX9_son 5 = .ok (.ifCond .eq 15, 3) := by decide +kernel
theorem dX9_son_8 : decode cX9_son 8 = .ok (.iload_n 2, 1) := by decide +kernel
theorem dX9_son_9 : decode cX9_son 9 = .ok (.i2l, 1) := by decide +kernel
theorem dX9_son_10 : decode cX9_son 10 = .ok (.lconst 0, 1) := by decide +kernel
theorem dX9_son_11 : decode cX9_son 11 = .ok (.ldc2_w 260, 3) := by decide +kernel
theorem dX9_son_14 : decode cX9_son 14 = .ok (.invokestatic 87, 3) := by decide +kernel
theorem dX9_son_17 : decode cX9_son 17 = .ok (.ifCond .ne 5, 3) := by decide +kernel
theorem dX9_son_20 : decode cX9_son 20 = .ok (.iconst (-1), 1) := by decide +kernel
theorem dX9_son_21 : decode cX9_son 21 = .ok (.ireturn, 1) := by decide +kernel
theorem dX9_son_22 : decode cX9_son 22 = .ok (.aload_n 0, 1) := by decide +kernel
theorem dX9_son_23 : decode cX9_son 23 = .ok (.iload_n 1, 1) := by decide +kernel
theorem dX9_son_24 : decode cX9_son 24 = .ok (.iload_n 2, 1) := by decide +kernel
theorem dX9_son_25 : decode cX9_son 25 = .ok (.invokevirtual 257, 3) := by decide +kernel
theorem dX9_son_28 : decode cX9_son 28 = .ok (.aload_n 0, 1) := by decide +kernel
theorem dX9_son_29 : decode cX9_son 29 = .ok (.iconst (-1), 1) := by decide +kernel
theorem dX9_son_30 : decode cX9_son 30 = .ok (.iconst 0, 1) := by decide +kernel
theorem dX9_son_31 : decode cX9_son 31 = .ok (.invokevirtual 257, 3) := by decide +kernel
theorem dX9_son_34 : decode cX9_son 34 = .ok (.isub, 1) := by decide +kernel
theorem dX9_son_35 : decode cX9_son 35 = .ok (.ireturn, 1) := by decide +kernel
theorem dX9_stands_0 : decode cX9_stands 0 = .ok (.aload_n 0, 1) := by decide +kernel
theorem dX9_stands_1 : decode cX9_stands 1 = .ok (.invokevirtual 214, 3) := by decide +kernel
theorem dX9_stands_4 : decode cX9_stands 4 = .ok (.aload_n 0, 1) := by decide +kernel
theorem dX9_stands_5 : decode cX9_stands 5 = .ok (.invokevirtual 217, 3) := by decide +kernel
theorem dX9_stands_8 : decode cX9_stands 8 = .ok (.aload_n 0, 1) := by decide +kernel
theorem dX9_stands_9 : decode cX9_stands 9 = .ok (.getfield 182, 3) := by decide +kernel
theorem dX9_stands_12 : decode cX9_stands 12 = .ok (.ireturn, 1) := by decide +kernel
theorem dX9_startsUp_0 : decode cX9_startsUp 0 = .ok (.iconst 0, 1) := by decide +kernel
theorem dX9_startsUp_1 : decode cX9_startsUp 1 = .ok (.istore_n 1, 1) := by decide +kernel
theorem dX9_startsUp_2 : decode cX9_startsUp 2 = .ok (.iload_n 1, 1) := by decide +kernel
theorem dX9_startsUp_3 : decode cX9_startsUp 3 = .ok (.bipush 6, 2) := by decide +kernel
theorem dX9_startsUp_5 : decode cX9_startsUp 5 = .ok (.if_icmp .ge 57, 3) := by decide +kernel
theorem dX9_startsUp_8 : decode cX9_startsUp 8 = .ok (.aload_n 0, 1) := by decide +kernel
theorem dX9_startsUp_9 : decode cX9_startsUp 9 = .ok (.getfield 43, 3) := by decide +kernel
theorem dX9_startsUp_12 : decode cX9_startsUp 12 = .ok (.iload_n 1, 1) := by decide +kernel
theorem dX9_startsUp_13 : decode cX9_startsUp 13 = .ok (.iload_n 1, 1) := by decide +kernel
theorem dX9_startsUp_14 : decode cX9_startsUp 14 = .ok (.aload_n 0, 1) := by decide +kernel
theorem dX9_startsUp_15 : decode cX9_startsUp 15 = .ok (.getfield 152, 3) := by decide +kernel
theorem dX9_startsUp_18 : decode cX9_startsUp 18 = .ok (.if_icmp .ne 7, 3) := by decide +kernel
theorem dX9_startsUp_21 : decode cX9_startsUp 21 = .ok (.iconst 0, 1) := by decide +kernel
theorem dX9_startsUp_22 : decode cX9_startsUp 22 = .ok (.goto 12, 3) := by decide +kernel
theorem dX9_startsUp_25 : decode cX9_startsUp 25 = .ok (.aload_n 0, 1) := by decide +kernel
theorem dX9_startsUp_26 : decode cX9_startsUp 26 = .ok (.getfield 37, 3) := by decide +kernel
theorem dX9_startsUp_29 : decode cX9_startsUp 29 = .ok (.bipush 22, 2) := by decide +kernel
theorem dX9_startsUp_31 : decode cX9_startsUp 31 = .ok (.iload_n 1, 1) := by decide +kernel
theorem dX9_startsUp_32 : decode cX9_startsUp 32 = .ok (.iadd, 1) := by decide +kernel
theorem dX9_startsUp_33 : decode cX9_startsUp 33 = .ok (.iaload, 1) := by decide +kernel
theorem dX9_startsUp_34 : decode cX9_startsUp 34 = .ok (.iastore, 1) := by decide +kernel
theorem dX9_startsUp_35 : decode cX9_startsUp 35 = .ok (.aload_n 0, 1) := by decide +kernel
theorem dX9_startsUp_36 : decode cX9_startsUp 36 = .ok (.getfield 46, 3) := by decide +kernel
theorem dX9_startsUp_39 : decode cX9_startsUp 39 = .ok (.iload_n 1, 1) := by decide +kernel
theorem dX9_startsUp_40 : decode cX9_startsUp 40 = .ok (.iconst 0, 1) := by decide +kernel
theorem dX9_startsUp_41 : decode cX9_startsUp 41 = .ok (.iastore, 1) := by decide +kernel
theorem dX9_startsUp_42 : decode cX9_startsUp 42 = .ok (.aload_n 0, 1) := by decide +kernel
theorem dX9_startsUp_43 : decode cX9_startsUp 43 = .ok (.getfield 49, 3) := by decide +kernel
theorem dX9_startsUp_46 : decode cX9_startsUp 46 = .ok (.iload_n 1, 1) := by decide +kernel
theorem dX9_startsUp_47 : decode cX9_startsUp 47 = .ok (.iconst (-1), 1) := by decide +kernel
theorem dX9_startsUp_48 : decode cX9_startsUp 48 = .ok (.iastore, 1) := by decide +kernel
theorem dX9_startsUp_49 : decode cX9_startsUp 49 = .ok (.aload_n 0, 1) := by decide +kernel
theorem dX9_startsUp_50 : decode cX9_startsUp 50 = .ok (.getfield 52, 3) := by decide +kernel
theorem dX9_startsUp_53 : decode cX9_startsUp 53 = .ok (.iload_n 1, 1) := by decide +kernel
theorem dX9_startsUp_54 : decode cX9_startsUp 54 = .ok (.iconst 0, 1) := by decide +kernel
theorem dX9_startsUp_55 : decode cX9_startsUp 55 = .ok (.iastore, 1) := by decide +kernel
theorem dX9_startsUp_56 : decode cX9_startsUp 56 = .ok (.iinc 1 1, 3) := by decide +kernel
theorem dX9_startsUp_59 : decode cX9_startsUp 59 = .ok (.goto (-57), 3) := by decide +kernel
theorem dX9_startsUp_62 : decode cX9_startsUp 62 = .ok (.aload_n 0, 1) := by decide +kernel
theorem dX9_startsUp_63 : decode cX9_startsUp 63 = .ok (.bipush (-4), 2) := by decide +kernel
theorem dX9_startsUp_65 : decode cX9_startsUp 65 = .ok (.putfield 182, 3) := by decide +kernel
theorem dX9_startsUp_68 : decode cX9_startsUp 68 = .ok (.return_, 1) := by decide +kernel
theorem dX9_stretch_0 : decode cX9_stretch 0 = .ok (.aload_n 0, 1) := by decide +kernel
theorem dX9_stretch_1 : decode cX9_stretch 1 = .ok (.getfield 13, 3) := by decide +kernel
theorem dX9_stretch_4 : decode cX9_stretch 4 = .ok (.iconst 0, 1) := by decide +kernel
theorem dX9_stretch_5 : decode cX9_stretch 5 = .ok (.iaload, 1) := by decide +kernel
theorem dX9_stretch_6 : decode cX9_stretch 6 = .ok (.istore_n 3, 1) := by decide +kernel
theorem dX9_stretch_7 : decode cX9_stretch 7 = .ok (.aload_n 0, 1) := by decide +kernel
theorem dX9_stretch_8 : decode cX9_stretch 8 = .ok (.getfield 13, 3) := by decide +kernel
theorem dX9_stretch_11 : decode cX9_stretch 11 = .ok (.iconst 4, 1) := by decide +kernel
theorem dX9_stretch_12 : decode cX9_stretch 12 = .ok (.iload_n 3, 1) := by decide +kernel
theorem dX9_stretch_13 : decode cX9_stretch 13 = .ok (.iadd, 1) := by decide +kernel
theorem dX9_stretch_14 : decode cX9_stretch 14 = .ok (.iload_n 1, 1) := by decide +kernel
theorem dX9_stretch_15 : decode cX9_stretch 15 = .ok (.iastore, 1) := by decide +kernel
theorem dX9_stretch_16 : decode cX9_stretch 16 = .ok (.aload_n 0, 1) := by decide +kernel
theorem dX9_stretch_17 : decode cX9_stretch 17 = .ok (.getfield 13, 3) := by decide +kernel
theorem dX9_stretch_20 : decode cX9_stretch 20 = .ok (.bipush 10, 2) := by decide +kernel
theorem dX9_stretch_22 : decode cX9_stretch 22 = .ok (.iload_n 3, 1) := by decide +kernel
theorem dX9_stretch_23 : decode cX9_stretch 23 = .ok (.iadd, 1) := by decide +kernel
theorem dX9_stretch_24 : decode cX9_stretch 24 = .ok (.iload_n 2, 1) := by decide +kernel
theorem dX9_stretch_25 : decode cX9_stretch 25 = .ok (.iastore, 1) := by decide +kernel
theorem dX9_stretch_26 : decode cX9_stretch 26 = .ok (.aload_n 0, 1) := by decide +kernel
theorem dX9_stretch_27 : decode cX9_stretch 27 = .ok (.getfield 13, 3) := by decide +kernel
theorem dX9_stretch_30 : decode cX9_stretch 30 = .ok (.iconst 0, 1) := by decide +kernel
theorem dX9_stretch_31 : decode cX9_stretch 31 = .ok (.dup2, 1) := by decide +kernel
theorem dX9_stretch_32 : decode cX9_stretch 32 = .ok (.iaload, 1) := by decide +kernel
theorem dX9_stretch_33 : decode cX9_stretch 33 = .ok (.iconst 1, 1) := by decide +kernel
theorem dX9_stretch_34 : decode cX9_stretch 34 = .ok (.iadd, 1) := by decide +kernel
theorem dX9_stretch_35 : decode cX9_stretch 35 = .ok (.iastore, 1) := by decide +kernel
theorem dX9_stretch_36 : decode cX9_stretch 36 = .ok (.return_, 1) := by decide +kernel
theorem dX9_stretchAt_0 : decode cX9_stretchAt 0 = .ok (.iconst 0, 1) := by decide +kernel
theorem dX9_stretchAt_1 : decode cX9_stretchAt 1 = .ok (.istore_n 2, 1) := by decide +kernel
theorem dX9_stretchAt_2 : decode cX9_stretchAt 2 = .ok (.iload_n 1, 1) := by decide +kernel
theorem dX9_stretchAt_3 : decode cX9_stretchAt 3 = .ok (.istore_n 3, 1) := by decide +kernel
theorem dX9_stretchAt_4 : decode cX9_stretchAt 4 = .ok (.iload_n 3, 1) := by decide +kernel
theorem dX9_stretchAt_5 : decode cX9_stretchAt 5 = .ok (.aload_n 0, 1) := by decide +kernel
theorem dX9_stretchAt_6 : decode cX9_stretchAt 6 = .ok (.iconst 4, 1) := by decide +kernel
theorem dX9_stretchAt_7 : decode cX9_stretchAt 7 = .ok (.iload_n 2, 1) := by decide +kernel
theorem dX9_stretchAt_8 : decode cX9_stretchAt 8 = .ok (.iadd, 1) := by decide +kernel
theorem dX9_stretchAt_9 : decode cX9_stretchAt 9 = .ok (.iaload, 1) := by decide +kernel
theorem dX9_stretchAt_10 : decode cX9_stretchAt 10 = .ok (.if_icmp .lt 17, 3) := by decide +kernel
theorem dX9_stretchAt_13 : decode cX9_stretchAt 13 = .ok (.iload_n 3, 1) := by decide +kernel
theorem dX9_stretchAt_14 : decode cX9_stretchAt 14 = .ok (.aload_n 0, 1) := by decide +kernel
theorem dX9_stretchAt_15 : decode cX9_stretchAt 15 = .ok (.iconst 4, 1) := by decide +kernel
theorem dX9_stretchAt_16 : decode cX9_stretchAt 16 = .ok (.iload_n 2, 1) := by decide +kernel
theorem dX9_stretchAt_17 : decode cX9_stretchAt 17 = .ok (.iadd, 1) := by decide +kernel
theorem dX9_stretchAt_18 : decode cX9_stretchAt 18 = .ok (.iaload, 1) := by decide +kernel
theorem dX9_stretchAt_19 : decode cX9_stretchAt 19 = .ok (.isub, 1) := by decide +kernel
theorem dX9_stretchAt_20 : decode cX9_stretchAt 20 = .ok (.istore_n 3, 1) := by decide +kernel
theorem dX9_stretchAt_21 : decode cX9_stretchAt 21 = .ok (.iinc 2 1, 3) := by decide +kernel
theorem dX9_stretchAt_24 : decode cX9_stretchAt 24 = .ok (.goto (-20), 3) := by decide +kernel
theorem dX9_stretchAt_27 : decode cX9_stretchAt 27 = .ok (.iload_n 2, 1) := by decide +kernel
theorem dX9_stretchAt_28 : decode cX9_stretchAt 28 = .ok (.ireturn, 1) := by decide +kernel
