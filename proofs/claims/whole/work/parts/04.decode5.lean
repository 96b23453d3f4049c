theorem dX9_comesTo_0 : decode cX9_comesTo 0 = .ok (.aload_n 0, 1) := by decide +kernel
theorem dX9_comesTo_1 : decode cX9_comesTo 1 = .ok (.getfield 7, 3) := by decide +kernel
theorem dX9_comesTo_4 : decode cX9_comesTo 4 = .ok (.invokestatic 116, 3) := by decide +kernel
theorem dX9_comesTo_7 : decode cX9_comesTo 7 = .ok (.istore_n 3, 1) := by decide +kernel
theorem dX9_comesTo_8 : decode cX9_comesTo 8 = .ok (.iconst 0, 1) := by decide +kernel
theorem dX9_comesTo_9 : decode cX9_comesTo 9 = .ok (.istore 4, 2) := by decide +kernel
theorem dX9_comesTo_11 : decode cX9_comesTo 11 = .ok (.iconst 0, 1) := by decide +kernel
theorem dX9_comesTo_12 : decode cX9_comesTo 12 = .ok (.istore 5, 2) := by decide +kernel
theorem dX9_comesTo_14 : decode cX9_comesTo 14 = .ok (.iload 5, 2) := by decide +kernel
theorem dX9_comesTo_16 : decode cX9_comesTo 16 = .ok (.aload_n 0, 1) := by decide +kernel
theorem dX9_comesTo_17 : decode cX9_comesTo 17 = .ok (.getfield 7, 3) := by decide +kernel
theorem dX9_comesTo_20 : decode cX9_comesTo 20 = .ok (.iconst 1, 1) := by decide +kernel
theorem dX9_comesTo_21 : decode cX9_comesTo 21 = .ok (.iaload, 1) := by decide +kernel
theorem dX9_comesTo_22 : decode cX9_comesTo 22 = .ok (.if_icmp .ge 136, 3) := by decide +kernel
theorem dX9_comesTo_25 : decode cX9_comesTo 25 = .ok (.aload_n 0, 1) := by decide +kernel
theorem dX9_comesTo_26 : decode cX9_comesTo 26 = .ok (.getfield 58, 3) := by decide +kernel
theorem dX9_comesTo_29 : decode cX9_comesTo 29 = .ok (.iload 5, 2) := by decide +kernel
theorem dX9_comesTo_31 : decode cX9_comesTo 31 = .ok (.iaload, 1) := by decide +kernel
theorem dX9_comesTo_32 : decode cX9_comesTo 32 = .ok (.istore 6, 2) := by decide +kernel
theorem dX9_comesTo_34 : decode cX9_comesTo 34 = .ok (.aload_n 0, 1) := by decide +kernel
theorem dX9_comesTo_35 : decode cX9_comesTo 35 = .ok (.getfield 7, 3) := by decide +kernel
theorem dX9_comesTo_38 : decode cX9_comesTo 38 = .ok (.bipush 22, 2) := by decide +kernel
theorem dX9_comesTo_40 : decode cX9_comesTo 40 = .ok (.iload 6, 2) := by decide +kernel
theorem dX9_comesTo_42 : decode cX9_comesTo 42 = .ok (.iadd, 1) := by decide +kernel
theorem dX9_comesTo_43 : decode cX9_comesTo 43 = .ok (.iaload, 1) := by decide +kernel
theorem dX9_comesTo_44 : decode cX9_comesTo 44 = .ok (.iload 6, 2) := by decide +kernel
theorem dX9_comesTo_46 : decode cX9_comesTo 46 = .ok (.iload_n 1, 1) := by decide +kernel
theorem dX9_comesTo_47 : decode cX9_comesTo 47 = .ok (.if_icmp .ne 7, 3) := by decide +kernel
theorem dX9_comesTo_50 : decode cX9_comesTo 50 = .ok (.iload_n 2, 1) := by decide +kernel
theorem dX9_comesTo_51 : decode cX9_comesTo 51 = .ok (.goto 4, 3) := by decide +kernel
theorem dX9_comesTo_54 : decode cX9_comesTo 54 = .ok (.iconst 0, 1) := by decide +kernel
theorem dX9_comesTo_55 : decode cX9_comesTo 55 = .ok (.iadd, 1) := by decide +kernel
theorem dX9_comesTo_56 : decode cX9_comesTo 56 = .ok (.istore 7, 2) := by decide +kernel
theorem dX9_comesTo_58 : decode cX9_comesTo 58 = .ok (.iconst 1, 1) := by decide +kernel
theorem dX9_comesTo_59 : decode cX9_comesTo 59 = .ok (.istore 8, 2) := by decide +kernel
theorem dX9_comesTo_61 : decode cX9_comesTo 61 = .ok (.iload 4, 2) := by decide +kernel
theorem dX9_comesTo_63 : decode cX9_comesTo 63 = .ok (.iload_n 3, 1) := by decide +kernel
theorem dX9_comesTo_64 : decode cX9_comesTo 64 = .ok (.if_icmp .ge 88, 3) := by decide +kernel
theorem dX9_comesTo_67 : decode cX9_comesTo 67 = .ok (.iload 8, 2) := by decide +kernel
theorem dX9_comesTo_69 : decode cX9_comesTo 69 = .ok (.ifCond .eq 83, 3) := by decide +kernel
theorem dX9_comesTo_72 : decode cX9_comesTo 72 = .ok (.aload_n 0, 1) := by decide +kernel
theorem dX9_comesTo_73 : decode cX9_comesTo 73 = .ok (.getfield 7, 3) := by decide +kernel
theorem dX9_comesTo_76 : decode cX9_comesTo 76 = .ok (.iload 6, 2) := by decide +kernel
theorem dX9_comesTo_78 : decode cX9_comesTo 78 = .ok (.iconst 1, 1) := by decide +kernel
theorem dX9_comesTo_79 : decode cX9_comesTo 79 = .ok (.iload 6, 2) := by decide +kernel
theorem dX9_comesTo_81 : decode cX9_comesTo 81 = .ok (.ishl, 1) := by decide +kernel
theorem dX9_comesTo_82 : decode cX9_comesTo 82 = .ok (.iconst 1, 1) := by decide +kernel
theorem dX9_comesTo_83 : decode cX9_comesTo 83 = .ok (.aload_n 0, 1) := by decide +kernel
theorem dX9_comesTo_84 : decode cX9_comesTo 84 = .ok (.getfield 7, 3) := by decide +kernel
theorem dX9_comesTo_87 : decode cX9_comesTo 87 = .ok (.bipush 10, 2) := by decide +kernel
theorem dX9_comesTo_89 : decode cX9_comesTo 89 = .ok (.aload_n 0, 1) := by decide +kernel
theorem dX9_comesTo_90 : decode cX9_comesTo 90 = .ok (.getfield 7, 3) := by decide +kernel
theorem dX9_comesTo_93 : decode cX9_comesTo 93 = .ok (.iload 4, 2) := by decide +kernel
theorem dX9_comesTo_95 : decode cX9_comesTo 95 = .ok (.invokestatic 188, 3) := by decide +kernel
theorem dX9_comesTo_98 : decode cX9_comesTo 98 = .ok (.iadd, 1) := by decide +kernel
theorem dX9_comesTo_99 : decode cX9_comesTo 99 = .ok (.iaload, 1) := by decide +kernel
theorem dX9_comesTo_100 : decode cX9_comesTo 100 = .ok (.iadd, 1) := by decide +kernel
theorem dX9_comesTo_101 : decode cX9_comesTo 101 = .ok (.aload_n 0, 1) := by decide +kernel
theorem dX9_comesTo_102 : decode cX9_comesTo 102 = .ok (.getfield 7, 3) := by decide +kernel
theorem dX9_comesTo_105 : decode cX9_comesTo 105 = .ok (.iconst 3, 1) := by decide +kernel
theorem dX9_comesTo_106 : decode cX9_comesTo 106 = .ok (.iaload, 1) := by decide +kernel
theorem dX9_comesTo_107 : decode cX9_comesTo 107 = .ok (.iadd, 1) := by decide +kernel
theorem dX9_comesTo_108 : decode cX9_comesTo 108 = .ok (.invokestatic 178, 3) := by decide +kernel
theorem dX9_comesTo_111 : decode cX9_comesTo 111 = .ok (.istore 9, 2) := by decide +kernel
theorem dX9_comesTo_113 : decode cX9_comesTo 113 = .ok (.iload 7, 2) := by decide +kernel
theorem dX9_comesTo_115 : decode cX9_comesTo 115 = .ok (.iload 9, 2) := by decide +kernel
theorem dX9_comesTo_117 : decode cX9_comesTo 117 = .ok (.if_icmp .lt 7, 3) := by decide +kernel
theorem dX9_comesTo_120 : decode cX9_comesTo 120 = .ok (.iconst 1, 1) := by decide +kernel
theorem dX9_comesTo_121 : decode cX9_comesTo 121 = .ok (.goto 4, 3) := by decide +kernel
theorem dX9_comesTo_124 : decode cX9_comesTo 124 = .ok (.iconst 0, 1) := by decide +kernel
theorem dX9_comesTo_125 : decode cX9_comesTo 125 = .ok (.istore 8, 2) := by decide +kernel
theorem dX9_comesTo_127 : decode cX9_comesTo 127 = .ok (.iload 7, 2) := by decide +kernel
theorem dX9_comesTo_129 : decode cX9_comesTo 129 = .ok (.iload 9, 2) := by decide +kernel
theorem dX9_comesTo_131 : decode cX9_comesTo 131 = .ok (.isub, 1) := by decide +kernel
theorem dX9_comesTo_132 : decode cX9_comesTo 132 = .ok (.istore 7, 2) := by decide +kernel
theorem dX9_comesTo_134 : decode cX9_comesTo 134 = .ok (.iload 4, 2) := by decide +kernel
theorem dX9_comesTo_136 : decode cX9_comesTo 136 = .ok (.iload 8, 2) := by decide +kernel
theorem dX9_comesTo_138 : decode cX9_comesTo 138 = .ok (.ifCond .eq 7, 3) := by decide +kernel
theorem dX9_comesTo_141 : decode cX9_comesTo 141 = .ok (.iconst 1, 1) := by decide +kernel
theorem dX9_comesTo_142 : decode cX9_comesTo 142 = .ok (.goto 4, 3) := by decide +kernel
theorem dX9_comesTo_145 : decode cX9_comesTo 145 = .ok (.iconst 0, 1) := by decide +kernel
theorem dX9_comesTo_146 : decode cX9_comesTo 146 = .ok (.iadd, 1) := by decide +kernel
theorem dX9_comesTo_147 : decode cX9_comesTo 147 = .ok (.istore 4, 2) := by decide +kernel
theorem dX9_comesTo_149 : decode cX9_comesTo 149 = .ok (.goto (-88), 3) := by decide +kernel
theorem dX9_comesTo_152 : decode cX9_comesTo 152 = .ok (.iinc 5 1, 3) := by decide +kernel
theorem dX9_comesTo_155 : decode cX9_comesTo 155 = .ok (.goto (-141), 3) := by decide +kernel
theorem dX9_comesTo_158 : decode cX9_comesTo 158 = .ok (.iload 4, 2) := by decide +kernel
theorem dX9_comesTo_160 : decode cX9_comesTo 160 = .ok (.ireturn, 1) := by decide +kernel
theorem dX9_copies_0 : decode cX9_copies 0 = .ok (.iconst 0, 1) := by decide +kernel
theorem dX9_copies_1 : decode cX9_copies 1 = .ok (.istore 4, 2) := by decide +kernel
theorem dX9_copies_3 : decode cX9_copies 3 = .ok (.iload 4, 2) := by decide +kernel
theorem dX9_copies_5 : decode cX9_copies 5 = .ok (.bipush 31, 2) := by decide +kernel
theorem dX9_copies_7 : decode cX9_copies 7 = .ok (.if_icmp .ge 21, 3) := by decide +kernel
theorem dX9_copies_10 : decode cX9_copies 10 = .ok (.aload_n 2, 1) := by decide +kernel
theorem dX9_copies_11 : decode cX9_copies 11 = .ok (.iload_n 3, 1) := by decide +kernel
theorem dX9_copies_12 : decode cX9_copies 12 = .ok (.iload 4, 2) := by decide +kernel
theorem dX9_copies_14 : decode cX9_copies 14 = .ok (.iadd, 1) := by decide +kernel
theorem dX9_copies_15 : decode cX9_copies 15 = .ok (.aload_n 0, 1) := by decide +kernel
theorem dX9_copies_16 : decode cX9_copies 16 = .ok (.iload_n 1, 1) := by decide +kernel
theorem dX9_copies_17 : decode cX9_copies 17 = .ok (.iload 4, 2) := by decide +kernel
theorem dX9_copies_19 : decode cX9_copies 19 = .ok (.iadd, 1) := by decide +kernel
theorem dX9_copies_20 : decode cX9_copies 20 = .ok (.iaload, 1) := by decide +kernel
theorem dX9_copies_21 : decode cX9_copies 21 = .ok (.iastore, 1) := by decide +kernel
theorem dX9_copies_22 : decode cX9_copies 22 = .ok (.iinc 4 1, 3) := by decide +kernel
theorem dX9_copies_25 : decode cX9_copies 25 = .ok (.goto (-22), 3) := by decide +kernel
theorem dX9_copies_28 : decode cX9_copies 28 = .ok (.return_, 1) := by decide +kernel
theorem dX9_cost_0 : decode cX9_cost 0 = .ok (.aload_n 0, 1) := by decide +kernel
theorem dX9_cost_1 : decode cX9_cost 1 = .ok (.bipush 28, 2) := by decide +kernel
theorem dX9_cost_3 : decode cX9_cost 3 = .ok (.iload_n 1, 1) := by decide +kernel
theorem dX9_cost_4 : decode cX9_cost 4 = .ok (.iadd, 1) := by decide +kernel
theorem dX9_cost_5 : decode cX9_cost 5 = .ok (.iaload, 1) := by decide +kernel
theorem dX9_cost_6 : decode cX9_cost 6 = .ok (.istore 4, 2) := by decide +kernel
theorem dX9_cost_8 : decode cX9_cost 8 = .ok (.iload 4, 2) := by decide +kernel
theorem dX9_cost_10 : decode cX9_cost 10 = .ok (.iconst 1, 1) := by decide +kernel
theorem dX9_cost_11 : decode cX9_cost 11 = .ok (.if_icmp .ne 9, 3) := by decide +kernel
theorem dX9_cost_14 : decode cX9_cost 14 = .ok (.iconst 2, 1) := by decide +kernel
theorem dX9_cost_15 : decode cX9_cost 15 = .ok (.iload_n 3, 1) := by decide +kernel
theorem dX9_cost_16 : decode cX9_cost 16 = .ok (.imul, 1) := by decide +kernel
theorem dX9_cost_17 : decode cX9_cost 17 = .ok (.goto 25, 3) := by decide +kernel
theorem dX9_cost_20 : decode cX9_cost 20 = .ok (.iload 4, 2) := by decide +kernel
theorem dX9_cost_22 : decode cX9_cost 22 = .ok (.iconst 3, 1) := by decide +kernel
theorem dX9_cost_23 : decode cX9_cost 23 = .ok (.if_icmp .ne 18, 3) := by decide +kernel
theorem dX9_cost_26 : decode cX9_cost 26 = .ok (.aload_n 0, 1) := by decide +kernel
theorem dX9_cost_27 : decode cX9_cost 27 = .ok (.iload_n 2, 1) := by decide +kernel
theorem dX9_cost_28 : decode cX9_cost 28 = .ok (.iload_n 1, 1) := by decide +kernel
theorem dX9_cost_29 : decode cX9_cost 29 = .ok (.invokestatic 170, 3) := by decide +kernel
theorem dX9_cost_32 : decode cX9_cost 32 = .ok (.ifCond .eq 9, 3) := by decide +kernel
theorem dX9_cost_35 : decode cX9_cost 35 = .ok (.iload_n 3, 1) := by decide +kernel
theorem dX9_cost_36 : decode cX9_cost 36 = .ok (.iconst 1, 1) := by decide +kernel
theorem dX9_cost_37 : decode cX9_cost 37 = .ok (.isub, 1) := by decide +kernel
theorem dX9_cost_38 : decode cX9_cost 38 = .ok (.goto 4, 3) := by decide +kernel
theorem dX9_cost_41 : decode cX9_cost 41 = .ok (.iload_n 3, 1) := by decide +kernel
theorem dX9_cost_42 : decode cX9_cost 42 = .ok (.istore 5, 2) := by decide +kernel
theorem dX9_cost_44 : decode cX9_cost 44 = .ok (.iload 5, 2) := by decide +kernel
theorem dX9_cost_46 : decode cX9_cost 46 = .ok (.iload_n 2, 1) := by decide +kernel
theorem dX9_cost_47 : decode cX9_cost 47 = .ok (.invokestatic 174, 3) := by decide +kernel
theorem dX9_cost_50 : decode cX9_cost 50 = .ok (.idiv, 1) := by decide +kernel
theorem dX9_cost_51 : decode cX9_cost 51 = .ok (.istore 5, 2) := by decide +kernel
theorem dX9_cost_53 : decode cX9_cost 53 = .ok (.iload 5, 2) := by decide +kernel
theorem dX9_cost_55 : decode cX9_cost 55 = .ok (.iconst 1, 1) := by decide +kernel
theorem dX9_cost_56 : decode cX9_cost 56 = .ok (.if_icmp .ge 7, 3) := by decide +kernel
theorem dX9_cost_59 : decode cX9_cost 59 = .ok (.iconst 1, 1) := by decide +kernel
theorem dX9_cost_60 : decode cX9_cost 60 = .ok (.goto 5, 3) := by decide +kernel
theorem dX9_cost_63 : decode cX9_cost 63 = .ok (.iload 5, 2) := by decide +kernel
theorem dX9_cost_65 : decode cX9_cost 65 = .ok (.ireturn, 1) := by decide +kernel
theorem dX9_count_0 : decode cX9_count 0 = .ok (.iload_n 1, 1) := by decide +kernel
theorem dX9_count_1 : decode cX9_count 1 = .ok (.tableswitch 118 0 9 #[55, 62, 70, 77, 84, 91, 98, 103, 108, 113], 55) := by decide +kernel
theorem dX9_count_56 : decode cX9_count 56 = .ok (.aload_n 0, 1) := by decide +kernel
theorem dX9_count_57 : decode cX9_count 57 = .ok (.getfield 7, 3) := by decide +kernel
theorem dX9_count_60 : decode cX9_count 60 = .ok (.iconst 0, 1) := by decide +kernel
theorem dX9_count_61 : decode cX9_count 61 = .ok (.iaload, 1) := by decide +kernel
theorem dX9_count_62 : decode cX9_count 62 = .ok (.ireturn, 1) := by decide +kernel
theorem dX9_count_63 : decode cX9_count 63 = .ok (.aload_n 0, 1) := by decide +kernel
theorem dX9_count_64 : decode cX9_count 64 = .ok (.getfield 7, 3) := by decide +kernel
theorem dX9_count_67 : decode cX9_count 67 = .ok (.invokestatic 116, 3) := by decide +kernel
theorem dX9_count_70 : decode cX9_count 70 = .ok (.ireturn, 1) := by decide +kernel
theorem dX9_count_71 : decode cX9_count 71 = .ok (.aload_n 0, 1) := by decide +kernel
theorem dX9_count_72 : decode cX9_count 72 = .ok (.getfield 7, 3) := by decide +kernel
theorem dX9_count_75 : decode cX9_count 75 = .ok (.iconst 1, 1) := by decide +kernel
theorem dX9_count_76 : decode cX9_count 76 = .ok (.iaload, 1) := by decide +kernel
theorem dX9_count_77 : decode cX9_count 77 = .ok (.ireturn, 1) := by decide +kernel
theorem dX9_count_78 : decode cX9_count 78 = .ok (.aload_n 0, 1) := by decide +kernel
theorem dX9_count_79 : decode cX9_count 79 = .ok (.getfield 7, 3) := by decide +kernel
theorem dX9_count_82 : decode cX9_count 82 = .ok (.iconst 2, 1) := by decide +kernel
theorem dX9_count_83 : decode cX9_count 83 = .ok (.iaload, 1) := by decide +kernel
theorem dX9_count_84 : decode cX9_count 84 = .ok (.ireturn, 1) := by decide +kernel
theorem dX9_count_85 : decode cX9_count 85 = .ok (.aload_n 0, 1) := by decide +kernel
theorem dX9_count_86 : decode cX9_count 86 = .ok (.getfield 7, 3) := by decide +kernel
theorem dX9_count_89 : decode cX9_count 89 = .ok (.iconst 3, 1) := by decide +kernel
theorem dX9_count_90 : decode cX9_count 90 = .ok (.iaload, 1) := by decide +kernel
theorem dX9_count_91 : decode cX9_count 91 = .ok (.ireturn, 1) := by decide +kernel
theorem dX9_count_92 : decode cX9_count 92 = .ok (.aload_n 0, 1) := by decide +kernel
theorem dX9_count_93 : decode cX9_count 93 = .ok (.getfield 16, 3) := by decide +kernel
theorem dX9_count_96 : decode cX9_count 96 = .ok (.iconst 0, 1) := by decide +kernel
theorem dX9_count_97 : decode cX9_count 97 = .ok (.iaload, 1) := by decide +kernel
theorem dX9_count_98 : decode cX9_count 98 = .ok (.ireturn, 1) := by decide +kernel
theorem dX9_count_99 : decode cX9_count 99 = .ok (.aload_n 0, 1) := by decide +kernel
theorem dX9_count_100 : decode cX9_count 100 = .ok (.getfield 139, 3) := by decide +kernel
theorem dX9_count_103 : decode cX9_count 103 = .ok (.ireturn, 1) := by decide +kernel
theorem dX9_count_104 : decode cX9_count 104 = .ok (.aload_n 0, 1) := by decide +kernel
theorem dX9_count_105 : decode cX9_count 105 = .ok (.getfield 142, 3) := by decide +kernel
theorem dX9_count_108 : decode cX9_count 108 = .ok (.ireturn, 1) := by decide +kernel
theorem dX9_count_109 : decode cX9_count 109 = .ok (.aload_n 0, 1) := by decide +kernel
theorem dX9_count_110 : decode cX9_count 110 = .ok (.getfield 145, 3) := by decide +kernel
theorem dX9_count_113 : decode cX9_count 113 = .ok (.ireturn, 1) := by decide +kernel
theorem dX9_count_114 : decode cX9_count 114 = .ok (.aload_n 0, 1) := by decide +kernel
theorem dX9_count_115 : decode cX9_count 115 = .ok (.getfield 95, 3) := by decide +kernel
theorem dX9_count_118 : decode cX9_count 118 = .ok (.ireturn, 1) := by decide +kernel
theorem dX9_count_119 : decode cX9_count 119 = .ok (.iconst (-1), 1) := by decide +kernel
theorem dX9_count_120 : decode cX9_count 120 = .ok (.ireturn, 1) := by decide +kernel
theorem dX9_failed_0 : decode cX9_failed 0 = .ok (.aload_n 0, 1) := by decide +kernel
theorem dX9_failed_1 : decode cX9_failed 1 = .ok (.iconst (-1), 1) := by decide +kernel
theorem dX9_failed_2 : decode cX9_failed 2 = .ok (.invokevirtual 274, 3) := by decide +kernel
theorem dX9_failed_5 : decode cX9_failed 5 = .ok (.ifCond .eq 8, 3) := by decide +kernel
theorem dX9_failed_8 : decode cX9_failed 8 = .ok (.bipush 64, 2) := by decide +kernel
theorem dX9_failed_10 : decode cX9_failed 10 = .ok (.goto 4, 3) := by decide +kernel
theorem dX9_failed_13 : decode cX9_failed 13 = .ok (.iconst 0, 1) := by decide +kernel
theorem dX9_failed_14 : decode cX9_failed 14 = .ok (.istore_n 1, 1) := by decide +kernel
theorem dX9_failed_15 : decode cX9_failed 15 = .ok (.iconst 0, 1) := by decide +kernel
theorem dX9_failed_16 : decode cX9_failed 16 = .ok (.istore_n 2, 1) := by decide +kernel
theorem dX9_failed_17 : decode cX9_failed 17 = .ok (.iload_n 2, 1) := by decide +kernel
theorem dX9_failed_18 : decode cX9_failed 18 = .ok (.aload_n 0, 1) := by decide +kernel
theorem dX9_failed_19 : decode cX9_failed 19 = .ok (.getfield 7, 3) := by decide +kernel
theorem dX9_failed_22 : decode cX9_failed 22 = .ok (.iconst 1, 1) := by decide +kernel
theorem dX9_failed_23 : decode cX9_failed 23 = .ok (.iaload, 1) := by decide +kernel
theorem dX9_failed_24 : decode cX9_failed 24 = .ok (.if_icmp .ge 27, 3) := by decide +kernel
theorem dX9_failed_27 : decode cX9_failed 27 = .ok (.iload_n 1, 1) := by decide +kernel
theorem dX9_failed_28 : decode cX9_failed 28 = .ok (.aload_n 0, 1) := by decide +kernel
theorem dX9_failed_29 : decode cX9_failed 29 = .ok (.iload_n 2, 1) := by decide +kernel
theorem dX9_failed_30 : decode cX9_failed 30 = .ok (.invokevirtual 274, 3) := by decide +kernel
theorem dX9_failed_33 : decode cX9_failed 33 = .ok (.ifCond .eq 9, 3) := by decide +kernel
theorem dX9_failed_36 : decode cX9_failed 36 = .ok (.iconst 1, 1) := by decide +kernel
theorem dX9_failed_37 : decode cX9_failed 37 = .ok (.iload_n 2, 1) := by decide +kernel
theorem dX9_failed_38 : decode cX9_failed 38 = .ok (.ishl, 1) := by decide +kernel
theorem dX9_failed_39 : decode cX9_failed 39 = .ok (.goto 4, 3) := by decide +kernel
theorem dX9_failed_42 : decode cX9_failed 42 = .ok (.iconst 0, 1) := by decide +kernel
theorem dX9_failed_43 : decode cX9_failed 43 = .ok (.ior, 1) := by decide +kernel
theorem dX9_failed_44 : decode cX9_failed 44 = .ok (.istore_n 1, 1) := by decide +kernel
theorem dX9_failed_45 : decode cX9_failed 45 = .ok (.iinc 2 1, 3) := by decide +kernel
theorem dX9_failed_48 : decode cX9_failed 48 = .ok (.goto (-31), 3) := by decide +kernel
theorem dX9_failed_51 : decode cX9_failed 51 = .ok (.iload_n 1, 1) := by decide +kernel
theorem dX9_failed_52 : decode cX9_failed 52 = .ok (.ireturn, 1) := by decide +kernel
theorem dX9_far_0 : decode cX9_far 0 = .ok (.iload_n 1, 1) := by decide +kernel
theorem dX9_far_1 : decode cX9_far 1 = .ok (.i2l, 1) := by decide +kernel
theorem dX9_far_2 : decode cX9_far 2 = .ok (.ldc2_w 255, 3) := by decide +kernel
theorem dX9_far_5 : decode cX9_far 5 = .ok (.aload_n 0, 1) := by decide +kernel
theorem dX9_far_6 : decode cX9_far 6 = .ok (.getfield 7, 3) := by decide +kernel
theorem dX9_far_9 : decode cX9_far 9 = .ok (.iconst 1, 1) := by decide +kernel
theorem dX9_far_10 : decode cX9_far 10 = .ok (.iaload, 1) := by decide +kernel
theorem dX9_far_11 : decode cX9_far 11 = .ok (.iconst 1, 1) := by decide +kernel
theorem dX9_far_12 : decode cX9_far 12 = .ok (.isub, 1) := by decide +kernel
theorem dX9_far_13 : decode cX9_far 13 = .ok (.i2l, 1) := by decide +kernel
theorem dX9_far_14 : decode cX9_far 14 = .ok (.invokestatic 87, 3) := by decide +kernel
theorem dX9_far_17 : decode cX9_far 17 = .ok (.ifCond .ne 5, 3) := by decide +kernel
theorem dX9_far_20 : decode cX9_far 20 = .ok (.iconst (-1), 1) := by decide +kernel
theorem dX9_far_21 : decode cX9_far 21 = .ok (.ireturn, 1) := by decide +kernel
theorem dX9_far_22 : decode cX9_far 22 = .ok (.aload_n 0, 1) := by decide +kernel
theorem dX9_far_23 : decode cX9_far 23 = .ok (.iconst (-1), 1) := by decide +kernel
theorem dX9_far_24 : decode cX9_far 24 = .ok (.iconst 0, 1) := by decide +kernel
theorem dX9_far_25 : decode cX9_far 25 = .ok (.invokevirtual 257, 3) := by decide +kernel
theorem dX9_far_28 : decode cX9_far 28 = .ok (.istore_n 2, 1) := by decide +kernel
theorem dX9_far_29 : decode cX9_far 29 = .ok (.iload_n 1, 1) := by decide +kernel
theorem dX9_far_30 : decode cX9_far 30 = .ok (.ifCond .ge 7, 3) := by decide +kernel
theorem dX9_far_33 : decode cX9_far 33 = .ok (.iload_n 2, 1) := by decide +kernel
theorem dX9_far_34 : decode cX9_far 34 = .ok (.goto 9, 3) := by decide +kernel
theorem dX9_far_37 : decode cX9_far 37 = .ok (.aload_n 0, 1) := by decide +kernel
theorem dX9_far_38 : decode cX9_far 38 = .ok (.getfield 61, 3) := by decide +kernel
theorem dX9_far_41 : decode cX9_far 41 = .ok (.iload_n 1, 1) := by decide +kernel
theorem dX9_far_42 : decode cX9_far 42 = .ok (.iaload, 1) := by decide +kernel
theorem dX9_far_43 : decode cX9_far 43 = .ok (.ireturn, 1) := by decide +kernel
theorem dX9_fault_0 : decode cX9_fault 0 = .ok (.aload_n 0, 1) := by decide +kernel
theorem dX9_fault_1 : decode cX9_fault 1 = .ok (.invokevirtual 70, 3) := by decide +kernel
theorem dX9_fault_4 : decode cX9_fault 4 = .ok (.aload_n 0, 1) := by decide +kernel
theorem dX9_fault_5 : decode cX9_fault 5 = .ok (.iconst 0, 1) := by decide +kernel
theorem dX9_fault_6 : decode cX9_fault 6 = .ok (.putfield 99, 3) := by decide +kernel
theorem dX9_fault_9 : decode cX9_fault 9 = .ok (.aload_n 0, 1) := by decide +kernel
theorem dX9_fault_10 : decode cX9_fault 10 = .ok (.getfield 99, 3) := by decide +kernel
theorem dX9_fault_13 : decode cX9_fault 13 = .ok (.aload_n 0, 1) := by decide +kernel
theorem dX9_fault_14 : decode cX9_fault 14 = .ok (.getfield 95, 3) := by decide +kernel
theorem dX9_fault_17 : decode cX9_fault 17 = .ok (.if_icmp .ge 20, 3) := by decide +kernel
theorem dX9_fault_20 : decode cX9_fault 20 = .ok (.aload_n 0, 1) := by decide +kernel
theorem dX9_fault_21 : decode cX9_fault 21 = .ok (.getfield 99, 3) := by decide +kernel
theorem dX9_fault_24 : decode cX9_fault 24 = .ok (.istore_n 1, 1) := by decide +kernel
theorem dX9_fault_25 : decode cX9_fault 25 = .ok (.aload_n 0, 1) := by decide +kernel
theorem dX9_fault_26 : decode cX9_fault 26 = .ok (.invokevirtual 136, 3) := by decide +kernel
theorem dX9_fault_29 : decode cX9_fault 29 = .ok (.ifCond .ne 5, 3) := by decide +kernel
theorem dX9_fault_32 : decode cX9_fault 32 = .ok (.iload_n 1, 1) := by decide +kernel
theorem dX9_fault_33 : decode cX9_fault 33 = .ok (.ireturn, 1) := by decide +kernel
theorem dX9_fault_34 : decode cX9_fault 34 = .ok (.goto (-25), 3) := by decide +kernel
theorem dX9_fault_37 : decode cX9_fault 37 = .ok (.bipush (-4), 2) := by decide +kernel
theorem dX9_fault_39 : decode cX9_fault 39 = .ok (.ireturn, 1) := by decide +kernel
theorem dX9_forget_0 : decode cX9_forget 0 = .ok (.aload_n 0, 1) := by decide +kernel
theorem dX9_forget_1 : decode cX9_forget 1 = .ok (.getfield 139, 3) := by decide +kernel
theorem dX9_forget_4 : decode cX9_forget 4 = .ok (.istore_n 1, 1) := by decide +kernel
theorem dX9_forget_5 : decode cX9_forget 5 = .ok (.aload_n 0, 1) := by decide +kernel
theorem dX9_forget_6 : decode cX9_forget 6 = .ok (.iconst 0, 1) := by decide +kernel
theorem dX9_forget_7 : decode cX9_forget 7 = .ok (.putfield 139, 3) := by decide +kernel
theorem dX9_forget_10 : decode cX9_forget 10 = .ok (.iload_n 1, 1) := by decide +kernel
theorem dX9_forget_11 : decode cX9_forget 11 = .ok (.ireturn, 1) := by decide +kernel
theorem dX9_fraction_0 : decode cX9_fraction 0 = .ok (.lload_n 0, 1) := by decide +kernel
theorem dX9_fraction_1 : decode cX9_fraction 1 = .ok (.lstore 5, 2) := by decide +kernel
theorem dX9_fraction_3 : decode cX9_fraction 3 = .ok (.lload_n 2, 1) := by decide +kernel
theorem dX9_fraction_4 : decode cX9_fraction 4 = .ok (.lstore 7, 2) := by decide +kernel
theorem dX9_fraction_6 : decode cX9_fraction 6 = .ok (.lload 7, 2) := by decide +kernel
theorem dX9_fraction_8 : decode cX9_fraction 8 = .ok (.lconst 0, 1) := by decide +kernel
theorem dX9_fraction_9 : decode cX9_fraction 9 = .ok (.lcmp, 1) := by decide +kernel
theorem dX9_fraction_10 : decode cX9_fraction 10 = .ok (.ifCond .eq 21, 3) := by decide +kernel
theorem dX9_fraction_13 : decode cX9_fraction 13 = .ok (.lload 5, 2) := by decide +kernel
theorem dX9_fraction_15 : decode cX9_fraction 15 = .ok (.lload 7, 2) := by decide +kernel
theorem dX9_fraction_17 : decode cX9_fraction 17 = .ok (.lrem, 1) := by decide +kernel
theorem dX9_fraction_18 : decode cX9_fraction 18 = .ok (.lstore 9, 2) := by decide +kernel
theorem dX9_fraction_20 : decode cX9_fraction 20 = .ok (.lload 7, 2) := by decide +kernel
theorem dX9_fraction_22 : decode cX9_fraction 22 = .ok (.lstore 5, 2) := by decide +kernel
theorem dX9_fraction_24 : decode cX9_fraction 24 = .ok (.lload 9, 2) := by decide +kernel
theorem dX9_fraction_26 : decode cX9_fraction 26 = .ok (.lstore 7, 2) := by decide +kernel
theorem dX9_fraction_28 : decode cX9_fraction 28 = .ok (.goto (-22), 3) := by decide +kernel
theorem dX9_fraction_31 : decode cX9_fraction 31 = .ok (.iload 4, 2) := by decide +kernel
theorem dX9_fraction_33 : decode cX9_fraction 33 = .ok (.ifCond .ne 7, 3) := by decide +kernel
theorem dX9_fraction_36 : decode cX9_fraction 36 = .ok (.lload_n 0, 1) := by decide +kernel
theorem dX9_fraction_37 : decode cX9_fraction 37 = .ok (.goto 4, 3) := by decide +kernel
theorem dX9_fraction_40 : decode cX9_fraction 40 = .ok (.lload_n 2, 1) := by decide +kernel
theorem dX9_fraction_41 : decode cX9_fraction 41 = .ok (.lload 5, 2) := by decide +kernel
theorem dX9_fraction_43 : decode cX9_fraction 43 = .ok (.ldiv, 1) := by decide +kernel
theorem dX9_fraction_44 : decode cX9_fraction 44 = .ok (.l2i, 1) := by decide +kernel
theorem dX9_fraction_45 : decode cX9_fraction 45 = .ok (.ireturn, 1) := by decide +kernel
theorem dX9_goesUp_0 : decode cX9_goesUp 0 = .ok (.aload_n 0, 1) := by decide +kernel
theorem dX9_goesUp_1 : decode cX9_goesUp 1 = .ok (.invokevirtual 185, 3) := by decide +kernel
theorem dX9_goesUp_4 : decode cX9_goesUp 4 = .ok (.aload_n 0, 1) := by decide +kernel
theorem dX9_goesUp_5 : decode cX9_goesUp 5 = .ok (.getfield 37, 3) := by decide +kernel
theorem dX9_goesUp_8 : decode cX9_goesUp 8 = .ok (.invokestatic 116, 3) := by decide +kernel
theorem dX9_goesUp_11 : decode cX9_goesUp 11 = .ok (.istore_n 1, 1) := by decide +kernel
theorem dX9_goesUp_12 : decode cX9_goesUp 12 = .ok (.iconst 0, 1) := by decide +kernel
theorem dX9_goesUp_13 : decode cX9_goesUp 13 = .ok (.istore_n 2, 1) := by decide +kernel
theorem dX9_goesUp_14 : decode cX9_goesUp 14 = .ok (.iload_n 2, 1) := by decide +kernel
theorem dX9_goesUp_15 : decode cX9_goesUp 15 = .ok (.bipush 120, 2) := by decide +kernel
theorem dX9_goesUp_17 : decode cX9_goesUp 17 = .ok (.if_icmp .ge 16, 3) := by decide +kernel
theorem dX9_goesUp_20 : decode cX9_goesUp 20 = .ok (.aload_n 0, 1) := by decide +kernel
theorem dX9_goesUp_21 : decode cX9_goesUp 21 = .ok (.getfield 55, 3) := by decide +kernel
theorem dX9_goesUp_24 : decode cX9_goesUp 24 = .ok (.iload_n 2, 1) := by decide +kernel
theorem dX9_goesUp_25 : decode cX9_goesUp 25 = .ok (.iconst 0, 1) := by decide +kernel
theorem dX9_goesUp_26 : decode cX9_goesUp 26 = .ok (.iastore, 1) := by decide +kernel
theorem dX9_goesUp_27 : decode cX9_goesUp 27 = .ok (.iinc 2 1, 3) := by decide +kernel
theorem dX9_goesUp_30 : decode cX9_goesUp 30 = .ok (.goto (-16), 3) := by decide +kernel
theorem dX9_goesUp_33 : decode cX9_goesUp 33 = .ok (.iconst 0, 1) := by decide +kernel
theorem dX9_goesUp_34 : decode cX9_goesUp 34 = .ok (.istore_n 2, 1) := by decide +kernel
theorem dX9_goesUp_35 : decode cX9_goesUp 35 = .ok (.iload_n 2, 1) := by decide +kernel
theorem dX9_goesUp_36 : decode cX9_goesUp 36 = .ok (.iload_n 1, 1) := by decide +kernel
theorem dX9_goesUp_37 : decode cX9_goesUp 37 = .ok (.if_icmp .ge 120, 3) := by decide +kernel
theorem dX9_goesUp_40 : decode cX9_goesUp 40 = .ok (.aload_n 0, 1) := by decide +kernel
theorem dX9_goesUp_41 : decode cX9_goesUp 41 = .ok (.getfield 182, 3) := by decide +kernel
theorem dX9_goesUp_44 : decode cX9_goesUp 44 = .ok (.bipush (-4), 2) := by decide +kernel
theorem dX9_goesUp_46 : decode cX9_goesUp 46 = .ok (.if_icmp .ne 111, 3) := by decide +kernel
theorem dX9_goesUp_49 : decode cX9_goesUp 49 = .ok (.aload_n 0, 1) := by decide +kernel
theorem dX9_goesUp_50 : decode cX9_goesUp 50 = .ok (.getfield 37, 3) := by decide +kernel
theorem dX9_goesUp_53 : decode cX9_goesUp 53 = .ok (.iload_n 2, 1) := by decide +kernel
theorem dX9_goesUp_54 : decode cX9_goesUp 54 = .ok (.invokestatic 188, 3) := by decide +kernel
theorem dX9_goesUp_57 : decode cX9_goesUp 57 = .ok (.istore_n 3, 1) := by decide +kernel
theorem dX9_goesUp_58 : decode cX9_goesUp 58 = .ok (.iconst 1, 1) := by decide +kernel
theorem dX9_goesUp_59 : decode cX9_goesUp 59 = .ok (.aload_n 0, 1) := by decide +kernel
theorem dX9_goesUp_60 : decode cX9_goesUp 60 = .ok (.getfield 37, 3) := by decide +kernel
theorem dX9_goesUp_63 : decode cX9_goesUp 63 = .ok (.bipush 10, 2) := by decide +kernel
theorem dX9_goesUp_65 : decode cX9_goesUp 65 = .ok (.iload_n 3, 1) := by decide +kernel
theorem dX9_goesUp_66 : decode cX9_goesUp 66 = .ok (.iadd, 1) := by decide +kernel
theorem dX9_goesUp_67 : decode cX9_goesUp 67 = .ok (.iaload, 1) := by decide +kernel
theorem dX9_goesUp_68 : decode cX9_goesUp 68 = .ok (.iadd, 1) := by decide +kernel
theorem dX9_goesUp_69 : decode cX9_goesUp 69 = .ok (.aload_n 0, 1) := by decide +kernel
theorem dX9_goesUp_70 : decode cX9_goesUp 70 = .ok (.iload_n 2, 1) := by decide +kernel
theorem dX9_goesUp_71 : decode cX9_goesUp 71 = .ok (.invokevirtual 192, 3) := by decide +kernel
theorem dX9_goesUp_74 : decode cX9_goesUp 74 = .ok (.iadd, 1) := by decide +kernel
theorem dX9_goesUp_75 : decode cX9_goesUp 75 = .ok (.istore 4, 2) := by decide +kernel
theorem dX9_goesUp_77 : decode cX9_goesUp 77 = .ok (.aload_n 0, 1) := by decide +kernel
theorem dX9_goesUp_78 : decode cX9_goesUp 78 = .ok (.aload_n 0, 1) := by decide +kernel
theorem dX9_goesUp_79 : decode cX9_goesUp 79 = .ok (.iload_n 2, 1) := by decide +kernel
theorem dX9_goesUp_80 : decode cX9_goesUp 80 = .ok (.invokevirtual 195, 3) := by decide +kernel
theorem dX9_goesUp_83 : decode cX9_goesUp 83 = .ok (.invokevirtual 198, 3) := by decide +kernel
theorem dX9_goesUp_86 : decode cX9_goesUp 86 = .ok (.istore 5, 2) := by decide +kernel
theorem dX9_goesUp_88 : decode cX9_goesUp 88 = .ok (.aload_n 0, 1) := by decide +kernel
theorem dX9_goesUp_89 : decode cX9_goesUp 89 = .ok (.iload_n 2, 1) := by decide +kernel
theorem dX9_goesUp_90 : decode cX9_goesUp 90 = .ok (.iload 5, 2) := by decide +kernel
theorem dX9_goesUp_92 : decode cX9_goesUp 92 = .ok (.iload 4, 2) := by decide +kernel
theorem dX9_goesUp_94 : decode cX9_goesUp 94 = .ok (.invokevirtual 201, 3) := by decide +kernel
theorem dX9_goesUp_97 : decode cX9_goesUp 97 = .ok (.istore 6, 2) := by decide +kernel
theorem dX9_goesUp_99 : decode cX9_goesUp 99 = .ok (.iload 6, 2) := by decide +kernel
theorem dX9_goesUp_101 : decode cX9_goesUp 101 = .ok (.invokestatic 174, 3) := by decide +kernel
theorem dX9_goesUp_104 : decode cX9_goesUp 104 = .ok (.aload_n 0, 1) := by decide +kernel
theorem dX9_goesUp_105 : decode cX9_goesUp 105 = .ok (.getfield 37, 3) := by decide +kernel
theorem dX9_goesUp_108 : decode cX9_goesUp 108 = .ok (.iconst 2, 1) := by decide +kernel
theorem dX9_goesUp_109 : decode cX9_goesUp 109 = .ok (.iaload, 1) := by decide +kernel
theorem dX9_goesUp_110 : decode cX9_goesUp 110 = .ok (.if_icmp .ge 11, 3) := by decide +kernel
theorem dX9_goesUp_113 : decode cX9_goesUp 113 = .ok (.aload_n 0, 1) := by decide +kernel
theorem dX9_goesUp_114 : decode cX9_goesUp 114 = .ok (.iload_n 2, 1) := by decide +kernel
theorem dX9_goesUp_115 : decode cX9_goesUp 115 = .ok (.putfield 182, 3) := by decide +kernel
theorem dX9_goesUp_118 : decode cX9_goesUp 118 = .ok (.goto 33, 3) := by decide +kernel
theorem dX9_goesUp_121 : decode cX9_goesUp 121 = .ok (.aload_n 0, 1) := by decide +kernel
theorem dX9_goesUp_122 : decode cX9_goesUp 122 = .ok (.getfield 55, 3) := by decide +kernel
theorem dX9_goesUp_125 : decode cX9_goesUp 125 = .ok (.iload_n 2, 1) := by decide +kernel
theorem dX9_goesUp_126 : decode cX9_goesUp 126 = .ok (.iload 6, 2) := by decide +kernel
theorem dX9_goesUp_128 : decode cX9_goesUp 128 = .ok (.iastore, 1) := by decide +kernel
theorem dX9_goesUp_129 : decode cX9_goesUp 129 = .ok (.aload_n 0, 1) := by decide +kernel
theorem dX9_goesUp_130 : decode cX9_goesUp 130 = .ok (.iload 6, 2) := by decide +kernel
theorem dX9_goesUp_132 : decode cX9_goesUp 132 = .ok (.iload 5, 2) := by decide +kernel
theorem dX9_goesUp_134 : decode cX9_goesUp 134 = .ok (.iload 4, 2) := by decide +kernel
theorem dX9_goesUp_136 : decode cX9_goesUp 136 = .ok (.bipush 60, 2) := by decide +kernel
theorem dX9_goesUp_138 : decode cX9_goesUp 138 = .ok (.aload_n 0, 1) := by decide +kernel
theorem dX9_goesUp_139 : decode cX9_goesUp 139 = .ok (.getfield 37, 3) := by decide +kernel
theorem dX9_goesUp_142 : decode cX9_goesUp 142 = .ok (.bipush 16, 2) := by decide +kernel
theorem dX9_goesUp_144 : decode cX9_goesUp 144 = .ok (.iload_n 3, 1) := by decide +kernel
theorem dX9_goesUp_145 : decode cX9_goesUp 145 = .ok (.iadd, 1) := by decide +kernel
theorem dX9_goesUp_146 : decode cX9_goesUp 146 = .ok (.iaload, 1) := by decide +kernel
theorem dX9_goesUp_147 : decode cX9_goesUp 147 = .ok (.imul, 1) := by decide +kernel
theorem dX9_goesUp_148 : decode cX9_goesUp 148 = .ok (.invokevirtual 205, 3) := by decide +kernel
theorem dX9_goesUp_151 : decode cX9_goesUp 151 = .ok (.iinc 2 1, 3) := by decide +kernel
theorem dX9_goesUp_154 : decode cX9_goesUp 154 = .ok (.goto (-119), 3) := by decide +kernel
theorem dX9_goesUp_157 : decode cX9_goesUp 157 = .ok (.iconst 0, 1) := by decide +kernel
theorem dX9_goesUp_158 : decode cX9_goesUp 158 = .ok (.istore_n 2, 1) := by decide +kernel
theorem dX9_goesUp_159 : decode cX9_goesUp 159 = .ok (.iload_n 2, 1) := by decide +kernel
theorem dX9_goesUp_160 : decode cX9_goesUp 160 = .ok (.bipush 6, 2) := by decide +kernel
theorem dX9_goesUp_162 : decode cX9_goesUp 162 = .ok (.if_icmp .ge 47, 3) := by decide +kernel
theorem dX9_goesUp_165 : decode cX9_goesUp 165 = .ok (.aload_n 0, 1) := by decide +kernel
theorem dX9_goesUp_166 : decode cX9_goesUp 166 = .ok (.getfield 46, 3) := by decide +kernel
theorem dX9_goesUp_169 : decode cX9_goesUp 169 = .ok (.iload_n 2, 1) := by decide +kernel
theorem dX9_goesUp_170 : decode cX9_goesUp 170 = .ok (.aload_n 0, 1) := by decide +kernel
theorem dX9_goesUp_171 : decode cX9_goesUp 171 = .ok (.getfield 49, 3) := by decide +kernel
theorem dX9_goesUp_174 : decode cX9_goesUp 174 = .ok (.iload_n 2, 1) := by decide +kernel
theorem dX9_goesUp_175 : decode cX9_goesUp 175 = .ok (.iaload, 1) := by decide +kernel
theorem dX9_goesUp_176 : decode cX9_goesUp 176 = .ok (.ifCond .ge 16, 3) := by decide +kernel
theorem dX9_goesUp_179 : decode cX9_goesUp 179 = .ok (.aload_n 0, 1) := by decide +kernel
theorem dX9_goesUp_180 : decode cX9_goesUp 180 = .ok (.getfield 37, 3) := by decide +kernel
theorem dX9_goesUp_183 : decode cX9_goesUp 183 = .ok (.bipush 28, 2) := by decide +kernel
theorem dX9_goesUp_185 : decode cX9_goesUp 185 = .ok (.iload_n 2, 1) := by decide +kernel
theorem dX9_goesUp_186 : decode cX9_goesUp 186 = .ok (.iadd, 1) := by decide +kernel
theorem dX9_goesUp_187 : decode cX9_goesUp 187 = .ok (.iaload, 1) := by decide +kernel
theorem dX9_goesUp_188 : decode cX9_goesUp 188 = .ok (.iconst 2, 1) := by decide +kernel
theorem dX9_goesUp_189 : decode cX9_goesUp 189 = .ok (.if_icmp .ne 7, 3) := by decide +kernel
theorem dX9_goesUp_192 : decode cX9_goesUp 192 = .ok (.iconst 0, 1) := by decide +kernel
theorem dX9_goesUp_193 : decode cX9_goesUp 193 = .ok (.goto 9, 3) := by decide +kernel
theorem dX9_goesUp_196 : decode cX9_goesUp 196 = .ok (.aload_n 0, 1) := by decide +kernel
theorem dX9_goesUp_197 : decode cX9_goesUp 197 = .ok (.getfield 46, 3) := by decide +kernel
theorem dX9_goesUp_200 : decode cX9_goesUp 200 = .ok (.iload_n 2, 1) := by decide +kernel
theorem dX9_goesUp_201 : decode cX9_goesUp 201 = .ok (.iaload, 1) := by decide +kernel
theorem dX9_goesUp_202 : decode cX9_goesUp 202 = .ok (.iastore, 1) := by decide +kernel
theorem dX9_goesUp_203 : decode cX9_goesUp 203 = .ok (.iinc 2 1, 3) := by decide +kernel
theorem dX9_goesUp_206 : decode cX9_goesUp 206 = .ok (.goto (-47), 3) := by decide +kernel
theorem dX9_goesUp_209 : decode cX9_goesUp 209 = .ok (.return_, 1) := by decide +kernel
theorem dX9_has_0 : decode cX9_has 0 = .ok (.iload_n 0, 1) := by decide +kernel
theorem dX9_has_1 : decode cX9_has 1 = .ok (.iload_n 1, 1) := by decide +kernel
theorem dX9_has_2 : decode cX9_has 2 = .ok (.ishr, 1) := by decide +kernel
theorem dX9_has_3 : decode cX9_has 3 = .ok (.iconst 1, 1) := by decide +kernel
theorem dX9_has_4 : decode cX9_has 4 = .ok (.iand, 1) := by decide +kernel
theorem dX9_has_5 : decode cX9_has 5 = .ok (.iconst 1, 1) := by decide +kernel
theorem dX9_has_6 : decode cX9_has 6 = .ok (.if_icmp .ne 7, 3) := by decide +kernel
theorem dX9_has_9 : decode cX9_has 9 = .ok (.iconst 1, 1) := by decide +kernel
theorem dX9_has_10 : decode cX9_has 10 = .ok (.goto 4, 3) := by decide +kernel
theorem dX9_has_13 : decode cX9_has 13 = .ok (.iconst 0, 1) := by decide +kernel
theorem dX9_has_14 : decode cX9_has 14 = .ok (.ireturn, 1) := by decide +kernel
theorem dX9_heir_0 : decode cX9_heir 0 = .ok (.iload_n 1, 1) := by decide +kernel
theorem dX9_heir_1 : decode cX9_heir 1 = .ok (.i2l, 1) := by decide +kernel
theorem dX9_heir_2 : decode cX9_heir 2 = .ok (.lconst 0, 1) := by decide +kernel
theorem dX9_heir_3 : decode cX9_heir 3 = .ok (.ldc2_w 106, 3) := by decide +kernel
theorem dX9_heir_6 : decode cX9_heir 6 = .ok (.invokestatic 87, 3) := by decide +kernel
theorem dX9_heir_9 : decode cX9_heir 9 = .ok (.ifCond .ne 5, 3) := by decide +kernel
theorem dX9_heir_12 : decode cX9_heir 12 = .ok (.iconst (-1), 1) := by decide +kernel
theorem dX9_heir_13 : decode cX9_heir 13 = .ok (.ireturn, 1) := by decide +kernel
theorem dX9_heir_14 : decode cX9_heir 14 = .ok (.aload_n 0, 1) := by decide +kernel
theorem dX9_heir_15 : decode cX9_heir 15 = .ok (.invokevirtual 214, 3) := by decide +kernel
theorem dX9_heir_18 : decode cX9_heir 18 = .ok (.aload_n 0, 1) := by decide +kernel
theorem dX9_heir_19 : decode cX9_heir 19 = .ok (.invokevirtual 217, 3) := by decide +kernel
theorem dX9_heir_22 : decode cX9_heir 22 = .ok (.aload_n 0, 1) := by decide +kernel
theorem dX9_heir_23 : decode cX9_heir 23 = .ok (.iload_n 1, 1) := by decide +kernel
theorem dX9_heir_24 : decode cX9_heir 24 = .ok (.invokevirtual 266, 3) := by decide +kernel
theorem dX9_heir_27 : decode cX9_heir 27 = .ok (.ireturn, 1) := by decide +kernel
theorem dX9_heirBy_0 : decode cX9_heirBy 0 = .ok (.iconst 0, 1) := by decide +kernel
theorem dX9_heirBy_1 : decode cX9_heirBy 1 = .ok (.istore_n 2, 1) := by decide +kernel
theorem dX9_heirBy_2 : decode cX9_heirBy 2 = .ok (.iconst (-1), 1) := by decide +kernel
theorem dX9_heirBy_3 : decode cX9_heirBy 3 = .ok (.istore_n 3, 1) := by decide +kernel
theorem dX9_heirBy_4 : decode cX9_heirBy 4 = .ok (.iconst 0, 1) := by decide +kernel
theorem dX9_heirBy_5 : decode cX9_heirBy 5 = .ok (.istore 4, 2) := by decide +kernel
theorem dX9_heirBy_7 : decode cX9_heirBy 7 = .ok (.iload 4, 2) := by decide +kernel
theorem dX9_heirBy_9 : decode cX9_heirBy 9 = .ok (.aload_n 0, 1) := by decide +kernel
theorem dX9_heirBy_10 : decode cX9_heirBy 10 = .ok (.getfield 7, 3) := by decide +kernel
theorem dX9_heirBy_13 : decode cX9_heirBy 13 = .ok (.iconst 1, 1) := by decide +kernel
theorem dX9_heirBy_14 : decode cX9_heirBy 14 = .ok (.iaload, 1) := by decide +kernel
theorem dX9_heirBy_15 : decode cX9_heirBy 15 = .ok (.if_icmp .ge 84, 3) := by decide +kernel
theorem dX9_heirBy_18 : decode cX9_heirBy 18 = .ok (.iload_n 1, 1) := by decide +kernel
theorem dX9_heirBy_19 : decode cX9_heirBy 19 = .ok (.ifCond .ne 13, 3) := by decide +kernel
theorem dX9_heirBy_22 : decode cX9_heirBy 22 = .ok (.aload_n 0, 1) := by decide +kernel
theorem dX9_heirBy_23 : decode cX9_heirBy 23 = .ok (.getfield 46, 3) := by decide +kernel
theorem dX9_heirBy_26 : decode cX9_heirBy 26 = .ok (.iload 4, 2) := by decide +kernel
theorem dX9_heirBy_28 : decode cX9_heirBy 28 = .ok (.iaload, 1) := by decide +kernel
theorem dX9_heirBy_29 : decode cX9_heirBy 29 = .ok (.goto 36, 3) := by decide +kernel
theorem dX9_heirBy_32 : decode cX9_heirBy 32 = .ok (.iload_n 1, 1) := by decide +kernel
theorem dX9_heirBy_33 : decode cX9_heirBy 33 = .ok (.iconst 1, 1) := by decide +kernel
theorem dX9_heirBy_34 : decode cX9_heirBy 34 = .ok (.if_icmp .ne 13, 3) := by decide +kernel
theorem dX9_heirBy_37 : decode cX9_heirBy 37 = .ok (.aload_n 0, 1) := by decide +kernel
theorem dX9_heirBy_38 : decode cX9_heirBy 38 = .ok (.getfield 52, 3) := by decide +kernel
theorem dX9_heirBy_41 : decode cX9_heirBy 41 = .ok (.iload 4, 2) := by decide +kernel
theorem dX9_heirBy_43 : decode cX9_heirBy 43 = .ok (.iaload, 1) := by decide +kernel
theorem dX9_heirBy_44 : decode cX9_heirBy 44 = .ok (.goto 21, 3) := by decide +kernel
theorem dX9_heirBy_47 : decode cX9_heirBy 47 = .ok (.aload_n 0, 1) := by decide +kernel
theorem dX9_heirBy_48 : decode cX9_heirBy 48 = .ok (.getfield 7, 3) := by decide +kernel
theorem dX9_heirBy_51 : decode cX9_heirBy 51 = .ok (.bipush 22, 2) := by decide +kernel
theorem dX9_heirBy_53 : decode cX9_heirBy 53 = .ok (.iload 4, 2) := by decide +kernel
theorem dX9_heirBy_55 : decode cX9_heirBy 55 = .ok (.iadd, 1) := by decide +kernel
theorem dX9_heirBy_56 : decode cX9_heirBy 56 = .ok (.iaload, 1) := by decide +kernel
theorem dX9_heirBy_57 : decode cX9_heirBy 57 = .ok (.aload_n 0, 1) := by decide +kernel
theorem dX9_heirBy_58 : decode cX9_heirBy 58 = .ok (.getfield 43, 3) := by decide +kernel
theorem dX9_heirBy_61 : decode cX9_heirBy 61 = .ok (.iload 4, 2) := by decide +kernel
theorem dX9_heirBy_63 : decode cX9_heirBy 63 = .ok (.iaload, 1) := by decide +kernel
theorem dX9_heirBy_64 : decode cX9_heirBy 64 = .ok (.isub, 1) := by decide +kernel
theorem dX9_heirBy_65 : decode cX9_heirBy 65 = .ok (.istore 5, 2) := by decide +kernel
theorem dX9_heirBy_67 : decode cX9_heirBy 67 = .ok (.iload 5, 2) := by decide +kernel
theorem dX9_heirBy_69 : decode cX9_heirBy 69 = .ok (.iload_n 3, 1) := by decide +kernel
theorem dX9_heirBy_70 : decode cX9_heirBy 70 = .ok (.if_icmp .le 8, 3) := by decide +kernel
theorem dX9_heirBy_73 : decode cX9_heirBy 73 = .ok (.iload 4, 2) := by decide +kernel
theorem dX9_heirBy_75 : decode cX9_heirBy 75 = .ok (.goto 4, 3) := by decide +kernel
theorem dX9_heirBy_78 : decode cX9_heirBy 78 = .ok (.iload_n 2, 1) := by decide +kernel
theorem dX9_heirBy_79 : decode cX9_heirBy 79 = .ok (.istore_n 2, 1) := by decide +kernel
theorem dX9_heirBy_80 : decode cX9_heirBy 80 = .ok (.iload 5, 2) := by decide +kernel
theorem dX9_heirBy_82 : decode cX9_heirBy 82 = .ok (.iload_n 3, 1) := by decide +kernel
theorem dX9_heirBy_83 : decode cX9_heirBy 83 = .ok (.if_icmp .le 8, 3) := by decide +kernel
theorem dX9_heirBy_86 : decode cX9_heirBy 86 = .ok (.iload 5, 2) := by decide +kernel
theorem dX9_heirBy_88 : decode cX9_heirBy 88 = .ok (.goto 4, 3) := by decide +kernel
theorem dX9_heirBy_91 : decode cX9_heirBy 91 = .ok (.iload_n 3, 1) := by decide +kernel
theorem dX9_heirBy_92 : decode cX9_heirBy 92 = .ok (.istore_n 3, 1) := by decide +kernel
theorem dX9_heirBy_93 : decode cX9_heirBy 93 = .ok (.iinc 4 1, 3) := by decide +kernel
theorem dX9_heirBy_96 : decode cX9_heirBy 96 = .ok (.goto (-89), 3) := by decide +kernel
theorem dX9_heirBy_99 : decode cX9_heirBy 99 = .ok (.iload_n 2, 1) := by decide +kernel
theorem dX9_heirBy_100 : decode cX9_heirBy 100 = .ok (.ireturn, 1) := by decide +kernel
theorem dX9_in_0 : decode cX9_in 0 = .ok (.lload_n 0, 1) := by decide +kernel
theorem dX9_in_1 : decode cX9_in 1 = .ok (.lload_n 2, 1) := by decide +kernel
theorem dX9_in_2 : decode cX9_in 2 = .ok (.lcmp, 1) := by decide +kernel
theorem dX9_in_3 : decode cX9_in 3 = .ok (.ifCond .lt 14, 3) := by decide +kernel
theorem dX9_in_6 : decode cX9_in 6 = .ok (.lload_n 0, 1) := by decide +kernel
theorem dX9_in_7 : decode cX9_in 7 = .ok (.lload 4, 2) := by decide +kernel
theorem dX9_in_9 : decode cX9_in 9 = .ok (.lcmp, 1) := by decide +kernel
theorem dX9_in_10 : decode cX9_in 10 = .ok (.ifCond .gt 7, 3) := by decide +kernel
theorem dX9_in_13 : decode cX9_in 13 = .ok (.iconst 1, 1) := by decide +kernel
theorem dX9_in_14 : decode cX9_in 14 = .ok (.goto 4, 3) := by decide +kernel
theorem dX9_in_17 : decode cX9_in 17 = .ok (.iconst 0, 1) := by decide +kernel
theorem dX9_in_18 : decode cX9_in 18 = .ok (.ireturn, 1) := by decide +kernel
theorem dX9_init_0 : decode cX9_init 0 = .ok (.aload_n 0, 1) := by decide +kernel
theorem dX9_init_1 : decode cX9_init 1 = .ok (.invokespecial 1, 3) := by decide +kernel
theorem dX9_init_4 : decode cX9_init 4 = .ok (.aload_n 0, 1) := by decide +kernel
theorem dX9_init_5 : decode cX9_init 5 = .ok (.bipush 34, 2) := by decide +kernel
theorem dX9_init_7 : decode cX9_init 7 = .ok (.newarray .int, 2) := by decide +kernel
theorem dX9_init_9 : decode cX9_init 9 = .ok (.putfield 7, 3) := by decide +kernel
theorem dX9_init_12 : decode cX9_init 12 = .ok (.aload_n 0, 1) := by decide +kernel
theorem dX9_init_13 : decode cX9_init 13 = .ok (.bipush 34, 2) := by decide +kernel
theorem dX9_init_15 : decode cX9_init 15 = .ok (.newarray .int, 2) := by decide +kernel
theorem dX9_init_17 : decode cX9_init 17 = .ok (.putfield 13, 3) := by decide +kernel
theorem dX9_init_20 : decode cX9_init 20 = .ok (.aload_n 0, 1) := by decide +kernel
theorem dX9_init_21 : decode cX9_init 21 = .ok (.bipush 31, 2) := by decide +kernel
theorem dX9_init_23 : decode cX9_init 23 = .ok (.newarray .int, 2) := by decide +kernel
theorem dX9_init_25 : decode cX9_init 25 = .ok (.putfield 16, 3) := by decide +kernel
theorem dX9_init_28 : decode cX9_init 28 = .ok (.aload_n 0, 1) := by decide +kernel
theorem dX9_init_29 : decode cX9_init 29 = .ok (.bipush 31, 2) := by decide +kernel
theorem dX9_init_31 : decode cX9_init 31 = .ok (.newarray .int, 2) := by decide +kernel
theorem dX9_init_33 : decode cX9_init 33 = .ok (.putfield 19, 3) := by decide +kernel
theorem dX9_init_36 : decode cX9_init 36 = .ok (.aload_n 0, 1) := by decide +kernel
theorem dX9_init_37 : decode cX9_init 37 = .ok (.sipush 248, 3) := by decide +kernel
theorem dX9_init_40 : decode cX9_init 40 = .ok (.newarray .int, 2) := by decide +kernel
theorem dX9_init_42 : decode cX9_init 42 = .ok (.putfield 22, 3) := by decide +kernel
theorem dX9_init_45 : decode cX9_init 45 = .ok (.aload_n 0, 1) := by decide +kernel
theorem dX9_init_46 : decode cX9_init 46 = .ok (.bipush 62, 2) := by decide +kernel
theorem dX9_init_48 : decode cX9_init 48 = .ok (.newarray .int, 2) := by decide +kernel
theorem dX9_init_50 : decode cX9_init 50 = .ok (.putfield 25, 3) := by decide +kernel
theorem dX9_init_53 : decode cX9_init 53 = .ok (.aload_n 0, 1) := by decide +kernel
theorem dX9_init_54 : decode cX9_init 54 = .ok (.sipush 200, 3) := by decide +kernel
theorem dX9_init_57 : decode cX9_init 57 = .ok (.newarray .int, 2) := by decide +kernel
theorem dX9_init_59 : decode cX9_init 59 = .ok (.putfield 28, 3) := by decide +kernel
theorem dX9_init_62 : decode cX9_init 62 = .ok (.aload_n 0, 1) := by decide +kernel
theorem dX9_init_63 : decode cX9_init 63 = .ok (.bipush 16, 2) := by decide +kernel
theorem dX9_init_65 : decode cX9_init 65 = .ok (.newarray .int, 2) := by decide +kernel
theorem dX9_init_67 : decode cX9_init 67 = .ok (.putfield 31, 3) := by decide +kernel
theorem dX9_init_70 : decode cX9_init 70 = .ok (.aload_n 0, 1) := by decide +kernel
theorem dX9_init_71 : decode cX9_init 71 = .ok (.iconst 3, 1) := by decide +kernel
theorem dX9_init_72 : decode cX9_init 72 = .ok (.newarray .int, 2) := by decide +kernel
theorem dX9_init_74 : decode cX9_init 74 = .ok (.putfield 34, 3) := by decide +kernel
theorem dX9_init_77 : decode cX9_init 77 = .ok (.aload_n 0, 1) := by decide +kernel
theorem dX9_init_78 : decode cX9_init 78 = .ok (.bipush 34, 2) := by decide +kernel
theorem dX9_init_80 : decode cX9_init 80 = .ok (.newarray .int, 2) := by decide +kernel
theorem dX9_init_82 : decode cX9_init 82 = .ok (.putfield 37, 3) := by decide +kernel
theorem dX9_init_85 : decode cX9_init 85 = .ok (.aload_n 0, 1) := by decide +kernel
theorem dX9_init_86 : decode cX9_init 86 = .ok (.bipush 31, 2) := by decide +kernel
theorem dX9_init_88 : decode cX9_init 88 = .ok (.newarray .int, 2) := by decide +kernel
theorem dX9_init_90 : decode cX9_init 90 = .ok (.putfield 40, 3) := by decide +kernel
theorem dX9_init_93 : decode cX9_init 93 = .ok (.aload_n 0, 1) := by decide +kernel
theorem dX9_init_94 : decode cX9_init 94 = .ok (.bipush 6, 2) := by decide +kernel
theorem dX9_init_96 : decode cX9_init 96 = .ok (.newarray .int, 2) := by decide +kernel
theorem dX9_init_98 : decode cX9_init 98 = .ok (.putfield 43, 3) := by decide +kernel
theorem dX9_init_101 : decode cX9_init 101 = .ok (.aload_n 0, 1) := by decide +kernel
theorem dX9_init_102 : decode cX9_init 102 = .ok (.bipush 6, 2) := by decide +kernel
theorem dX9_init_104 : decode cX9_init 104 = .ok (.newarray .int, 2) := by decide +kernel
theorem dX9_init_106 : decode cX9_init 106 = .ok (.putfield 46, 3) := by decide +kernel
theorem dX9_init_109 : decode cX9_init 109 = .ok (.aload_n 0, 1) := by decide +kernel
theorem dX9_init_110 : decode cX9_init 110 = .ok (.bipush 6, 2) := by decide +kernel
theorem dX9_init_112 : decode cX9_init 112 = .ok (.newarray .int, 2) := by decide +kernel
theorem dX9_init_114 : decode cX9_init 114 = .ok (.putfield 49, 3) := by decide +kernel
theorem dX9_init_117 : decode cX9_init 117 = .ok (.aload_n 0, 1) := by decide +kernel
theorem dX9_init_118 : decode cX9_init 118 = .ok (.bipush 6, 2) := by decide +kernel
theorem dX9_init_120 : decode cX9_init 120 = .ok (.newarray .int, 2) := by decide +kernel
theorem dX9_init_122 : decode cX9_init 122 = .ok (.putfield 52, 3) := by decide +kernel
theorem dX9_init_125 : decode cX9_init 125 = .ok (.aload_n 0, 1) := by decide +kernel
theorem dX9_init_126 : decode cX9_init 126 = .ok (.bipush 120, 2) := by decide +kernel
theorem dX9_init_128 : decode cX9_init 128 = .ok (.newarray .int, 2) := by decide +kernel
theorem dX9_init_130 : decode cX9_init 130 = .ok (.putfield 55, 3) := by decide +kernel
theorem dX9_init_133 : decode cX9_init 133 = .ok (.aload_n 0, 1) := by decide +kernel
theorem dX9_init_134 : decode cX9_init 134 = .ok (.bipush 6, 2) := by decide +kernel
theorem dX9_init_136 : decode cX9_init 136 = .ok (.newarray .int, 2) := by decide +kernel
theorem dX9_init_138 : decode cX9_init 138 = .ok (.putfield 58, 3) := by decide +kernel
theorem dX9_init_141 : decode cX9_init 141 = .ok (.aload_n 0, 1) := by decide +kernel
theorem dX9_init_142 : decode cX9_init 142 = .ok (.bipush 6, 2) := by decide +kernel
theorem dX9_init_144 : decode cX9_init 144 = .ok (.newarray .int, 2) := by decide +kernel
theorem dX9_init_146 : decode cX9_init 146 = .ok (.putfield 61, 3) := by decide +kernel
theorem dX9_init_149 : decode cX9_init 149 = .ok (.aload_n 0, 1) := by decide +kernel
theorem dX9_init_150 : decode cX9_init 150 = .ok (.bipush 36, 2) := by decide +kernel
theorem dX9_init_152 : decode cX9_init 152 = .ok (.newarray .int, 2) := by decide +kernel
theorem dX9_init_154 : decode cX9_init 154 = .ok (.putfield 64, 3) := by decide +kernel
theorem dX9_init_157 : decode cX9_init 157 = .ok (.aload_n 0, 1) := by decide +kernel
theorem dX9_init_158 : decode cX9_init 158 = .ok (.bipush 36, 2) := by decide +kernel
theorem dX9_init_160 : decode cX9_init 160 = .ok (.newarray .int, 2) := by decide +kernel
theorem dX9_init_162 : decode cX9_init 162 = .ok (.putfield 67, 3) := by decide +kernel
theorem dX9_init_165 : decode cX9_init 165 = .ok (.aload_n 0, 1) := by decide +kernel
theorem dX9_init_166 : decode cX9_init 166 = .ok (.invokevirtual 70, 3) := by decide +kernel
theorem dX9_init_169 : decode cX9_init 169 = .ok (.aload_n 0, 1) := by decide +kernel
theorem dX9_init_170 : decode cX9_init 170 = .ok (.bipush 10, 2) := by decide +kernel
theorem dX9_init_172 : decode cX9_init 172 = .ok (.iconst 0, 1) := by decide +kernel
theorem dX9_init_173 : decode cX9_init 173 = .ok (.invokevirtual 73, 3) := by decide +kernel
theorem dX9_init_176 : decode cX9_init 176 = .ok (.aload_n 0, 1) := by decide +kernel
theorem dX9_init_177 : decode cX9_init 177 = .ok (.bipush 8, 2) := by decide +kernel
theorem dX9_init_179 : decode cX9_init 179 = .ok (.iconst 3, 1) := by decide +kernel
theorem dX9_init_180 : decode cX9_init 180 = .ok (.invokevirtual 73, 3) := by decide +kernel
theorem dX9_init_183 : decode cX9_init 183 = .ok (.aload_n 0, 1) := by decide +kernel
theorem dX9_init_184 : decode cX9_init 184 = .ok (.bipush 12, 2) := by decide +kernel
theorem dX9_init_186 : decode cX9_init 186 = .ok (.iconst 1, 1) := by decide +kernel
theorem dX9_init_187 : decode cX9_init 187 = .ok (.invokevirtual 73, 3) := by decide +kernel
theorem dX9_init_190 : decode cX9_init 190 = .ok (.aload_n 0, 1) := by decide +kernel
theorem dX9_init_191 : decode cX9_init 191 = .ok (.bipush 60, 2) := by decide +kernel
theorem dX9_init_193 : decode cX9_init 193 = .ok (.iconst 0, 1) := by decide +kernel
theorem dX9_init_194 : decode cX9_init 194 = .ok (.invokevirtual 77, 3) := by decide +kernel
theorem dX9_init_197 : decode cX9_init 197 = .ok (.aload_n 0, 1) := by decide +kernel
theorem dX9_init_198 : decode cX9_init 198 = .ok (.bipush 30, 2) := by decide +kernel
theorem dX9_init_200 : decode cX9_init 200 = .ok (.iconst 1, 1) := by decide +kernel
theorem dX9_init_201 : decode cX9_init 201 = .ok (.invokevirtual 77, 3) := by decide +kernel
theorem dX9_init_204 : decode cX9_init 204 = .ok (.aload_n 0, 1) := by decide +kernel
theorem dX9_init_205 : decode cX9_init 205 = .ok (.bipush 90, 2) := by decide +kernel
theorem dX9_init_207 : decode cX9_init 207 = .ok (.iconst 2, 1) := by decide +kernel
theorem dX9_init_208 : decode cX9_init 208 = .ok (.invokevirtual 77, 3) := by decide +kernel
theorem dX9_init_211 : decode cX9_init 211 = .ok (.aload_n 0, 1) := by decide +kernel
theorem dX9_init_212 : decode cX9_init 212 = .ok (.bipush 40, 2) := by decide +kernel
theorem dX9_init_214 : decode cX9_init 214 = .ok (.iconst 3, 1) := by decide +kernel
theorem dX9_init_215 : decode cX9_init 215 = .ok (.invokevirtual 77, 3) := by decide +kernel
theorem dX9_init_218 : decode cX9_init 218 = .ok (.aload_n 0, 1) := by decide +kernel
theorem dX9_init_219 : decode cX9_init 219 = .ok (.bipush 40, 2) := by decide +kernel
theorem dX9_init_221 : decode cX9_init 221 = .ok (.iconst 3, 1) := by decide +kernel
theorem dX9_init_222 : decode cX9_init 222 = .ok (.invokevirtual 77, 3) := by decide +kernel
theorem dX9_init_225 : decode cX9_init 225 = .ok (.aload_n 0, 1) := by decide +kernel
theorem dX9_init_226 : decode cX9_init 226 = .ok (.iconst 0, 1) := by decide +kernel
theorem dX9_init_227 : decode cX9_init 227 = .ok (.iconst 0, 1) := by decide +kernel
theorem dX9_init_228 : decode cX9_init 228 = .ok (.bipush 9, 2) := by decide +kernel
theorem dX9_init_230 : decode cX9_init 230 = .ok (.invokevirtual 80, 3) := by decide +kernel
theorem dX9_init_233 : decode cX9_init 233 = .ok (.aload_n 0, 1) := by decide +kernel
theorem dX9_init_234 : decode cX9_init 234 = .ok (.iconst 1, 1) := by decide +kernel
theorem dX9_init_235 : decode cX9_init 235 = .ok (.iconst 4, 1) := by decide +kernel
theorem dX9_init_236 : decode cX9_init 236 = .ok (.bipush 12, 2) := by decide +kernel
theorem dX9_init_238 : decode cX9_init 238 = .ok (.invokevirtual 80, 3) := by decide +kernel
theorem dX9_init_241 : decode cX9_init 241 = .ok (.aload_n 0, 1) := by decide +kernel
theorem dX9_init_242 : decode cX9_init 242 = .ok (.iconst 2, 1) := by decide +kernel
theorem dX9_init_243 : decode cX9_init 243 = .ok (.bipush 10, 2) := by decide +kernel
theorem dX9_init_245 : decode cX9_init 245 = .ok (.bipush 20, 2) := by decide +kernel
theorem dX9_init_247 : decode cX9_init 247 = .ok (.invokevirtual 80, 3) := by decide +kernel
theorem dX9_init_250 : decode cX9_init 250 = .ok (.aload_n 0, 1) := by decide +kernel
theorem dX9_init_251 : decode cX9_init 251 = .ok (.iconst 3, 1) := by decide +kernel
theorem dX9_init_252 : decode cX9_init 252 = .ok (.bipush 18, 2) := by decide +kernel
theorem dX9_init_254 : decode cX9_init 254 = .ok (.bipush 29, 2) := by decide +kernel
theorem dX9_init_256 : decode cX9_init 256 = .ok (.invokevirtual 80, 3) := by decide +kernel
theorem dX9_init_259 : decode cX9_init 259 = .ok (.aload_n 0, 1) := by decide +kernel
theorem dX9_init_260 : decode cX9_init 260 = .ok (.iconst 4, 1) := by decide +kernel
theorem dX9_init_261 : decode cX9_init 261 = .ok (.bipush 18, 2) := by decide +kernel
theorem dX9_init_263 : decode cX9_init 263 = .ok (.bipush 29, 2) := by decide +kernel
theorem dX9_init_265 : decode cX9_init 265 = .ok (.invokevirtual 80, 3) := by decide +kernel
theorem dX9_init_268 : decode cX9_init 268 = .ok (.aload_n 0, 1) := by decide +kernel
theorem dX9_init_269 : decode cX9_init 269 = .ok (.getfield 13, 3) := by decide +kernel
theorem dX9_init_272 : decode cX9_init 272 = .ok (.bipush 17, 2) := by decide +kernel
theorem dX9_init_274 : decode cX9_init 274 = .ok (.iconst 2, 1) := by decide +kernel
theorem dX9_init_275 : decode cX9_init 275 = .ok (.iastore, 1) := by decide +kernel
theorem dX9_init_276 : decode cX9_init 276 = .ok (.aload_n 0, 1) := by decide +kernel
theorem dX9_init_277 : decode cX9_init 277 = .ok (.invokevirtual 84, 3) := by decide +kernel
theorem dX9_init_280 : decode cX9_init 280 = .ok (.return_, 1) := by decide +kernel
theorem dX9_is_0 : decode cX9_is 0 = .ok (.aload_n 0, 1) := by decide +kernel
theorem dX9_is_1 : decode cX9_is 1 = .ok (.getfield 34, 3) := by decide +kernel
theorem dX9_is_4 : decode cX9_is 4 = .ok (.iload_n 1, 1) := by decide +kernel
theorem dX9_is_5 : decode cX9_is 5 = .ok (.iaload, 1) := by decide +kernel
theorem dX9_is_6 : decode cX9_is 6 = .ok (.i2l, 1) := by decide +kernel
theorem dX9_is_7 : decode cX9_is 7 = .ok (.iload_n 2, 1) := by decide +kernel
theorem dX9_is_8 : decode cX9_is 8 = .ok (.i2l, 1) := by decide +kernel
theorem dX9_is_9 : decode cX9_is 9 = .ok (.iload_n 3, 1) := by decide +kernel
theorem dX9_is_10 : decode cX9_is 10 = .ok (.i2l, 1) := by decide +kernel
theorem dX9_is_11 : decode cX9_is 11 = .ok (.invokestatic 87, 3) := by decide +kernel
theorem dX9_is_14 : decode cX9_is 14 = .ok (.ireturn, 1) := by decide +kernel
theorem dX9_isBearer_0 : decode cX9_isBearer 0 = .ok (.iload_n 1, 1) := by decide +kernel
theorem dX9_isBearer_1 : decode cX9_isBearer 1 = .ok (.i2l, 1) := by decide +kernel
theorem dX9_isBearer_2 : decode cX9_isBearer 2 = .ok (.lconst 0, 1) := by decide +kernel
theorem dX9_isBearer_3 : decode cX9_isBearer 3 = .ok (.aload_n 0, 1) := by decide +kernel
theorem dX9_isBearer_4 : decode cX9_isBearer 4 = .ok (.getfield 7, 3) := by decide +kernel
theorem dX9_isBearer_7 : decode cX9_isBearer 7 = .ok (.iconst 1, 1) := by decide +kernel
theorem dX9_isBearer_8 : decode cX9_isBearer 8 = .ok (.iaload, 1) := by decide +kernel
theorem dX9_isBearer_9 : decode cX9_isBearer 9 = .ok (.iconst 1, 1) := by decide +kernel
theorem dX9_isBearer_10 : decode cX9_isBearer 10 = .ok (.isub, 1) := by decide +kernel
theorem dX9_isBearer_11 : decode cX9_isBearer 11 = .ok (.i2l, 1) := by decide +kernel
theorem dX9_isBearer_12 : decode cX9_isBearer 12 = .ok (.invokestatic 87, 3) := by decide +kernel
theorem dX9_isBearer_15 : decode cX9_isBearer 15 = .ok (.ireturn, 1) := by decide +kernel
theorem dX9_isTurn_0 : decode cX9_isTurn 0 = .ok (.iload_n 1, 1) := by decide +kernel
theorem dX9_isTurn_1 : decode cX9_isTurn 1 = .ok (.i2l, 1) := by decide +kernel
theorem dX9_isTurn_2 : decode cX9_isTurn 2 = .ok (.lconst 0, 1) := by decide +kernel
theorem dX9_isTurn_3 : decode cX9_isTurn 3 = .ok (.aload_n 0, 1) := by decide +kernel
theorem dX9_isTurn_4 : decode cX9_isTurn 4 = .ok (.getfield 16, 3) := by decide +kernel
theorem dX9_isTurn_7 : decode cX9_isTurn 7 = .ok (.iconst 0, 1) := by decide +kernel
theorem dX9_isTurn_8 : decode cX9_isTurn 8 = .ok (.iaload, 1) := by decide +kernel
theorem dX9_isTurn_9 : decode cX9_isTurn 9 = .ok (.iconst 1, 1) := by decide +kernel
theorem dX9_isTurn_10 : decode cX9_isTurn 10 = .ok (.isub, 1) := by decide +kernel
theorem dX9_isTurn_11 : decode cX9_isTurn 11 = .ok (.i2l, 1) := by decide +kernel
theorem dX9_isTurn_12 : decode cX9_isTurn 12 = .ok (.invokestatic 87, 3) := by decide +kernel
theorem dX9_isTurn_15 : decode cX9_isTurn 15 = .ok (.ireturn, 1) := by decide +kernel
theorem dX9_isTwin_0 : decode cX9_isTwin 0 = .ok (.iconst 0, 1) := by decide +kernel
theorem dX9_isTwin_1 : decode cX9_isTwin 1 = .ok (.istore_n 3, 1) := by decide +kernel
theorem dX9_isTwin_2 : decode cX9_isTwin 2 = .ok (.iconst 0, 1) := by decide +kernel
theorem dX9_isTwin_3 : decode cX9_isTwin 3 = .ok (.istore 4, 2) := by decide +kernel
theorem dX9_isTwin_5 : decode cX9_isTwin 5 = .ok (.iload 4, 2) := by decide +kernel
theorem dX9_isTwin_7 : decode cX9_isTwin 7 = .ok (.aload_n 0, 1) := by decide +kernel
theorem dX9_isTwin_8 : decode cX9_isTwin 8 = .ok (.iconst 1, 1) := by decide +kernel
theorem dX9_isTwin_9 : decode cX9_isTwin 9 = .ok (.iaload, 1) := by decide +kernel
theorem dX9_isTwin_10 : decode cX9_isTwin 10 = .ok (.if_icmp .ge 45, 3) := by decide +kernel
theorem dX9_isTwin_13 : decode cX9_isTwin 13 = .ok (.iload_n 3, 1) := by decide +kernel
theorem dX9_isTwin_14 : decode cX9_isTwin 14 = .ok (.ifCond .ne 29, 3) := by decide +kernel
theorem dX9_isTwin_17 : decode cX9_isTwin 17 = .ok (.iload 4, 2) := by decide +kernel
theorem dX9_isTwin_19 : decode cX9_isTwin 19 = .ok (.iload_n 2, 1) := by decide +kernel
theorem dX9_isTwin_20 : decode cX9_isTwin 20 = .ok (.if_icmp .eq 27, 3) := by decide +kernel
theorem dX9_isTwin_23 : decode cX9_isTwin 23 = .ok (.iload_n 1, 1) := by decide +kernel
theorem dX9_isTwin_24 : decode cX9_isTwin 24 = .ok (.iload 4, 2) := by decide +kernel
theorem dX9_isTwin_26 : decode cX9_isTwin 26 = .ok (.invokestatic 166, 3) := by decide +kernel
theorem dX9_isTwin_29 : decode cX9_isTwin 29 = .ok (.ifCond .eq 18, 3) := by decide +kernel
theorem dX9_isTwin_32 : decode cX9_isTwin 32 = .ok (.aload_n 0, 1) := by decide +kernel
theorem dX9_isTwin_33 : decode cX9_isTwin 33 = .ok (.bipush 28, 2) := by decide +kernel
theorem dX9_isTwin_35 : decode cX9_isTwin 35 = .ok (.iload 4, 2) := by decide +kernel
theorem dX9_isTwin_37 : decode cX9_isTwin 37 = .ok (.iadd, 1) := by decide +kernel
theorem dX9_isTwin_38 : decode cX9_isTwin 38 = .ok (.iaload, 1) := by decide +kernel
theorem dX9_isTwin_39 : decode cX9_isTwin 39 = .ok (.iconst 3, 1) := by decide +kernel
theorem dX9_isTwin_40 : decode cX9_isTwin 40 = .ok (.if_icmp .ne 7, 3) := by decide +kernel
theorem dX9_isTwin_43 : decode cX9_isTwin 43 = .ok (.iconst 1, 1) := by decide +kernel
theorem dX9_isTwin_44 : decode cX9_isTwin 44 = .ok (.goto 4, 3) := by decide +kernel
theorem dX9_isTwin_47 : decode cX9_isTwin 47 = .ok (.iconst 0, 1) := by decide +kernel
theorem dX9_isTwin_48 : decode cX9_isTwin 48 = .ok (.istore_n 3, 1) := by decide +kernel
theorem dX9_isTwin_49 : decode cX9_isTwin 49 = .ok (.iinc 4 1, 3) := by decide +kernel
theorem dX9_isTwin_52 : decode cX9_isTwin 52 = .ok (.goto (-47), 3) := by decide +kernel
theorem dX9_isTwin_55 : decode cX9_isTwin 55 = .ok (.iload_n 3, 1) := by decide +kernel
theorem dX9_isTwin_56 : decode cX9_isTwin 56 = .ok (.ireturn, 1) := by decide +kernel
theorem dX9_isTwo_0 : decode cX9_isTwo 0 = .ok (.iload_n 0, 1) := by decide +kernel
theorem dX9_isTwo_1 : decode cX9_isTwo 1 = .ok (.i2l, 1) := by decide +kernel
theorem dX9_isTwo_2 : decode cX9_isTwo 2 = .ok (.lconst 0, 1) := by decide +kernel
theorem dX9_isTwo_3 : decode cX9_isTwo 3 = .ok (.lconst 1, 1) := by decide +kernel
theorem dX9_isTwo_4 : decode cX9_isTwo 4 = .ok (.invokestatic 87, 3) := by decide +kernel
theorem dX9_isTwo_7 : decode cX9_isTwo 7 = .ok (.ireturn, 1) := by decide +kernel
theorem dX9_isYard_0 : decode cX9_isYard 0 = .ok (.iload_n 1, 1) := by decide +kernel
theorem dX9_isYard_1 : decode cX9_isYard 1 = .ok (.i2l, 1) := by decide +kernel
theorem dX9_isYard_2 : decode cX9_isYard 2 = .ok (.lconst 0, 1) := by decide +kernel
theorem dX9_isYard_3 : decode cX9_isYard 3 = .ok (.aload_n 0, 1) := by decide +kernel
theorem dX9_isYard_4 : decode cX9_isYard 4 = .ok (.getfield 7, 3) := by decide +kernel
theorem dX9_isYard_7 : decode cX9_isYard 7 = .ok (.invokestatic 116, 3) := by decide +kernel
theorem dX9_isYard_10 : decode cX9_isYard 10 = .ok (.iconst 1, 1) := by decide +kernel
theorem dX9_isYard_11 : decode cX9_isYard 11 = .ok (.isub, 1) := by decide +kernel
theorem dX9_isYard_12 : decode cX9_isYard 12 = .ok (.i2l, 1) := by decide +kernel
theorem dX9_isYard_13 : decode cX9_isYard 13 = .ok (.invokestatic 87, 3) := by decide +kernel
theorem dX9_isYard_16 : decode cX9_isYard 16 = .ok (.ireturn, 1) := by decide +kernel
theorem dX9_keep_0 : decode cX9_keep 0 = .ok (.aload_n 0, 1) := by decide +kernel
theorem dX9_keep_1 : decode cX9_keep 1 = .ok (.getfield 145, 3) := by decide +kernel
theorem dX9_keep_4 : decode cX9_keep 4 = .ok (.iconst 2, 1) := by decide +kernel
theorem dX9_keep_5 : decode cX9_keep 5 = .ok (.if_icmp .ne 6, 3) := by decide +kernel
theorem dX9_keep_8 : decode cX9_keep 8 = .ok (.bipush (-3), 2) := by decide +kernel
theorem dX9_keep_10 : decode cX9_keep 10 = .ok (.ireturn, 1) := by decide +kernel
theorem dX9_keep_11 : decode cX9_keep 11 = .ok (.aload_n 0, 1) := by decide +kernel
theorem dX9_keep_12 : decode cX9_keep 12 = .ok (.getfield 16, 3) := by decide +kernel
theorem dX9_keep_15 : decode cX9_keep 15 = .ok (.iconst 0, 1) := by decide +kernel
theorem dX9_keep_16 : decode cX9_keep 16 = .ok (.aload_n 0, 1) := by decide +kernel
theorem dX9_keep_17 : decode cX9_keep 17 = .ok (.getfield 25, 3) := by decide +kernel
theorem dX9_keep_20 : decode cX9_keep 20 = .ok (.bipush 31, 2) := by decide +kernel
theorem dX9_keep_22 : decode cX9_keep 22 = .ok (.aload_n 0, 1) := by decide +kernel
theorem dX9_keep_23 : decode cX9_keep 23 = .ok (.getfield 145, 3) := by decide +kernel
theorem dX9_keep_26 : decode cX9_keep 26 = .ok (.imul, 1) := by decide +kernel
theorem dX9_keep_27 : decode cX9_keep 27 = .ok (.invokestatic 235, 3) := by decide +kernel
theorem dX9_keep_30 : decode cX9_keep 30 = .ok (.aload_n 0, 1) := by decide +kernel
theorem dX9_keep_31 : decode cX9_keep 31 = .ok (.dup, 1) := by decide +kernel
theorem dX9_keep_32 : decode cX9_keep 32 = .ok (.getfield 145, 3) := by decide +kernel
theorem dX9_keep_35 : decode cX9_keep 35 = .ok (.iconst 1, 1) := by decide +kernel
theorem dX9_keep_36 : decode cX9_keep 36 = .ok (.iadd, 1) := by decide +kernel
theorem dX9_keep_37 : decode cX9_keep 37 = .ok (.putfield 145, 3) := by decide +kernel
theorem dX9_keep_40 : decode cX9_keep 40 = .ok (.aload_n 0, 1) := by decide +kernel
theorem dX9_keep_41 : decode cX9_keep 41 = .ok (.getfield 145, 3) := by decide +kernel
theorem dX9_keep_44 : decode cX9_keep 44 = .ok (.ireturn, 1) := by decide +kernel
theorem dX9_lay_0 : decode cX9_lay 0 = .ok (.aload_n 0, 1) := by decide +kernel
theorem dX9_lay_1 : decode cX9_lay 1 = .ok (.invokevirtual 148, 3) := by decide +kernel
theorem dX9_lay_4 : decode cX9_lay 4 = .ok (.bipush (-4), 2) := by decide +kernel
theorem dX9_lay_6 : decode cX9_lay 6 = .ok (.if_icmp .ne 21, 3) := by decide +kernel
theorem dX9_lay_9 : decode cX9_lay 9 = .ok (.aload_n 0, 1) := by decide +kernel
theorem dX9_lay_10 : decode cX9_lay 10 = .ok (.getfield 13, 3) := by decide +kernel
theorem dX9_lay_13 : decode cX9_lay 13 = .ok (.iconst 0, 1) := by decide +kernel
theorem dX9_lay_14 : decode cX9_lay 14 = .ok (.iaload, 1) := by decide +kernel
theorem dX9_lay_15 : decode cX9_lay 15 = .ok (.ifCond .eq 12, 3) := by decide +kernel
theorem dX9_lay_18 : decode cX9_lay 18 = .ok (.aload_n 0, 1) := by decide +kernel
theorem dX9_lay_19 : decode cX9_lay 19 = .ok (.getfield 13, 3) := by decide +kernel
theorem dX9_lay_22 : decode cX9_lay 22 = .ok (.iconst 1, 1) := by decide +kernel
theorem dX9_lay_23 : decode cX9_lay 23 = .ok (.iaload, 1) := by decide +kernel
theorem dX9_lay_24 : decode cX9_lay 24 = .ok (.ifCond .ne 6, 3) := by decide +kernel
theorem dX9_lay_27 : decode cX9_lay 27 = .ok (.bipush (-2), 2) := by decide +kernel
theorem dX9_lay_29 : decode cX9_lay 29 = .ok (.ireturn, 1) := by decide +kernel
theorem dX9_lay_30 : decode cX9_lay 30 = .ok (.aload_n 0, 1) := by decide +kernel
theorem dX9_lay_31 : decode cX9_lay 31 = .ok (.invokevirtual 84, 3) := by decide +kernel
theorem dX9_lay_34 : decode cX9_lay 34 = .ok (.aload_n 0, 1) := by decide +kernel
theorem dX9_lay_35 : decode cX9_lay 35 = .ok (.getfield 7, 3) := by decide +kernel
theorem dX9_lay_38 : decode cX9_lay 38 = .ok (.invokestatic 116, 3) := by decide +kernel
theorem dX9_lay_41 : decode cX9_lay 41 = .ok (.ireturn, 1) := by decide +kernel
theorem dX9_layChoice_0 : decode cX9_layChoice 0 = .ok (.aload_n 0, 1) := by decide +kernel
theorem dX9_layChoice_1 : decode cX9_layChoice 1 = .ok (.invokevirtual 214, 3) := by decide +kernel
theorem dX9_layChoice_4 : decode cX9_layChoice 4 = .ok (.aload_n 0, 1) := by decide +kernel
theorem dX9_layChoice_5 : decode cX9_layChoice 5 = .ok (.invokevirtual 185, 3) := by decide +kernel
theorem dX9_layChoice_8 : decode cX9_layChoice 8 = .ok (.iconst 0, 1) := by decide +kernel
theorem dX9_layChoice_9 : decode cX9_layChoice 9 = .ok (.istore 5, 2) := by decide +kernel
theorem dX9_layChoice_11 : decode cX9_layChoice 11 = .ok (.iconst 0, 1) := by decide +kernel
theorem dX9_layChoice_12 : decode cX9_layChoice 12 = .ok (.istore 6, 2) := by decide +kernel
theorem dX9_layChoice_14 : decode cX9_layChoice 14 = .ok (.iconst 0, 1) := by decide +kernel
theorem dX9_layChoice_15 : decode cX9_layChoice 15 = .ok (.istore 7, 2) := by decide +kernel
theorem dX9_layChoice_17 : decode cX9_layChoice 17 = .ok (.iload 7, 2) := by decide +kernel
theorem dX9_layChoice_19 : decode cX9_layChoice 19 = .ok (.iload_n 3, 1) := by decide +kernel
theorem dX9_layChoice_20 : decode cX9_layChoice 20 = .ok (.iload 4, 2) := by decide +kernel
theorem dX9_layChoice_22 : decode cX9_layChoice 22 = .ok (.if_icmp .ne 7, 3) := by decide +kernel
theorem dX9_layChoice_25 : decode cX9_layChoice 25 = .ok (.iconst 1, 1) := by decide +kernel
theorem dX9_layChoice_26 : decode cX9_layChoice 26 = .ok (.goto 4, 3) := by decide +kernel
theorem dX9_layChoice_29 : decode cX9_layChoice 29 = .ok (.iconst 2, 1) := by decide +kernel
theorem dX9_layChoice_30 : decode cX9_layChoice 30 = .ok (.if_icmp .ge 196, 3) := by decide +kernel
theorem dX9_layChoice_33 : decode cX9_layChoice 33 = .ok (.iload 7, 2) := by decide +kernel
theorem dX9_layChoice_35 : decode cX9_layChoice 35 = .ok (.ifCond .ne 7, 3) := by decide +kernel
theorem dX9_layChoice_38 : decode cX9_layChoice 38 = .ok (.iload_n 3, 1) := by decide +kernel
theorem dX9_layChoice_39 : decode cX9_layChoice 39 = .ok (.goto 5, 3) := by decide +kernel
theorem dX9_layChoice_42 : decode cX9_layChoice 42 = .ok (.iload 4, 2) := by decide +kernel
theorem dX9_layChoice_44 : decode cX9_layChoice 44 = .ok (.istore 8, 2) := by decide +kernel
theorem dX9_layChoice_46 : decode cX9_layChoice 46 = .ok (.iload_n 3, 1) := by decide +kernel
theorem dX9_layChoice_47 : decode cX9_layChoice 47 = .ok (.iload 4, 2) := by decide +kernel
theorem dX9_layChoice_49 : decode cX9_layChoice 49 = .ok (.if_icmp .ne 13, 3) := by decide +kernel
theorem dX9_layChoice_52 : decode cX9_layChoice 52 = .ok (.iconst 1, 1) := by decide +kernel
theorem dX9_layChoice_53 : decode cX9_layChoice 53 = .ok (.iload_n 1, 1) := by decide +kernel
theorem dX9_layChoice_54 : decode cX9_layChoice 54 = .ok (.ishl, 1) := by decide +kernel
theorem dX9_layChoice_55 : decode cX9_layChoice 55 = .ok (.iconst 1, 1) := by decide +kernel
theorem dX9_layChoice_56 : decode cX9_layChoice 56 = .ok (.iload_n 2, 1) := by decide +kernel
theorem dX9_layChoice_57 : decode cX9_layChoice 57 = .ok (.ishl, 1) := by decide +kernel
theorem dX9_layChoice_58 : decode cX9_layChoice 58 = .ok (.ior, 1) := by decide +kernel
theorem dX9_layChoice_59 : decode cX9_layChoice 59 = .ok (.goto 17, 3) := by decide +kernel
theorem dX9_layChoice_62 : decode cX9_layChoice 62 = .ok (.iload 7, 2) := by decide +kernel
theorem dX9_layChoice_64 : decode cX9_layChoice 64 = .ok (.ifCond .ne 9, 3) := by decide +kernel
theorem dX9_layChoice_67 : decode cX9_layChoice 67 = .ok (.iconst 1, 1) := by decide +kernel
theorem dX9_layChoice_68 : decode cX9_layChoice 68 = .ok (.iload_n 1, 1) := by decide +kernel
theorem dX9_layChoice_69 : decode cX9_layChoice 69 = .ok (.ishl, 1) := by decide +kernel
theorem dX9_layChoice_70 : decode cX9_layChoice 70 = .ok (.goto 6, 3) := by decide +kernel
theorem dX9_layChoice_73 : decode cX9_layChoice 73 = .ok (.iconst 1, 1) := by decide +kernel
theorem dX9_layChoice_74 : decode cX9_layChoice 74 = .ok (.iload_n 2, 1) := by decide +kernel
theorem dX9_layChoice_75 : decode cX9_layChoice 75 = .ok (.ishl, 1) := by decide +kernel
theorem dX9_layChoice_76 : decode cX9_layChoice 76 = .ok (.istore 9, 2) := by decide +kernel
theorem dX9_layChoice_78 : decode cX9_layChoice 78 = .ok (.iconst 1, 1) := by decide +kernel
theorem dX9_layChoice_79 : decode cX9_layChoice 79 = .ok (.aload_n 0, 1) := by decide +kernel
theorem dX9_layChoice_80 : decode cX9_layChoice 80 = .ok (.getfield 37, 3) := by decide +kernel
theorem dX9_layChoice_83 : decode cX9_layChoice 83 = .ok (.bipush 10, 2) := by decide +kernel
theorem dX9_layChoice_85 : decode cX9_layChoice 85 = .ok (.iload 8, 2) := by decide +kernel
theorem dX9_layChoice_87 : decode cX9_layChoice 87 = .ok (.iadd, 1) := by decide +kernel
theorem dX9_layChoice_88 : decode cX9_layChoice 88 = .ok (.iaload, 1) := by decide +kernel
theorem dX9_layChoice_89 : decode cX9_layChoice 89 = .ok (.iadd, 1) := by decide +kernel
theorem dX9_layChoice_90 : decode cX9_layChoice 90 = .ok (.aload_n 0, 1) := by decide +kernel
theorem dX9_layChoice_91 : decode cX9_layChoice 91 = .ok (.getfield 37, 3) := by decide +kernel
theorem dX9_layChoice_94 : decode cX9_layChoice 94 = .ok (.iconst 3, 1) := by decide +kernel
theorem dX9_layChoice_95 : decode cX9_layChoice 95 = .ok (.iaload, 1) := by decide +kernel
theorem dX9_layChoice_96 : decode cX9_layChoice 96 = .ok (.iadd, 1) := by decide +kernel
theorem dX9_layChoice_97 : decode cX9_layChoice 97 = .ok (.istore 10, 2) := by decide +kernel
theorem dX9_layChoice_99 : decode cX9_layChoice 99 = .ok (.iconst 0, 1) := by decide +kernel
theorem dX9_layChoice_100 : decode cX9_layChoice 100 = .ok (.istore 11, 2) := by decide +kernel
theorem dX9_layChoice_102 : decode cX9_layChoice 102 = .ok (.iload 11, 2) := by decide +kernel
theorem dX9_layChoice_104 : decode cX9_layChoice 104 = .ok (.aload_n 0, 1) := by decide +kernel
theorem dX9_layChoice_105 : decode cX9_layChoice 105 = .ok (.getfield 37, 3) := by decide +kernel
theorem dX9_layChoice_108 : decode cX9_layChoice 108 = .ok (.iconst 4, 1) := by decide +kernel
theorem dX9_layChoice_109 : decode cX9_layChoice 109 = .ok (.iload 8, 2) := by decide +kernel
theorem dX9_layChoice_111 : decode cX9_layChoice 111 = .ok (.iadd, 1) := by decide +kernel
theorem dX9_layChoice_112 : decode cX9_layChoice 112 = .ok (.iaload, 1) := by decide +kernel
theorem dX9_layChoice_113 : decode cX9_layChoice 113 = .ok (.if_icmp .ge 107, 3) := by decide +kernel
theorem dX9_layChoice_116 : decode cX9_layChoice 116 = .ok (.aload_n 0, 1) := by decide +kernel
theorem dX9_layChoice_117 : decode cX9_layChoice 117 = .ok (.iload 9, 2) := by decide +kernel
theorem dX9_layChoice_119 : decode cX9_layChoice 119 = .ok (.invokevirtual 198, 3) := by decide +kernel
theorem dX9_layChoice_122 : decode cX9_layChoice 122 = .ok (.istore 12, 2) := by decide +kernel
theorem dX9_layChoice_124 : decode cX9_layChoice 124 = .ok (.iload 12, 2) := by decide +kernel
theorem dX9_layChoice_126 : decode cX9_layChoice 126 = .ok (.ifCond .ne 7, 3) := by decide +kernel
theorem dX9_layChoice_129 : decode cX9_layChoice 129 = .ok (.iconst 0, 1) := by decide +kernel
theorem dX9_layChoice_130 : decode cX9_layChoice 130 = .ok (.goto 13, 3) := by decide +kernel
theorem dX9_layChoice_133 : decode cX9_layChoice 133 = .ok (.aload_n 0, 1) := by decide +kernel
theorem dX9_layChoice_134 : decode cX9_layChoice 134 = .ok (.iload 11, 2) := by decide +kernel
theorem dX9_layChoice_136 : decode cX9_layChoice 136 = .ok (.iload 12, 2) := by decide +kernel
theorem dX9_layChoice_138 : decode cX9_layChoice 138 = .ok (.iload 10, 2) := by decide +kernel
theorem dX9_layChoice_140 : decode cX9_layChoice 140 = .ok (.invokevirtual 201, 3) := by decide +kernel
theorem dX9_layChoice_143 : decode cX9_layChoice 143 = .ok (.istore 13, 2) := by decide +kernel
theorem dX9_layChoice_145 : decode cX9_layChoice 145 = .ok (.iload 13, 2) := by decide +kernel
theorem dX9_layChoice_147 : decode cX9_layChoice 147 = .ok (.ifCond .eq 67, 3) := by decide +kernel
theorem dX9_layChoice_150 : decode cX9_layChoice 150 = .ok (.aload_n 0, 1) := by decide +kernel
theorem dX9_layChoice_151 : decode cX9_layChoice 151 = .ok (.iload 13, 2) := by decide +kernel
theorem dX9_layChoice_153 : decode cX9_layChoice 153 = .ok (.iload 12, 2) := by decide +kernel
theorem dX9_layChoice_155 : decode cX9_layChoice 155 = .ok (.iload 10, 2) := by decide +kernel
theorem dX9_layChoice_157 : decode cX9_layChoice 157 = .ok (.bipush 60, 2) := by decide +kernel
theorem dX9_layChoice_159 : decode cX9_layChoice 159 = .ok (.invokevirtual 205, 3) := by decide +kernel
theorem dX9_layChoice_162 : decode cX9_layChoice 162 = .ok (.iload 5, 2) := by decide +kernel
theorem dX9_layChoice_164 : decode cX9_layChoice 164 = .ok (.iload 13, 2) := by decide +kernel
theorem dX9_layChoice_166 : decode cX9_layChoice 166 = .ok (.iload_n 1, 1) := by decide +kernel
theorem dX9_layChoice_167 : decode cX9_layChoice 167 = .ok (.invokestatic 166, 3) := by decide +kernel
theorem dX9_layChoice_170 : decode cX9_layChoice 170 = .ok (.ifCond .eq 14, 3) := by decide +kernel
theorem dX9_layChoice_173 : decode cX9_layChoice 173 = .ok (.bipush 60, 2) := by decide +kernel
theorem dX9_layChoice_175 : decode cX9_layChoice 175 = .ok (.iload 13, 2) := by decide +kernel
theorem dX9_layChoice_177 : decode cX9_layChoice 177 = .ok (.invokestatic 174, 3) := by decide +kernel
theorem dX9_layChoice_180 : decode cX9_layChoice 180 = .ok (.idiv, 1) := by decide +kernel
theorem dX9_layChoice_181 : decode cX9_layChoice 181 = .ok (.goto 4, 3) := by decide +kernel
theorem dX9_layChoice_184 : decode cX9_layChoice 184 = .ok (.iconst 0, 1) := by decide +kernel
theorem dX9_layChoice_185 : decode cX9_layChoice 185 = .ok (.iadd, 1) := by decide +kernel
theorem dX9_layChoice_186 : decode cX9_layChoice 186 = .ok (.istore 5, 2) := by decide +kernel
theorem dX9_layChoice_188 : decode cX9_layChoice 188 = .ok (.iload 6, 2) := by decide +kernel
theorem dX9_layChoice_190 : decode cX9_layChoice 190 = .ok (.iload 13, 2) := by decide +kernel
theorem dX9_layChoice_192 : decode cX9_layChoice 192 = .ok (.iload_n 2, 1) := by decide +kernel
theorem dX9_layChoice_193 : decode cX9_layChoice 193 = .ok (.invokestatic 166, 3) := by decide +kernel
theorem dX9_layChoice_196 : decode cX9_layChoice 196 = .ok (.ifCond .eq 14, 3) := by decide +kernel
theorem dX9_layChoice_199 : decode cX9_layChoice 199 = .ok (.bipush 60, 2) := by decide +kernel
theorem dX9_layChoice_201 : decode cX9_layChoice 201 = .ok (.iload 13, 2) := by decide +kernel
theorem dX9_layChoice_203 : decode cX9_layChoice 203 = .ok (.invokestatic 174, 3) := by decide +kernel
theorem dX9_layChoice_206 : decode cX9_layChoice 206 = .ok (.idiv, 1) := by decide +kernel
theorem dX9_layChoice_207 : decode cX9_layChoice 207 = .ok (.goto 4, 3) := by decide +kernel
theorem dX9_layChoice_210 : decode cX9_layChoice 210 = .ok (.iconst 0, 1) := by decide +kernel
theorem dX9_layChoice_211 : decode cX9_layChoice 211 = .ok (.iadd, 1) := by decide +kernel
theorem dX9_layChoice_212 : decode cX9_layChoice 212 = .ok (.istore 6, 2) := by decide +kernel
theorem dX9_layChoice_214 : decode cX9_layChoice 214 = .ok (.iinc 11 1, 3) := by decide +kernel
theorem dX9_layChoice_217 : decode cX9_layChoice 217 = .ok (.goto (-115), 3) := by decide +kernel
theorem dX9_layChoice_220 : decode cX9_layChoice 220 = .ok (.iinc 7 1, 3) := by decide +kernel
theorem dX9_layChoice_223 : decode cX9_layChoice 223 = .ok (.goto (-206), 3) := by decide +kernel
theorem dX9_layChoice_226 : decode cX9_layChoice 226 = .ok (.aload_n 0, 1) := by decide +kernel
theorem dX9_layChoice_227 : decode cX9_layChoice 227 = .ok (.getfield 64, 3) := by decide +kernel
theorem dX9_layChoice_230 : decode cX9_layChoice 230 = .ok (.bipush 6, 2) := by decide +kernel
theorem dX9_layChoice_232 : decode cX9_layChoice 232 = .ok (.iload_n 3, 1) := by decide +kernel
theorem dX9_layChoice_233 : decode cX9_layChoice 233 = .ok (.imul, 1) := by decide +kernel
theorem dX9_layChoice_234 : decode cX9_layChoice 234 = .ok (.iload 4, 2) := by decide +kernel
theorem dX9_layChoice_236 : decode cX9_layChoice 236 = .ok (.iadd, 1) := by decide +kernel
theorem dX9_layChoice_237 : decode cX9_layChoice 237 = .ok (.iload 5, 2) := by decide +kernel
theorem dX9_layChoice_239 : decode cX9_layChoice 239 = .ok (.iastore, 1) := by decide +kernel
theorem dX9_layChoice_240 : decode cX9_layChoice 240 = .ok (.aload_n 0, 1) := by decide +kernel
theorem dX9_layChoice_241 : decode cX9_layChoice 241 = .ok (.getfield 67, 3) := by decide +kernel
theorem dX9_layChoice_244 : decode cX9_layChoice 244 = .ok (.bipush 6, 2) := by decide +kernel
theorem dX9_layChoice_246 : decode cX9_layChoice 246 = .ok (.iload_n 3, 1) := by decide +kernel
theorem dX9_layChoice_247 : decode cX9_layChoice 247 = .ok (.imul, 1) := by decide +kernel
theorem dX9_layChoice_248 : decode cX9_layChoice 248 = .ok (.iload 4, 2) := by decide +kernel
theorem dX9_layChoice_250 : decode cX9_layChoice 250 = .ok (.iadd, 1) := by decide +kernel
theorem dX9_layChoice_251 : decode cX9_layChoice 251 = .ok (.iload 6, 2) := by decide +kernel
theorem dX9_layChoice_253 : decode cX9_layChoice 253 = .ok (.iastore, 1) := by decide +kernel
theorem dX9_layChoice_254 : decode cX9_layChoice 254 = .ok (.return_, 1) := by decide +kernel
