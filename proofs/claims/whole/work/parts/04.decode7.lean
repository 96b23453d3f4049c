theorem dX9_takes_0 : decode cX9_takes 0 = .ok (.iconst 0, 1) := by decide +kernel
theorem dX9_takes_1 : decode cX9_takes 1 = .ok (.istore_n 2, 1) := by decide +kernel
theorem dX9_takes_2 : decode cX9_takes 2 = .ok (.iload_n 2, 1) := by decide +kernel
theorem dX9_takes_3 : decode cX9_takes 3 = .ok (.iload_n 1, 1) := by decide +kernel
theorem dX9_takes_4 : decode cX9_takes 4 = .ok (.if_icmp .ge 172, 3) := by decide +kernel
theorem dX9_takes_7 : decode cX9_takes 7 = .ok (.iconst 0, 1) := by decide +kernel
theorem dX9_takes_8 : decode cX9_takes 8 = .ok (.istore_n 3, 1) := by decide +kernel
theorem dX9_takes_9 : decode cX9_takes 9 = .ok (.iconst 0, 1) := by decide +kernel
theorem dX9_takes_10 : decode cX9_takes 10 = .ok (.istore 4, 2) := by decide +kernel
theorem dX9_takes_12 : decode cX9_takes 12 = .ok (.aload_n 0, 1) := by decide +kernel
theorem dX9_takes_13 : decode cX9_takes 13 = .ok (.getfield 99, 3) := by decide +kernel
theorem dX9_takes_16 : decode cX9_takes 16 = .ok (.aload_n 0, 1) := by decide +kernel
theorem dX9_takes_17 : decode cX9_takes 17 = .ok (.getfield 95, 3) := by decide +kernel
theorem dX9_takes_20 : decode cX9_takes 20 = .ok (.if_icmp .ge 69, 3) := by decide +kernel
theorem dX9_takes_23 : decode cX9_takes 23 = .ok (.aload_n 0, 1) := by decide +kernel
theorem dX9_takes_24 : decode cX9_takes 24 = .ok (.getfield 28, 3) := by decide +kernel
theorem dX9_takes_27 : decode cX9_takes 27 = .ok (.aload_n 0, 1) := by decide +kernel
theorem dX9_takes_28 : decode cX9_takes 28 = .ok (.getfield 99, 3) := by decide +kernel
theorem dX9_takes_31 : decode cX9_takes 31 = .ok (.iaload, 1) := by decide +kernel
theorem dX9_takes_32 : decode cX9_takes 32 = .ok (.i2l, 1) := by decide +kernel
theorem dX9_takes_33 : decode cX9_takes 33 = .ok (.ldc2_w 102, 3) := by decide +kernel
theorem dX9_takes_36 : decode cX9_takes 36 = .ok (.ldc2_w 104, 3) := by decide +kernel
theorem dX9_takes_39 : decode cX9_takes 39 = .ok (.invokestatic 87, 3) := by decide +kernel
theorem dX9_takes_42 : decode cX9_takes 42 = .ok (.ifCond .eq 47, 3) := by decide +kernel
theorem dX9_takes_45 : decode cX9_takes 45 = .ok (.iload 4, 2) := by decide +kernel
theorem dX9_takes_47 : decode cX9_takes 47 = .ok (.iconst 2, 1) := by decide +kernel
theorem dX9_takes_48 : decode cX9_takes 48 = .ok (.if_icmp .ge 23, 3) := by decide +kernel
theorem dX9_takes_51 : decode cX9_takes 51 = .ok (.bipush 10, 2) := by decide +kernel
theorem dX9_takes_53 : decode cX9_takes 53 = .ok (.iload_n 3, 1) := by decide +kernel
theorem dX9_takes_54 : decode cX9_takes 54 = .ok (.imul, 1) := by decide +kernel
theorem dX9_takes_55 : decode cX9_takes 55 = .ok (.aload_n 0, 1) := by decide +kernel
theorem dX9_takes_56 : decode cX9_takes 56 = .ok (.getfield 28, 3) := by decide +kernel
theorem dX9_takes_59 : decode cX9_takes 59 = .ok (.aload_n 0, 1) := by decide +kernel
theorem dX9_takes_60 : decode cX9_takes 60 = .ok (.getfield 99, 3) := by decide +kernel
theorem dX9_takes_63 : decode cX9_takes 63 = .ok (.iaload, 1) := by decide +kernel
theorem dX9_takes_64 : decode cX9_takes 64 = .ok (.iadd, 1) := by decide +kernel
theorem dX9_takes_65 : decode cX9_takes 65 = .ok (.bipush 48, 2) := by decide +kernel
theorem dX9_takes_67 : decode cX9_takes 67 = .ok (.isub, 1) := by decide +kernel
theorem dX9_takes_68 : decode cX9_takes 68 = .ok (.goto 4, 3) := by decide +kernel
theorem dX9_takes_71 : decode cX9_takes 71 = .ok (.iload_n 3, 1) := by decide +kernel
theorem dX9_takes_72 : decode cX9_takes 72 = .ok (.istore_n 3, 1) := by decide +kernel
theorem dX9_takes_73 : decode cX9_takes 73 = .ok (.iinc 4 1, 3) := by decide +kernel
theorem dX9_takes_76 : decode cX9_takes 76 = .ok (.aload_n 0, 1) := by decide +kernel
theorem dX9_takes_77 : decode cX9_takes 77 = .ok (.dup, 1) := by decide +kernel
theorem dX9_takes_78 : decode cX9_takes 78 = .ok (.getfield 99, 3) := by decide +kernel
theorem dX9_takes_81 : decode cX9_takes 81 = .ok (.iconst 1, 1) := by decide +kernel
theorem dX9_takes_82 : decode cX9_takes 82 = .ok (.iadd, 1) := by decide +kernel
theorem dX9_takes_83 : decode cX9_takes 83 = .ok (.putfield 99, 3) := by decide +kernel
theorem dX9_takes_86 : decode cX9_takes 86 = .ok (.goto (-74), 3) := by decide +kernel
theorem dX9_takes_89 : decode cX9_takes 89 = .ok (.aload_n 0, 1) := by decide +kernel
theorem dX9_takes_90 : decode cX9_takes 90 = .ok (.getfield 99, 3) := by decide +kernel
theorem dX9_takes_93 : decode cX9_takes 93 = .ok (.aload_n 0, 1) := by decide +kernel
theorem dX9_takes_94 : decode cX9_takes 94 = .ok (.getfield 95, 3) := by decide +kernel
theorem dX9_takes_97 : decode cX9_takes 97 = .ok (.if_icmp .ge 33, 3) := by decide +kernel
theorem dX9_takes_100 : decode cX9_takes 100 = .ok (.aload_n 0, 1) := by decide +kernel
theorem dX9_takes_101 : decode cX9_takes 101 = .ok (.getfield 28, 3) := by decide +kernel
theorem dX9_takes_104 : decode cX9_takes 104 = .ok (.aload_n 0, 1) := by decide +kernel
theorem dX9_takes_105 : decode cX9_takes 105 = .ok (.getfield 99, 3) := by decide +kernel
theorem dX9_takes_108 : decode cX9_takes 108 = .ok (.iaload, 1) := by decide +kernel
theorem dX9_takes_109 : decode cX9_takes 109 = .ok (.iload_n 2, 1) := by decide +kernel
theorem dX9_takes_110 : decode cX9_takes 110 = .ok (.iload_n 1, 1) := by decide +kernel
theorem dX9_takes_111 : decode cX9_takes 111 = .ok (.iconst 1, 1) := by decide +kernel
theorem dX9_takes_112 : decode cX9_takes 112 = .ok (.isub, 1) := by decide +kernel
theorem dX9_takes_113 : decode cX9_takes 113 = .ok (.if_icmp .ge 8, 3) := by decide +kernel
theorem dX9_takes_116 : decode cX9_takes 116 = .ok (.bipush 44, 2) := by decide +kernel
theorem dX9_takes_118 : decode cX9_takes 118 = .ok (.goto 5, 3) := by decide +kernel
theorem dX9_takes_121 : decode cX9_takes 121 = .ok (.bipush 59, 2) := by decide +kernel
theorem dX9_takes_123 : decode cX9_takes 123 = .ok (.if_icmp .ne 7, 3) := by decide +kernel
theorem dX9_takes_126 : decode cX9_takes 126 = .ok (.iconst 1, 1) := by decide +kernel
theorem dX9_takes_127 : decode cX9_takes 127 = .ok (.goto 4, 3) := by decide +kernel
theorem dX9_takes_130 : decode cX9_takes 130 = .ok (.iconst 0, 1) := by decide +kernel
theorem dX9_takes_131 : decode cX9_takes 131 = .ok (.istore 5, 2) := by decide +kernel
theorem dX9_takes_133 : decode cX9_takes 133 = .ok (.iload 4, 2) := by decide +kernel
theorem dX9_takes_135 : decode cX9_takes 135 = .ok (.i2l, 1) := by decide +kernel
theorem dX9_takes_136 : decode cX9_takes 136 = .ok (.lconst 1, 1) := by decide +kernel
theorem dX9_takes_137 : decode cX9_takes 137 = .ok (.ldc2_w 106, 3) := by decide +kernel
theorem dX9_takes_140 : decode cX9_takes 140 = .ok (.invokestatic 87, 3) := by decide +kernel
theorem dX9_takes_143 : decode cX9_takes 143 = .ok (.ifCond .eq 8, 3) := by decide +kernel
theorem dX9_takes_146 : decode cX9_takes 146 = .ok (.iload 5, 2) := by decide +kernel
theorem dX9_takes_148 : decode cX9_takes 148 = .ok (.ifCond .ne 5, 3) := by decide +kernel
theorem dX9_takes_151 : decode cX9_takes 151 = .ok (.iconst 0, 1) := by decide +kernel
theorem dX9_takes_152 : decode cX9_takes 152 = .ok (.ireturn, 1) := by decide +kernel
theorem dX9_takes_153 : decode cX9_takes 153 = .ok (.aload_n 0, 1) := by decide +kernel
theorem dX9_takes_154 : decode cX9_takes 154 = .ok (.getfield 34, 3) := by decide +kernel
theorem dX9_takes_157 : decode cX9_takes 157 = .ok (.iload_n 2, 1) := by decide +kernel
theorem dX9_takes_158 : decode cX9_takes 158 = .ok (.iload_n 3, 1) := by decide +kernel
theorem dX9_takes_159 : decode cX9_takes 159 = .ok (.iastore, 1) := by decide +kernel
theorem dX9_takes_160 : decode cX9_takes 160 = .ok (.aload_n 0, 1) := by decide +kernel
theorem dX9_takes_161 : decode cX9_takes 161 = .ok (.dup, 1) := by decide +kernel
theorem dX9_takes_162 : decode cX9_takes 162 = .ok (.getfield 99, 3) := by decide +kernel
theorem dX9_takes_165 : decode cX9_takes 165 = .ok (.iconst 1, 1) := by decide +kernel
theorem dX9_takes_166 : decode cX9_takes 166 = .ok (.iadd, 1) := by decide +kernel
theorem dX9_takes_167 : decode cX9_takes 167 = .ok (.putfield 99, 3) := by decide +kernel
theorem dX9_takes_170 : decode cX9_takes 170 = .ok (.iinc 2 1, 3) := by decide +kernel
theorem dX9_takes_173 : decode cX9_takes 173 = .ok (.goto (-171), 3) := by decide +kernel
theorem dX9_takes_176 : decode cX9_takes 176 = .ok (.iconst 1, 1) := by decide +kernel
theorem dX9_takes_177 : decode cX9_takes 177 = .ok (.ireturn, 1) := by decide +kernel
theorem dX9_takesBearer_0 : decode cX9_takesBearer 0 = .ok (.aload_n 0, 1) := by decide +kernel
theorem dX9_takesBearer_1 : decode cX9_takesBearer 1 = .ok (.iconst 2, 1) := by decide +kernel
theorem dX9_takesBearer_2 : decode cX9_takesBearer 2 = .ok (.invokevirtual 108, 3) := by decide +kernel
theorem dX9_takesBearer_5 : decode cX9_takesBearer 5 = .ok (.ifCond .eq 35, 3) := by decide +kernel
theorem dX9_takesBearer_8 : decode cX9_takesBearer 8 = .ok (.aload_n 0, 1) := by decide +kernel
theorem dX9_takesBearer_9 : decode cX9_takesBearer 9 = .ok (.iconst 0, 1) := by decide +kernel
theorem dX9_takesBearer_10 : decode cX9_takesBearer 10 = .ok (.iconst 1, 1) := by decide +kernel
theorem dX9_takesBearer_11 : decode cX9_takesBearer 11 = .ok (.bipush 60, 2) := by decide +kernel
theorem dX9_takesBearer_13 : decode cX9_takesBearer 13 = .ok (.invokevirtual 112, 3) := by decide +kernel
theorem dX9_takesBearer_16 : decode cX9_takesBearer 16 = .ok (.ifCond .eq 24, 3) := by decide +kernel
theorem dX9_takesBearer_19 : decode cX9_takesBearer 19 = .ok (.aload_n 0, 1) := by decide +kernel
theorem dX9_takesBearer_20 : decode cX9_takesBearer 20 = .ok (.iconst 1, 1) := by decide +kernel
theorem dX9_takesBearer_21 : decode cX9_takesBearer 21 = .ok (.iconst 0, 1) := by decide +kernel
theorem dX9_takesBearer_22 : decode cX9_takesBearer 22 = .ok (.iconst 3, 1) := by decide +kernel
theorem dX9_takesBearer_23 : decode cX9_takesBearer 23 = .ok (.invokevirtual 112, 3) := by decide +kernel
theorem dX9_takesBearer_26 : decode cX9_takesBearer 26 = .ok (.ifCond .eq 14, 3) := by decide +kernel
theorem dX9_takesBearer_29 : decode cX9_takesBearer 29 = .ok (.aload_n 0, 1) := by decide +kernel
theorem dX9_takesBearer_30 : decode cX9_takesBearer 30 = .ok (.getfield 13, 3) := by decide +kernel
theorem dX9_takesBearer_33 : decode cX9_takesBearer 33 = .ok (.iconst 1, 1) := by decide +kernel
theorem dX9_takesBearer_34 : decode cX9_takesBearer 34 = .ok (.iaload, 1) := by decide +kernel
theorem dX9_takesBearer_35 : decode cX9_takesBearer 35 = .ok (.bipush 6, 2) := by decide +kernel
theorem dX9_takesBearer_37 : decode cX9_takesBearer 37 = .ok (.if_icmp .ne 5, 3) := by decide +kernel
theorem dX9_takesBearer_40 : decode cX9_takesBearer 40 = .ok (.iconst 0, 1) := by decide +kernel
theorem dX9_takesBearer_41 : decode cX9_takesBearer 41 = .ok (.ireturn, 1) := by decide +kernel
theorem dX9_takesBearer_42 : decode cX9_takesBearer 42 = .ok (.aload_n 0, 1) := by decide +kernel
theorem dX9_takesBearer_43 : decode cX9_takesBearer 43 = .ok (.bipush 10, 2) := by decide +kernel
theorem dX9_takesBearer_45 : decode cX9_takesBearer 45 = .ok (.aload_n 0, 1) := by decide +kernel
theorem dX9_takesBearer_46 : decode cX9_takesBearer 46 = .ok (.getfield 34, 3) := by decide +kernel
theorem dX9_takesBearer_49 : decode cX9_takesBearer 49 = .ok (.iconst 0, 1) := by decide +kernel
theorem dX9_takesBearer_50 : decode cX9_takesBearer 50 = .ok (.iaload, 1) := by decide +kernel
theorem dX9_takesBearer_51 : decode cX9_takesBearer 51 = .ok (.imul, 1) := by decide +kernel
theorem dX9_takesBearer_52 : decode cX9_takesBearer 52 = .ok (.aload_n 0, 1) := by decide +kernel
theorem dX9_takesBearer_53 : decode cX9_takesBearer 53 = .ok (.getfield 34, 3) := by decide +kernel
theorem dX9_takesBearer_56 : decode cX9_takesBearer 56 = .ok (.iconst 1, 1) := by decide +kernel
theorem dX9_takesBearer_57 : decode cX9_takesBearer 57 = .ok (.iaload, 1) := by decide +kernel
theorem dX9_takesBearer_58 : decode cX9_takesBearer 58 = .ok (.invokevirtual 77, 3) := by decide +kernel
theorem dX9_takesBearer_61 : decode cX9_takesBearer 61 = .ok (.iconst 1, 1) := by decide +kernel
theorem dX9_takesBearer_62 : decode cX9_takesBearer 62 = .ok (.ireturn, 1) := by decide +kernel
theorem dX9_takesItem_0 : decode cX9_takesItem 0 = .ok (.aload_n 0, 1) := by decide +kernel
theorem dX9_takesItem_1 : decode cX9_takesItem 1 = .ok (.getfield 28, 3) := by decide +kernel
theorem dX9_takesItem_4 : decode cX9_takesItem 4 = .ok (.aload_n 0, 1) := by decide +kernel
theorem dX9_takesItem_5 : decode cX9_takesItem 5 = .ok (.getfield 99, 3) := by decide +kernel
theorem dX9_takesItem_8 : decode cX9_takesItem 8 = .ok (.iaload, 1) := by decide +kernel
theorem dX9_takesItem_9 : decode cX9_takesItem 9 = .ok (.istore_n 1, 1) := by decide +kernel
theorem dX9_takesItem_10 : decode cX9_takesItem 10 = .ok (.aload_n 0, 1) := by decide +kernel
theorem dX9_takesItem_11 : decode cX9_takesItem 11 = .ok (.dup, 1) := by decide +kernel
theorem dX9_takesItem_12 : decode cX9_takesItem 12 = .ok (.getfield 99, 3) := by decide +kernel
theorem dX9_takesItem_15 : decode cX9_takesItem 15 = .ok (.iconst 1, 1) := by decide +kernel
theorem dX9_takesItem_16 : decode cX9_takesItem 16 = .ok (.iadd, 1) := by decide +kernel
theorem dX9_takesItem_17 : decode cX9_takesItem 17 = .ok (.putfield 99, 3) := by decide +kernel
theorem dX9_takesItem_20 : decode cX9_takesItem 20 = .ok (.iload_n 1, 1) := by decide +kernel
theorem dX9_takesItem_21 : decode cX9_takesItem 21 = .ok (.lookupswitch 95 #[(98, 64), (109, 69), (114, 77), (115, 59), (116, 85), (120, 90)], 59) := by decide +kernel
theorem dX9_takesItem_80 : decode cX9_takesItem 80 = .ok (.aload_n 0, 1) := by decide +kernel
theorem dX9_takesItem_81 : decode cX9_takesItem 81 = .ok (.invokevirtual 120, 3) := by decide +kernel
theorem dX9_takesItem_84 : decode cX9_takesItem 84 = .ok (.ireturn, 1) := by decide +kernel
theorem dX9_takesItem_85 : decode cX9_takesItem 85 = .ok (.aload_n 0, 1) := by decide +kernel
theorem dX9_takesItem_86 : decode cX9_takesItem 86 = .ok (.invokevirtual 124, 3) := by decide +kernel
theorem dX9_takesItem_89 : decode cX9_takesItem 89 = .ok (.ireturn, 1) := by decide +kernel
theorem dX9_takesItem_90 : decode cX9_takesItem 90 = .ok (.aload_n 0, 1) := by decide +kernel
theorem dX9_takesItem_91 : decode cX9_takesItem 91 = .ok (.iconst 2, 1) := by decide +kernel
theorem dX9_takesItem_92 : decode cX9_takesItem 92 = .ok (.iconst 1, 1) := by decide +kernel
theorem dX9_takesItem_93 : decode cX9_takesItem 93 = .ok (.iconst 3, 1) := by decide +kernel
theorem dX9_takesItem_94 : decode cX9_takesItem 94 = .ok (.invokevirtual 127, 3) := by decide +kernel
theorem dX9_takesItem_97 : decode cX9_takesItem 97 = .ok (.ireturn, 1) := by decide +kernel
theorem dX9_takesItem_98 : decode cX9_takesItem 98 = .ok (.aload_n 0, 1) := by decide +kernel
theorem dX9_takesItem_99 : decode cX9_takesItem 99 = .ok (.iconst 3, 1) := by decide +kernel
theorem dX9_takesItem_100 : decode cX9_takesItem 100 = .ok (.iconst 0, 1) := by decide +kernel
theorem dX9_takesItem_101 : decode cX9_takesItem 101 = .ok (.iconst 3, 1) := by decide +kernel
theorem dX9_takesItem_102 : decode cX9_takesItem 102 = .ok (.invokevirtual 127, 3) := by decide +kernel
theorem dX9_takesItem_105 : decode cX9_takesItem 105 = .ok (.ireturn, 1) := by decide +kernel
theorem dX9_takesItem_106 : decode cX9_takesItem 106 = .ok (.aload_n 0, 1) := by decide +kernel
theorem dX9_takesItem_107 : decode cX9_takesItem 107 = .ok (.invokevirtual 130, 3) := by decide +kernel
theorem dX9_takesItem_110 : decode cX9_takesItem 110 = .ok (.ireturn, 1) := by decide +kernel
theorem dX9_takesItem_111 : decode cX9_takesItem 111 = .ok (.aload_n 0, 1) := by decide +kernel
theorem dX9_takesItem_112 : decode cX9_takesItem 112 = .ok (.invokevirtual 133, 3) := by decide +kernel
theorem dX9_takesItem_115 : decode cX9_takesItem 115 = .ok (.ireturn, 1) := by decide +kernel
theorem dX9_takesItem_116 : decode cX9_takesItem 116 = .ok (.iconst 0, 1) := by decide +kernel
theorem dX9_takesItem_117 : decode cX9_takesItem 117 = .ok (.ireturn, 1) := by decide +kernel
theorem dX9_takesOne_0 : decode cX9_takesOne 0 = .ok (.aload_n 0, 1) := by decide +kernel
theorem dX9_takesOne_1 : decode cX9_takesOne 1 = .ok (.iconst 1, 1) := by decide +kernel
theorem dX9_takesOne_2 : decode cX9_takesOne 2 = .ok (.invokevirtual 108, 3) := by decide +kernel
theorem dX9_takesOne_5 : decode cX9_takesOne 5 = .ok (.ifCond .eq 13, 3) := by decide +kernel
theorem dX9_takesOne_8 : decode cX9_takesOne 8 = .ok (.aload_n 0, 1) := by decide +kernel
theorem dX9_takesOne_9 : decode cX9_takesOne 9 = .ok (.iconst 0, 1) := by decide +kernel
theorem dX9_takesOne_10 : decode cX9_takesOne 10 = .ok (.iload_n 2, 1) := by decide +kernel
theorem dX9_takesOne_11 : decode cX9_takesOne 11 = .ok (.iload_n 3, 1) := by decide +kernel
theorem dX9_takesOne_12 : decode cX9_takesOne 12 = .ok (.invokevirtual 112, 3) := by decide +kernel
theorem dX9_takesOne_15 : decode cX9_takesOne 15 = .ok (.ifCond .ne 5, 3) := by decide +kernel
theorem dX9_takesOne_18 : decode cX9_takesOne 18 = .ok (.iconst 0, 1) := by decide +kernel
theorem dX9_takesOne_19 : decode cX9_takesOne 19 = .ok (.ireturn, 1) := by decide +kernel
theorem dX9_takesOne_20 : decode cX9_takesOne 20 = .ok (.aload_n 0, 1) := by decide +kernel
theorem dX9_takesOne_21 : decode cX9_takesOne 21 = .ok (.getfield 13, 3) := by decide +kernel
theorem dX9_takesOne_24 : decode cX9_takesOne 24 = .ok (.iload_n 1, 1) := by decide +kernel
theorem dX9_takesOne_25 : decode cX9_takesOne 25 = .ok (.aload_n 0, 1) := by decide +kernel
theorem dX9_takesOne_26 : decode cX9_takesOne 26 = .ok (.getfield 34, 3) := by decide +kernel
theorem dX9_takesOne_29 : decode cX9_takesOne 29 = .ok (.iconst 0, 1) := by decide +kernel
theorem dX9_takesOne_30 : decode cX9_takesOne 30 = .ok (.iaload, 1) := by decide +kernel
theorem dX9_takesOne_31 : decode cX9_takesOne 31 = .ok (.iastore, 1) := by decide +kernel
theorem dX9_takesOne_32 : decode cX9_takesOne 32 = .ok (.iconst 1, 1) := by decide +kernel
theorem dX9_takesOne_33 : decode cX9_takesOne 33 = .ok (.ireturn, 1) := by decide +kernel
theorem dX9_takesPrice_0 : decode cX9_takesPrice 0 = .ok (.aload_n 0, 1) := by decide +kernel
theorem dX9_takesPrice_1 : decode cX9_takesPrice 1 = .ok (.iconst 2, 1) := by decide +kernel
theorem dX9_takesPrice_2 : decode cX9_takesPrice 2 = .ok (.invokevirtual 108, 3) := by decide +kernel
theorem dX9_takesPrice_5 : decode cX9_takesPrice 5 = .ok (.ifCond .eq 31, 3) := by decide +kernel
theorem dX9_takesPrice_8 : decode cX9_takesPrice 8 = .ok (.aload_n 0, 1) := by decide +kernel
theorem dX9_takesPrice_9 : decode cX9_takesPrice 9 = .ok (.iconst 0, 1) := by decide +kernel
theorem dX9_takesPrice_10 : decode cX9_takesPrice 10 = .ok (.iconst 0, 1) := by decide +kernel
theorem dX9_takesPrice_11 : decode cX9_takesPrice 11 = .ok (.aload_n 0, 1) := by decide +kernel
theorem dX9_takesPrice_12 : decode cX9_takesPrice 12 = .ok (.getfield 13, 3) := by decide +kernel
theorem dX9_takesPrice_15 : decode cX9_takesPrice 15 = .ok (.iconst 0, 1) := by decide +kernel
theorem dX9_takesPrice_16 : decode cX9_takesPrice 16 = .ok (.iaload, 1) := by decide +kernel
theorem dX9_takesPrice_17 : decode cX9_takesPrice 17 = .ok (.iconst 1, 1) := by decide +kernel
theorem dX9_takesPrice_18 : decode cX9_takesPrice 18 = .ok (.isub, 1) := by decide +kernel
theorem dX9_takesPrice_19 : decode cX9_takesPrice 19 = .ok (.invokevirtual 112, 3) := by decide +kernel
theorem dX9_takesPrice_22 : decode cX9_takesPrice 22 = .ok (.ifCond .eq 14, 3) := by decide +kernel
theorem dX9_takesPrice_25 : decode cX9_takesPrice 25 = .ok (.aload_n 0, 1) := by decide +kernel
theorem dX9_takesPrice_26 : decode cX9_takesPrice 26 = .ok (.iconst 1, 1) := by decide +kernel
theorem dX9_takesPrice_27 : decode cX9_takesPrice 27 = .ok (.iconst 1, 1) := by decide +kernel
theorem dX9_takesPrice_28 : decode cX9_takesPrice 28 = .ok (.bipush 9, 2) := by decide +kernel
theorem dX9_takesPrice_30 : decode cX9_takesPrice 30 = .ok (.invokevirtual 112, 3) := by decide +kernel
theorem dX9_takesPrice_33 : decode cX9_takesPrice 33 = .ok (.ifCond .ne 5, 3) := by decide +kernel
theorem dX9_takesPrice_36 : decode cX9_takesPrice 36 = .ok (.iconst 0, 1) := by decide +kernel
theorem dX9_takesPrice_37 : decode cX9_takesPrice 37 = .ok (.ireturn, 1) := by decide +kernel
theorem dX9_takesPrice_38 : decode cX9_takesPrice 38 = .ok (.aload_n 0, 1) := by decide +kernel
theorem dX9_takesPrice_39 : decode cX9_takesPrice 39 = .ok (.getfield 13, 3) := by decide +kernel
theorem dX9_takesPrice_42 : decode cX9_takesPrice 42 = .ok (.bipush 16, 2) := by decide +kernel
theorem dX9_takesPrice_44 : decode cX9_takesPrice 44 = .ok (.aload_n 0, 1) := by decide +kernel
theorem dX9_takesPrice_45 : decode cX9_takesPrice 45 = .ok (.getfield 34, 3) := by decide +kernel
theorem dX9_takesPrice_48 : decode cX9_takesPrice 48 = .ok (.iconst 0, 1) := by decide +kernel
theorem dX9_takesPrice_49 : decode cX9_takesPrice 49 = .ok (.iaload, 1) := by decide +kernel
theorem dX9_takesPrice_50 : decode cX9_takesPrice 50 = .ok (.iadd, 1) := by decide +kernel
theorem dX9_takesPrice_51 : decode cX9_takesPrice 51 = .ok (.aload_n 0, 1) := by decide +kernel
theorem dX9_takesPrice_52 : decode cX9_takesPrice 52 = .ok (.getfield 34, 3) := by decide +kernel
theorem dX9_takesPrice_55 : decode cX9_takesPrice 55 = .ok (.iconst 1, 1) := by decide +kernel
theorem dX9_takesPrice_56 : decode cX9_takesPrice 56 = .ok (.iaload, 1) := by decide +kernel
theorem dX9_takesPrice_57 : decode cX9_takesPrice 57 = .ok (.iastore, 1) := by decide +kernel
theorem dX9_takesPrice_58 : decode cX9_takesPrice 58 = .ok (.iconst 1, 1) := by decide +kernel
theorem dX9_takesPrice_59 : decode cX9_takesPrice 59 = .ok (.ireturn, 1) := by decide +kernel
theorem dX9_takesStretch_0 : decode cX9_takesStretch 0 = .ok (.aload_n 0, 1) := by decide +kernel
theorem dX9_takesStretch_1 : decode cX9_takesStretch 1 = .ok (.iconst 2, 1) := by decide +kernel
theorem dX9_takesStretch_2 : decode cX9_takesStretch 2 = .ok (.invokevirtual 108, 3) := by decide +kernel
theorem dX9_takesStretch_5 : decode cX9_takesStretch 5 = .ok (.ifCond .eq 54, 3) := by decide +kernel
theorem dX9_takesStretch_8 : decode cX9_takesStretch 8 = .ok (.aload_n 0, 1) := by decide +kernel
theorem dX9_takesStretch_9 : decode cX9_takesStretch 9 = .ok (.iconst 0, 1) := by decide +kernel
theorem dX9_takesStretch_10 : decode cX9_takesStretch 10 = .ok (.iconst 1, 1) := by decide +kernel
theorem dX9_takesStretch_11 : decode cX9_takesStretch 11 = .ok (.bipush 30, 2) := by decide +kernel
theorem dX9_takesStretch_13 : decode cX9_takesStretch 13 = .ok (.invokevirtual 112, 3) := by decide +kernel
theorem dX9_takesStretch_16 : decode cX9_takesStretch 16 = .ok (.ifCond .eq 43, 3) := by decide +kernel
theorem dX9_takesStretch_19 : decode cX9_takesStretch 19 = .ok (.aload_n 0, 1) := by decide +kernel
theorem dX9_takesStretch_20 : decode cX9_takesStretch 20 = .ok (.iconst 1, 1) := by decide +kernel
theorem dX9_takesStretch_21 : decode cX9_takesStretch 21 = .ok (.iconst 0, 1) := by decide +kernel
theorem dX9_takesStretch_22 : decode cX9_takesStretch 22 = .ok (.iconst 5, 1) := by decide +kernel
theorem dX9_takesStretch_23 : decode cX9_takesStretch 23 = .ok (.invokevirtual 112, 3) := by decide +kernel
theorem dX9_takesStretch_26 : decode cX9_takesStretch 26 = .ok (.ifCond .eq 33, 3) := by decide +kernel
theorem dX9_takesStretch_29 : decode cX9_takesStretch 29 = .ok (.aload_n 0, 1) := by decide +kernel
theorem dX9_takesStretch_30 : decode cX9_takesStretch 30 = .ok (.getfield 13, 3) := by decide +kernel
theorem dX9_takesStretch_33 : decode cX9_takesStretch 33 = .ok (.iconst 0, 1) := by decide +kernel
theorem dX9_takesStretch_34 : decode cX9_takesStretch 34 = .ok (.iaload, 1) := by decide +kernel
theorem dX9_takesStretch_35 : decode cX9_takesStretch 35 = .ok (.bipush 6, 2) := by decide +kernel
theorem dX9_takesStretch_37 : decode cX9_takesStretch 37 = .ok (.if_icmp .eq 22, 3) := by decide +kernel
theorem dX9_takesStretch_40 : decode cX9_takesStretch 40 = .ok (.aload_n 0, 1) := by decide +kernel
theorem dX9_takesStretch_41 : decode cX9_takesStretch 41 = .ok (.getfield 13, 3) := by decide +kernel
theorem dX9_takesStretch_44 : decode cX9_takesStretch 44 = .ok (.invokestatic 116, 3) := by decide +kernel
theorem dX9_takesStretch_47 : decode cX9_takesStretch 47 = .ok (.aload_n 0, 1) := by decide +kernel
theorem dX9_takesStretch_48 : decode cX9_takesStretch 48 = .ok (.getfield 34, 3) := by decide +kernel
theorem dX9_takesStretch_51 : decode cX9_takesStretch 51 = .ok (.iconst 0, 1) := by decide +kernel
theorem dX9_takesStretch_52 : decode cX9_takesStretch 52 = .ok (.iaload, 1) := by decide +kernel
theorem dX9_takesStretch_53 : decode cX9_takesStretch 53 = .ok (.iadd, 1) := by decide +kernel
theorem dX9_takesStretch_54 : decode cX9_takesStretch 54 = .ok (.bipush 120, 2) := by decide +kernel
theorem dX9_takesStretch_56 : decode cX9_takesStretch 56 = .ok (.if_icmp .le 5, 3) := by decide +kernel
theorem dX9_takesStretch_59 : decode cX9_takesStretch 59 = .ok (.iconst 0, 1) := by decide +kernel
theorem dX9_takesStretch_60 : decode cX9_takesStretch 60 = .ok (.ireturn, 1) := by decide +kernel
theorem dX9_takesStretch_61 : decode cX9_takesStretch 61 = .ok (.aload_n 0, 1) := by decide +kernel
theorem dX9_takesStretch_62 : decode cX9_takesStretch 62 = .ok (.aload_n 0, 1) := by decide +kernel
theorem dX9_takesStretch_63 : decode cX9_takesStretch 63 = .ok (.getfield 34, 3) := by decide +kernel
theorem dX9_takesStretch_66 : decode cX9_takesStretch 66 = .ok (.iconst 0, 1) := by decide +kernel
theorem dX9_takesStretch_67 : decode cX9_takesStretch 67 = .ok (.iaload, 1) := by decide +kernel
theorem dX9_takesStretch_68 : decode cX9_takesStretch 68 = .ok (.aload_n 0, 1) := by decide +kernel
theorem dX9_takesStretch_69 : decode cX9_takesStretch 69 = .ok (.getfield 34, 3) := by decide +kernel
theorem dX9_takesStretch_72 : decode cX9_takesStretch 72 = .ok (.iconst 1, 1) := by decide +kernel
theorem dX9_takesStretch_73 : decode cX9_takesStretch 73 = .ok (.iaload, 1) := by decide +kernel
theorem dX9_takesStretch_74 : decode cX9_takesStretch 74 = .ok (.invokevirtual 73, 3) := by decide +kernel
theorem dX9_takesStretch_77 : decode cX9_takesStretch 77 = .ok (.iconst 1, 1) := by decide +kernel
theorem dX9_takesStretch_78 : decode cX9_takesStretch 78 = .ok (.ireturn, 1) := by decide +kernel
theorem dX9_takesTurn_0 : decode cX9_takesTurn 0 = .ok (.aload_n 0, 1) := by decide +kernel
theorem dX9_takesTurn_1 : decode cX9_takesTurn 1 = .ok (.getfield 19, 3) := by decide +kernel
theorem dX9_takesTurn_4 : decode cX9_takesTurn 4 = .ok (.iconst 0, 1) := by decide +kernel
theorem dX9_takesTurn_5 : decode cX9_takesTurn 5 = .ok (.iaload, 1) := by decide +kernel
theorem dX9_takesTurn_6 : decode cX9_takesTurn 6 = .ok (.istore 4, 2) := by decide +kernel
theorem dX9_takesTurn_8 : decode cX9_takesTurn 8 = .ok (.aload_n 0, 1) := by decide +kernel
theorem dX9_takesTurn_9 : decode cX9_takesTurn 9 = .ok (.getfield 19, 3) := by decide +kernel
theorem dX9_takesTurn_12 : decode cX9_takesTurn 12 = .ok (.iconst 1, 1) := by decide +kernel
theorem dX9_takesTurn_13 : decode cX9_takesTurn 13 = .ok (.iload 4, 2) := by decide +kernel
theorem dX9_takesTurn_15 : decode cX9_takesTurn 15 = .ok (.iadd, 1) := by decide +kernel
theorem dX9_takesTurn_16 : decode cX9_takesTurn 16 = .ok (.iload_n 1, 1) := by decide +kernel
theorem dX9_takesTurn_17 : decode cX9_takesTurn 17 = .ok (.iastore, 1) := by decide +kernel
theorem dX9_takesTurn_18 : decode cX9_takesTurn 18 = .ok (.aload_n 0, 1) := by decide +kernel
theorem dX9_takesTurn_19 : decode cX9_takesTurn 19 = .ok (.getfield 19, 3) := by decide +kernel
theorem dX9_takesTurn_22 : decode cX9_takesTurn 22 = .ok (.bipush 11, 2) := by decide +kernel
theorem dX9_takesTurn_24 : decode cX9_takesTurn 24 = .ok (.iload 4, 2) := by decide +kernel
theorem dX9_takesTurn_26 : decode cX9_takesTurn 26 = .ok (.iadd, 1) := by decide +kernel
theorem dX9_takesTurn_27 : decode cX9_takesTurn 27 = .ok (.iload_n 2, 1) := by decide +kernel
theorem dX9_takesTurn_28 : decode cX9_takesTurn 28 = .ok (.iastore, 1) := by decide +kernel
theorem dX9_takesTurn_29 : decode cX9_takesTurn 29 = .ok (.aload_n 0, 1) := by decide +kernel
theorem dX9_takesTurn_30 : decode cX9_takesTurn 30 = .ok (.getfield 19, 3) := by decide +kernel
theorem dX9_takesTurn_33 : decode cX9_takesTurn 33 = .ok (.bipush 21, 2) := by decide +kernel
theorem dX9_takesTurn_35 : decode cX9_takesTurn 35 = .ok (.iload 4, 2) := by decide +kernel
theorem dX9_takesTurn_37 : decode cX9_takesTurn 37 = .ok (.iadd, 1) := by decide +kernel
theorem dX9_takesTurn_38 : decode cX9_takesTurn 38 = .ok (.iload_n 3, 1) := by decide +kernel
theorem dX9_takesTurn_39 : decode cX9_takesTurn 39 = .ok (.iastore, 1) := by decide +kernel
theorem dX9_takesTurn_40 : decode cX9_takesTurn 40 = .ok (.aload_n 0, 1) := by decide +kernel
theorem dX9_takesTurn_41 : decode cX9_takesTurn 41 = .ok (.getfield 19, 3) := by decide +kernel
theorem dX9_takesTurn_44 : decode cX9_takesTurn 44 = .ok (.iconst 0, 1) := by decide +kernel
theorem dX9_takesTurn_45 : decode cX9_takesTurn 45 = .ok (.dup2, 1) := by decide +kernel
theorem dX9_takesTurn_46 : decode cX9_takesTurn 46 = .ok (.iaload, 1) := by decide +kernel
theorem dX9_takesTurn_47 : decode cX9_takesTurn 47 = .ok (.iconst 1, 1) := by decide +kernel
theorem dX9_takesTurn_48 : decode cX9_takesTurn 48 = .ok (.iadd, 1) := by decide +kernel
theorem dX9_takesTurn_49 : decode cX9_takesTurn 49 = .ok (.iastore, 1) := by decide +kernel
theorem dX9_takesTurn_50 : decode cX9_takesTurn 50 = .ok (.return_, 1) := by decide +kernel
theorem dX9_takesTurns_0 : decode cX9_takesTurns 0 = .ok (.aload_n 0, 1) := by decide +kernel
theorem dX9_takesTurns_1 : decode cX9_takesTurns 1 = .ok (.iconst 3, 1) := by decide +kernel
theorem dX9_takesTurns_2 : decode cX9_takesTurns 2 = .ok (.invokevirtual 108, 3) := by decide +kernel
theorem dX9_takesTurns_5 : decode cX9_takesTurns 5 = .ok (.ifCond .eq 46, 3) := by decide +kernel
theorem dX9_takesTurns_8 : decode cX9_takesTurns 8 = .ok (.aload_n 0, 1) := by decide +kernel
theorem dX9_takesTurns_9 : decode cX9_takesTurns 9 = .ok (.iconst 0, 1) := by decide +kernel
theorem dX9_takesTurns_10 : decode cX9_takesTurns 10 = .ok (.iconst 0, 1) := by decide +kernel
theorem dX9_takesTurns_11 : decode cX9_takesTurns 11 = .ok (.aload_n 0, 1) := by decide +kernel
theorem dX9_takesTurns_12 : decode cX9_takesTurns 12 = .ok (.getfield 13, 3) := by decide +kernel
theorem dX9_takesTurns_15 : decode cX9_takesTurns 15 = .ok (.iconst 1, 1) := by decide +kernel
theorem dX9_takesTurns_16 : decode cX9_takesTurns 16 = .ok (.iaload, 1) := by decide +kernel
theorem dX9_takesTurns_17 : decode cX9_takesTurns 17 = .ok (.iconst 1, 1) := by decide +kernel
theorem dX9_takesTurns_18 : decode cX9_takesTurns 18 = .ok (.isub, 1) := by decide +kernel
theorem dX9_takesTurns_19 : decode cX9_takesTurns 19 = .ok (.invokevirtual 112, 3) := by decide +kernel
theorem dX9_takesTurns_22 : decode cX9_takesTurns 22 = .ok (.ifCond .eq 29, 3) := by decide +kernel
theorem dX9_takesTurns_25 : decode cX9_takesTurns 25 = .ok (.aload_n 0, 1) := by decide +kernel
theorem dX9_takesTurns_26 : decode cX9_takesTurns 26 = .ok (.getfield 34, 3) := by decide +kernel
theorem dX9_takesTurns_29 : decode cX9_takesTurns 29 = .ok (.iconst 1, 1) := by decide +kernel
theorem dX9_takesTurns_30 : decode cX9_takesTurns 30 = .ok (.iaload, 1) := by decide +kernel
theorem dX9_takesTurns_31 : decode cX9_takesTurns 31 = .ok (.aload_n 0, 1) := by decide +kernel
theorem dX9_takesTurns_32 : decode cX9_takesTurns 32 = .ok (.getfield 34, 3) := by decide +kernel
theorem dX9_takesTurns_35 : decode cX9_takesTurns 35 = .ok (.iconst 2, 1) := by decide +kernel
theorem dX9_takesTurns_36 : decode cX9_takesTurns 36 = .ok (.iaload, 1) := by decide +kernel
theorem dX9_takesTurns_37 : decode cX9_takesTurns 37 = .ok (.if_icmp .gt 14, 3) := by decide +kernel
theorem dX9_takesTurns_40 : decode cX9_takesTurns 40 = .ok (.aload_n 0, 1) := by decide +kernel
theorem dX9_takesTurns_41 : decode cX9_takesTurns 41 = .ok (.getfield 19, 3) := by decide +kernel
theorem dX9_takesTurns_44 : decode cX9_takesTurns 44 = .ok (.iconst 0, 1) := by decide +kernel
theorem dX9_takesTurns_45 : decode cX9_takesTurns 45 = .ok (.iaload, 1) := by decide +kernel
theorem dX9_takesTurns_46 : decode cX9_takesTurns 46 = .ok (.bipush 9, 2) := by decide +kernel
theorem dX9_takesTurns_48 : decode cX9_takesTurns 48 = .ok (.if_icmp .ne 5, 3) := by decide +kernel
theorem dX9_takesTurns_51 : decode cX9_takesTurns 51 = .ok (.iconst 0, 1) := by decide +kernel
theorem dX9_takesTurns_52 : decode cX9_takesTurns 52 = .ok (.ireturn, 1) := by decide +kernel
theorem dX9_takesTurns_53 : decode cX9_takesTurns 53 = .ok (.aload_n 0, 1) := by decide +kernel
theorem dX9_takesTurns_54 : decode cX9_takesTurns 54 = .ok (.aload_n 0, 1) := by decide +kernel
theorem dX9_takesTurns_55 : decode cX9_takesTurns 55 = .ok (.getfield 34, 3) := by decide +kernel
theorem dX9_takesTurns_58 : decode cX9_takesTurns 58 = .ok (.iconst 0, 1) := by decide +kernel
theorem dX9_takesTurns_59 : decode cX9_takesTurns 59 = .ok (.iaload, 1) := by decide +kernel
theorem dX9_takesTurns_60 : decode cX9_takesTurns 60 = .ok (.aload_n 0, 1) := by decide +kernel
theorem dX9_takesTurns_61 : decode cX9_takesTurns 61 = .ok (.getfield 34, 3) := by decide +kernel
theorem dX9_takesTurns_64 : decode cX9_takesTurns 64 = .ok (.iconst 1, 1) := by decide +kernel
theorem dX9_takesTurns_65 : decode cX9_takesTurns 65 = .ok (.iaload, 1) := by decide +kernel
theorem dX9_takesTurns_66 : decode cX9_takesTurns 66 = .ok (.aload_n 0, 1) := by decide +kernel
theorem dX9_takesTurns_67 : decode cX9_takesTurns 67 = .ok (.getfield 34, 3) := by decide +kernel
theorem dX9_takesTurns_70 : decode cX9_takesTurns 70 = .ok (.iconst 2, 1) := by decide +kernel
theorem dX9_takesTurns_71 : decode cX9_takesTurns 71 = .ok (.iaload, 1) := by decide +kernel
theorem dX9_takesTurns_72 : decode cX9_takesTurns 72 = .ok (.invokevirtual 80, 3) := by decide +kernel
theorem dX9_takesTurns_75 : decode cX9_takesTurns 75 = .ok (.iconst 1, 1) := by decide +kernel
theorem dX9_takesTurns_76 : decode cX9_takesTurns 76 = .ok (.ireturn, 1) := by decide +kernel
theorem dX9_tolds_0 : decode cX9_tolds 0 = .ok (.iconst 0, 1) := by decide +kernel
theorem dX9_tolds_1 : decode cX9_tolds 1 = .ok (.istore_n 2, 1) := by decide +kernel
theorem dX9_tolds_2 : decode cX9_tolds 2 = .ok (.iconst 0, 1) := by decide +kernel
theorem dX9_tolds_3 : decode cX9_tolds 3 = .ok (.istore_n 3, 1) := by decide +kernel
theorem dX9_tolds_4 : decode cX9_tolds 4 = .ok (.iload_n 3, 1) := by decide +kernel
theorem dX9_tolds_5 : decode cX9_tolds 5 = .ok (.aload_n 0, 1) := by decide +kernel
theorem dX9_tolds_6 : decode cX9_tolds 6 = .ok (.getfield 40, 3) := by decide +kernel
theorem dX9_tolds_9 : decode cX9_tolds 9 = .ok (.iconst 0, 1) := by decide +kernel
theorem dX9_tolds_10 : decode cX9_tolds 10 = .ok (.iaload, 1) := by decide +kernel
theorem dX9_tolds_11 : decode cX9_tolds 11 = .ok (.if_icmp .ge 54, 3) := by decide +kernel
theorem dX9_tolds_14 : decode cX9_tolds 14 = .ok (.iload_n 2, 1) := by decide +kernel
theorem dX9_tolds_15 : decode cX9_tolds 15 = .ok (.iload_n 1, 1) := by decide +kernel
theorem dX9_tolds_16 : decode cX9_tolds 16 = .ok (.i2l, 1) := by decide +kernel
theorem dX9_tolds_17 : decode cX9_tolds 17 = .ok (.aload_n 0, 1) := by decide +kernel
theorem dX9_tolds_18 : decode cX9_tolds 18 = .ok (.getfield 40, 3) := by decide +kernel
theorem dX9_tolds_21 : decode cX9_tolds 21 = .ok (.bipush 11, 2) := by decide +kernel
theorem dX9_tolds_23 : decode cX9_tolds 23 = .ok (.iload_n 3, 1) := by decide +kernel
theorem dX9_tolds_24 : decode cX9_tolds 24 = .ok (.iadd, 1) := by decide +kernel
theorem dX9_tolds_25 : decode cX9_tolds 25 = .ok (.iaload, 1) := by decide +kernel
theorem dX9_tolds_26 : decode cX9_tolds 26 = .ok (.i2l, 1) := by decide +kernel
theorem dX9_tolds_27 : decode cX9_tolds 27 = .ok (.aload_n 0, 1) := by decide +kernel
theorem dX9_tolds_28 : decode cX9_tolds 28 = .ok (.getfield 40, 3) := by decide +kernel
theorem dX9_tolds_31 : decode cX9_tolds 31 = .ok (.bipush 21, 2) := by decide +kernel
theorem dX9_tolds_33 : decode cX9_tolds 33 = .ok (.iload_n 3, 1) := by decide +kernel
theorem dX9_tolds_34 : decode cX9_tolds 34 = .ok (.iadd, 1) := by decide +kernel
theorem dX9_tolds_35 : decode cX9_tolds 35 = .ok (.iaload, 1) := by decide +kernel
theorem dX9_tolds_36 : decode cX9_tolds 36 = .ok (.i2l, 1) := by decide +kernel
theorem dX9_tolds_37 : decode cX9_tolds 37 = .ok (.invokestatic 87, 3) := by decide +kernel
theorem dX9_tolds_40 : decode cX9_tolds 40 = .ok (.ifCond .eq 16, 3) := by decide +kernel
theorem dX9_tolds_43 : decode cX9_tolds 43 = .ok (.iconst 1, 1) := by decide +kernel
theorem dX9_tolds_44 : decode cX9_tolds 44 = .ok (.aload_n 0, 1) := by decide +kernel
theorem dX9_tolds_45 : decode cX9_tolds 45 = .ok (.getfield 40, 3) := by decide +kernel
theorem dX9_tolds_48 : decode cX9_tolds 48 = .ok (.iconst 1, 1) := by decide +kernel
theorem dX9_tolds_49 : decode cX9_tolds 49 = .ok (.iload_n 3, 1) := by decide +kernel
theorem dX9_tolds_50 : decode cX9_tolds 50 = .ok (.iadd, 1) := by decide +kernel
theorem dX9_tolds_51 : decode cX9_tolds 51 = .ok (.iaload, 1) := by decide +kernel
theorem dX9_tolds_52 : decode cX9_tolds 52 = .ok (.ishl, 1) := by decide +kernel
theorem dX9_tolds_53 : decode cX9_tolds 53 = .ok (.goto 4, 3) := by decide +kernel
theorem dX9_tolds_56 : decode cX9_tolds 56 = .ok (.iconst 0, 1) := by decide +kernel
theorem dX9_tolds_57 : decode cX9_tolds 57 = .ok (.ior, 1) := by decide +kernel
theorem dX9_tolds_58 : decode cX9_tolds 58 = .ok (.istore_n 2, 1) := by decide +kernel
theorem dX9_tolds_59 : decode cX9_tolds 59 = .ok (.iinc 3 1, 3) := by decide +kernel
theorem dX9_tolds_62 : decode cX9_tolds 62 = .ok (.goto (-58), 3) := by decide +kernel
theorem dX9_tolds_65 : decode cX9_tolds 65 = .ok (.iload_n 2, 1) := by decide +kernel
theorem dX9_tolds_66 : decode cX9_tolds 66 = .ok (.ireturn, 1) := by decide +kernel
theorem dX9_turn_0 : decode cX9_turn 0 = .ok (.aload_n 0, 1) := by decide +kernel
theorem dX9_turn_1 : decode cX9_turn 1 = .ok (.iload_n 1, 1) := by decide +kernel
theorem dX9_turn_2 : decode cX9_turn 2 = .ok (.invokevirtual 232, 3) := by decide +kernel
theorem dX9_turn_5 : decode cX9_turn 5 = .ok (.ifCond .eq 31, 3) := by decide +kernel
theorem dX9_turn_8 : decode cX9_turn 8 = .ok (.iload_n 2, 1) := by decide +kernel
theorem dX9_turn_9 : decode cX9_turn 9 = .ok (.i2l, 1) := by decide +kernel
theorem dX9_turn_10 : decode cX9_turn 10 = .ok (.lconst 0, 1) := by decide +kernel
theorem dX9_turn_11 : decode cX9_turn 11 = .ok (.ldc2_w 106, 3) := by decide +kernel
theorem dX9_turn_14 : decode cX9_turn 14 = .ok (.invokestatic 87, 3) := by decide +kernel
theorem dX9_turn_17 : decode cX9_turn 17 = .ok (.ifCond .eq 19, 3) := by decide +kernel
theorem dX9_turn_20 : decode cX9_turn 20 = .ok (.aload_n 0, 1) := by decide +kernel
theorem dX9_turn_21 : decode cX9_turn 21 = .ok (.getfield 16, 3) := by decide +kernel
theorem dX9_turn_24 : decode cX9_turn 24 = .ok (.iconst 1, 1) := by decide +kernel
theorem dX9_turn_25 : decode cX9_turn 25 = .ok (.bipush 10, 2) := by decide +kernel
theorem dX9_turn_27 : decode cX9_turn 27 = .ok (.iload_n 2, 1) := by decide +kernel
theorem dX9_turn_28 : decode cX9_turn 28 = .ok (.imul, 1) := by decide +kernel
theorem dX9_turn_29 : decode cX9_turn 29 = .ok (.iadd, 1) := by decide +kernel
theorem dX9_turn_30 : decode cX9_turn 30 = .ok (.iload_n 1, 1) := by decide +kernel
theorem dX9_turn_31 : decode cX9_turn 31 = .ok (.iadd, 1) := by decide +kernel
theorem dX9_turn_32 : decode cX9_turn 32 = .ok (.iaload, 1) := by decide +kernel
theorem dX9_turn_33 : decode cX9_turn 33 = .ok (.goto 4, 3) := by decide +kernel
theorem dX9_turn_36 : decode cX9_turn 36 = .ok (.iconst (-1), 1) := by decide +kernel
theorem dX9_turn_37 : decode cX9_turn 37 = .ok (.ireturn, 1) := by decide +kernel
theorem dX9_undo_0 : decode cX9_undo 0 = .ok (.aload_n 0, 1) := by decide +kernel
theorem dX9_undo_1 : decode cX9_undo 1 = .ok (.getfield 142, 3) := by decide +kernel
theorem dX9_undo_4 : decode cX9_undo 4 = .ok (.ifCond .ne 6, 3) := by decide +kernel
theorem dX9_undo_7 : decode cX9_undo 7 = .ok (.bipush (-2), 2) := by decide +kernel
theorem dX9_undo_9 : decode cX9_undo 9 = .ok (.ireturn, 1) := by decide +kernel
theorem dX9_undo_10 : decode cX9_undo 10 = .ok (.aload_n 0, 1) := by decide +kernel
theorem dX9_undo_11 : decode cX9_undo 11 = .ok (.dup, 1) := by decide +kernel
theorem dX9_undo_12 : decode cX9_undo 12 = .ok (.getfield 142, 3) := by decide +kernel
theorem dX9_undo_15 : decode cX9_undo 15 = .ok (.iconst 1, 1) := by decide +kernel
theorem dX9_undo_16 : decode cX9_undo 16 = .ok (.isub, 1) := by decide +kernel
theorem dX9_undo_17 : decode cX9_undo 17 = .ok (.putfield 142, 3) := by decide +kernel
theorem dX9_undo_20 : decode cX9_undo 20 = .ok (.aload_n 0, 1) := by decide +kernel
theorem dX9_undo_21 : decode cX9_undo 21 = .ok (.getfield 22, 3) := by decide +kernel
theorem dX9_undo_24 : decode cX9_undo 24 = .ok (.bipush 31, 2) := by decide +kernel
theorem dX9_undo_26 : decode cX9_undo 26 = .ok (.aload_n 0, 1) := by decide +kernel
theorem dX9_undo_27 : decode cX9_undo 27 = .ok (.getfield 142, 3) := by decide +kernel
theorem dX9_undo_30 : decode cX9_undo 30 = .ok (.imul, 1) := by decide +kernel
theorem dX9_undo_31 : decode cX9_undo 31 = .ok (.aload_n 0, 1) := by decide +kernel
theorem dX9_undo_32 : decode cX9_undo 32 = .ok (.getfield 16, 3) := by decide +kernel
theorem dX9_undo_35 : decode cX9_undo 35 = .ok (.iconst 0, 1) := by decide +kernel
theorem dX9_undo_36 : decode cX9_undo 36 = .ok (.invokestatic 235, 3) := by decide +kernel
theorem dX9_undo_39 : decode cX9_undo 39 = .ok (.aload_n 0, 1) := by decide +kernel
theorem dX9_undo_40 : decode cX9_undo 40 = .ok (.getfield 142, 3) := by decide +kernel
theorem dX9_undo_43 : decode cX9_undo 43 = .ok (.ireturn, 1) := by decide +kernel
theorem dX9_unfallen_0 : decode cX9_unfallen 0 = .ok (.iconst 0, 1) := by decide +kernel
theorem dX9_unfallen_1 : decode cX9_unfallen 1 = .ok (.istore_n 2, 1) := by decide +kernel
theorem dX9_unfallen_2 : decode cX9_unfallen 2 = .ok (.iconst 0, 1) := by decide +kernel
theorem dX9_unfallen_3 : decode cX9_unfallen 3 = .ok (.istore_n 3, 1) := by decide +kernel
theorem dX9_unfallen_4 : decode cX9_unfallen 4 = .ok (.iload_n 3, 1) := by decide +kernel
theorem dX9_unfallen_5 : decode cX9_unfallen 5 = .ok (.aload_n 0, 1) := by decide +kernel
theorem dX9_unfallen_6 : decode cX9_unfallen 6 = .ok (.getfield 37, 3) := by decide +kernel
theorem dX9_unfallen_9 : decode cX9_unfallen 9 = .ok (.iconst 1, 1) := by decide +kernel
theorem dX9_unfallen_10 : decode cX9_unfallen 10 = .ok (.iaload, 1) := by decide +kernel
theorem dX9_unfallen_11 : decode cX9_unfallen 11 = .ok (.if_icmp .ge 36, 3) := by decide +kernel
theorem dX9_unfallen_14 : decode cX9_unfallen 14 = .ok (.iload_n 2, 1) := by decide +kernel
theorem dX9_unfallen_15 : decode cX9_unfallen 15 = .ok (.iload_n 1, 1) := by decide +kernel
theorem dX9_unfallen_16 : decode cX9_unfallen 16 = .ok (.iload_n 3, 1) := by decide +kernel
theorem dX9_unfallen_17 : decode cX9_unfallen 17 = .ok (.invokestatic 166, 3) := by decide +kernel
theorem dX9_unfallen_20 : decode cX9_unfallen 20 = .ok (.ifCond .eq 18, 3) := by decide +kernel
theorem dX9_unfallen_23 : decode cX9_unfallen 23 = .ok (.aload_n 0, 1) := by decide +kernel
theorem dX9_unfallen_24 : decode cX9_unfallen 24 = .ok (.getfield 49, 3) := by decide +kernel
theorem dX9_unfallen_27 : decode cX9_unfallen 27 = .ok (.iload_n 3, 1) := by decide +kernel
theorem dX9_unfallen_28 : decode cX9_unfallen 28 = .ok (.iaload, 1) := by decide +kernel
theorem dX9_unfallen_29 : decode cX9_unfallen 29 = .ok (.ifCond .ge 9, 3) := by decide +kernel
theorem dX9_unfallen_32 : decode cX9_unfallen 32 = .ok (.iconst 1, 1) := by decide +kernel
theorem dX9_unfallen_33 : decode cX9_unfallen 33 = .ok (.iload_n 3, 1) := by decide +kernel
theorem dX9_unfallen_34 : decode cX9_unfallen 34 = .ok (.ishl, 1) := by decide +kernel
theorem dX9_unfallen_35 : decode cX9_unfallen 35 = .ok (.goto 4, 3) := by decide +kernel
theorem dX9_unfallen_38 : decode cX9_unfallen 38 = .ok (.iconst 0, 1) := by decide +kernel
theorem dX9_unfallen_39 : decode cX9_unfallen 39 = .ok (.ior, 1) := by decide +kernel
theorem dX9_unfallen_40 : decode cX9_unfallen 40 = .ok (.istore_n 2, 1) := by decide +kernel
theorem dX9_unfallen_41 : decode cX9_unfallen 41 = .ok (.iinc 3 1, 3) := by decide +kernel
theorem dX9_unfallen_44 : decode cX9_unfallen 44 = .ok (.goto (-40), 3) := by decide +kernel
theorem dX9_unfallen_47 : decode cX9_unfallen 47 = .ok (.iload_n 2, 1) := by decide +kernel
theorem dX9_unfallen_48 : decode cX9_unfallen 48 = .ok (.ireturn, 1) := by decide +kernel
theorem dX9_wipe_0 : decode cX9_wipe 0 = .ok (.aload_n 0, 1) := by decide +kernel
theorem dX9_wipe_1 : decode cX9_wipe 1 = .ok (.getfield 95, 3) := by decide +kernel
theorem dX9_wipe_4 : decode cX9_wipe 4 = .ok (.istore_n 1, 1) := by decide +kernel
theorem dX9_wipe_5 : decode cX9_wipe 5 = .ok (.aload_n 0, 1) := by decide +kernel
theorem dX9_wipe_6 : decode cX9_wipe 6 = .ok (.iconst 0, 1) := by decide +kernel
theorem dX9_wipe_7 : decode cX9_wipe 7 = .ok (.putfield 95, 3) := by decide +kernel
theorem dX9_wipe_10 : decode cX9_wipe 10 = .ok (.iload_n 1, 1) := by decide +kernel
theorem dX9_wipe_11 : decode cX9_wipe 11 = .ok (.ireturn, 1) := by decide +kernel
theorem dX9_write_0 : decode cX9_write 0 = .ok (.iload_n 1, 1) := by decide +kernel
theorem dX9_write_1 : decode cX9_write 1 = .ok (.i2l, 1) := by decide +kernel
theorem dX9_write_2 : decode cX9_write 2 = .ok (.ldc2_w 91, 3) := by decide +kernel
theorem dX9_write_5 : decode cX9_write 5 = .ok (.ldc2_w 93, 3) := by decide +kernel
theorem dX9_write_8 : decode cX9_write 8 = .ok (.invokestatic 87, 3) := by decide +kernel
theorem dX9_write_11 : decode cX9_write 11 = .ok (.ifCond .ne 5, 3) := by decide +kernel
theorem dX9_write_14 : decode cX9_write 14 = .ok (.iconst (-1), 1) := by decide +kernel
theorem dX9_write_15 : decode cX9_write 15 = .ok (.ireturn, 1) := by decide +kernel
theorem dX9_write_16 : decode cX9_write 16 = .ok (.aload_n 0, 1) := by decide +kernel
theorem dX9_write_17 : decode cX9_write 17 = .ok (.getfield 95, 3) := by decide +kernel
theorem dX9_write_20 : decode cX9_write 20 = .ok (.sipush 200, 3) := by decide +kernel
theorem dX9_write_23 : decode cX9_write 23 = .ok (.if_icmp .ne 6, 3) := by decide +kernel
theorem dX9_write_26 : decode cX9_write 26 = .ok (.bipush (-3), 2) := by decide +kernel
theorem dX9_write_28 : decode cX9_write 28 = .ok (.ireturn, 1) := by decide +kernel
theorem dX9_write_29 : decode cX9_write 29 = .ok (.aload_n 0, 1) := by decide +kernel
theorem dX9_write_30 : decode cX9_write 30 = .ok (.getfield 28, 3) := by decide +kernel
theorem dX9_write_33 : decode cX9_write 33 = .ok (.aload_n 0, 1) := by decide +kernel
theorem dX9_write_34 : decode cX9_write 34 = .ok (.getfield 95, 3) := by decide +kernel
theorem dX9_write_37 : decode cX9_write 37 = .ok (.iload_n 1, 1) := by decide +kernel
theorem dX9_write_38 : decode cX9_write 38 = .ok (.iastore, 1) := by decide +kernel
theorem dX9_write_39 : decode cX9_write 39 = .ok (.aload_n 0, 1) := by decide +kernel
theorem dX9_write_40 : decode cX9_write 40 = .ok (.dup, 1) := by decide +kernel
theorem dX9_write_41 : decode cX9_write 41 = .ok (.getfield 95, 3) := by decide +kernel
theorem dX9_write_44 : decode cX9_write 44 = .ok (.iconst 1, 1) := by decide +kernel
theorem dX9_write_45 : decode cX9_write 45 = .ok (.iadd, 1) := by decide +kernel
theorem dX9_write_46 : decode cX9_write 46 = .ok (.putfield 95, 3) := by decide +kernel
theorem dX9_write_49 : decode cX9_write 49 = .ok (.aload_n 0, 1) := by decide +kernel
theorem dX9_write_50 : decode cX9_write 50 = .ok (.getfield 95, 3) := by decide +kernel
theorem dX9_write_53 : decode cX9_write 53 = .ok (.ireturn, 1) := by decide +kernel
theorem dX9_yard_0 : decode cX9_yard 0 = .ok (.aload_n 0, 1) := by decide +kernel
theorem dX9_yard_1 : decode cX9_yard 1 = .ok (.iload_n 1, 1) := by decide +kernel
theorem dX9_yard_2 : decode cX9_yard 2 = .ok (.invokevirtual 209, 3) := by decide +kernel
theorem dX9_yard_5 : decode cX9_yard 5 = .ok (.ifCond .eq 15, 3) := by decide +kernel
theorem dX9_yard_8 : decode cX9_yard 8 = .ok (.iload_n 2, 1) := by decide +kernel
theorem dX9_yard_9 : decode cX9_yard 9 = .ok (.i2l, 1) := by decide +kernel
theorem dX9_yard_10 : decode cX9_yard 10 = .ok (.lconst 0, 1) := by decide +kernel
theorem dX9_yard_11 : decode cX9_yard 11 = .ok (.ldc2_w 212, 3) := by decide +kernel
theorem dX9_yard_14 : decode cX9_yard 14 = .ok (.invokestatic 87, 3) := by decide +kernel
theorem dX9_yard_17 : decode cX9_yard 17 = .ok (.ifCond .ne 5, 3) := by decide +kernel
theorem dX9_yard_20 : decode cX9_yard 20 = .ok (.iconst (-1), 1) := by decide +kernel
theorem dX9_yard_21 : decode cX9_yard 21 = .ok (.ireturn, 1) := by decide +kernel
theorem dX9_yard_22 : decode cX9_yard 22 = .ok (.aload_n 0, 1) := by decide +kernel
theorem dX9_yard_23 : decode cX9_yard 23 = .ok (.getfield 7, 3) := by decide +kernel
theorem dX9_yard_26 : decode cX9_yard 26 = .ok (.iload_n 1, 1) := by decide +kernel
theorem dX9_yard_27 : decode cX9_yard 27 = .ok (.invokestatic 188, 3) := by decide +kernel
theorem dX9_yard_30 : decode cX9_yard 30 = .ok (.istore_n 3, 1) := by decide +kernel
theorem dX9_yard_31 : decode cX9_yard 31 = .ok (.aload_n 0, 1) := by decide +kernel
theorem dX9_yard_32 : decode cX9_yard 32 = .ok (.invokevirtual 214, 3) := by decide +kernel
theorem dX9_yard_35 : decode cX9_yard 35 = .ok (.iload_n 2, 1) := by decide +kernel
theorem dX9_yard_36 : decode cX9_yard 36 = .ok (.tableswitch 60 0 3 #[32, 34, 44, 54], 32) := by decide +kernel
theorem dX9_yard_68 : decode cX9_yard 68 = .ok (.iload_n 3, 1) := by decide +kernel
theorem dX9_yard_69 : decode cX9_yard 69 = .ok (.ireturn, 1) := by decide +kernel
theorem dX9_yard_70 : decode cX9_yard 70 = .ok (.aload_n 0, 1) := by decide +kernel
theorem dX9_yard_71 : decode cX9_yard 71 = .ok (.getfield 7, 3) := by decide +kernel
theorem dX9_yard_74 : decode cX9_yard 74 = .ok (.bipush 10, 2) := by decide +kernel
theorem dX9_yard_76 : decode cX9_yard 76 = .ok (.iload_n 3, 1) := by decide +kernel
theorem dX9_yard_77 : decode cX9_yard 77 = .ok (.iadd, 1) := by decide +kernel
theorem dX9_yard_78 : decode cX9_yard 78 = .ok (.iaload, 1) := by decide +kernel
theorem dX9_yard_79 : decode cX9_yard 79 = .ok (.ireturn, 1) := by decide +kernel
theorem dX9_yard_80 : decode cX9_yard 80 = .ok (.aload_n 0, 1) := by decide +kernel
theorem dX9_yard_81 : decode cX9_yard 81 = .ok (.getfield 7, 3) := by decide +kernel
theorem dX9_yard_84 : decode cX9_yard 84 = .ok (.bipush 16, 2) := by decide +kernel
theorem dX9_yard_86 : decode cX9_yard 86 = .ok (.iload_n 3, 1) := by decide +kernel
theorem dX9_yard_87 : decode cX9_yard 87 = .ok (.iadd, 1) := by decide +kernel
theorem dX9_yard_88 : decode cX9_yard 88 = .ok (.iaload, 1) := by decide +kernel
theorem dX9_yard_89 : decode cX9_yard 89 = .ok (.ireturn, 1) := by decide +kernel
theorem dX9_yard_90 : decode cX9_yard 90 = .ok (.aload_n 0, 1) := by decide +kernel
theorem dX9_yard_91 : decode cX9_yard 91 = .ok (.iload_n 1, 1) := by decide +kernel
theorem dX9_yard_92 : decode cX9_yard 92 = .ok (.invokevirtual 195, 3) := by decide +kernel
theorem dX9_yard_95 : decode cX9_yard 95 = .ok (.ireturn, 1) := by decide +kernel
theorem dX9_yard_96 : decode cX9_yard 96 = .ok (.aload_n 0, 1) := by decide +kernel
theorem dX9_yard_97 : decode cX9_yard 97 = .ok (.invokevirtual 217, 3) := by decide +kernel
theorem dX9_yard_100 : decode cX9_yard 100 = .ok (.aload_n 0, 1) := by decide +kernel
theorem dX9_yard_101 : decode cX9_yard 101 = .ok (.getfield 55, 3) := by decide +kernel
theorem dX9_yard_104 : decode cX9_yard 104 = .ok (.iload_n 1, 1) := by decide +kernel
theorem dX9_yard_105 : decode cX9_yard 105 = .ok (.iaload, 1) := by decide +kernel
theorem dX9_yard_106 : decode cX9_yard 106 = .ok (.ireturn, 1) := by decide +kernel
theorem dX9_yardsOf_0 : decode cX9_yardsOf 0 = .ok (.iconst 0, 1) := by decide +kernel
theorem dX9_yardsOf_1 : decode cX9_yardsOf 1 = .ok (.istore_n 1, 1) := by decide +kernel
theorem dX9_yardsOf_2 : decode cX9_yardsOf 2 = .ok (.iconst 0, 1) := by decide +kernel
theorem dX9_yardsOf_3 : decode cX9_yardsOf 3 = .ok (.istore_n 2, 1) := by decide +kernel
theorem dX9_yardsOf_4 : decode cX9_yardsOf 4 = .ok (.iload_n 2, 1) := by decide +kernel
theorem dX9_yardsOf_5 : decode cX9_yardsOf 5 = .ok (.aload_n 0, 1) := by decide +kernel
theorem dX9_yardsOf_6 : decode cX9_yardsOf 6 = .ok (.iconst 0, 1) := by decide +kernel
theorem dX9_yardsOf_7 : decode cX9_yardsOf 7 = .ok (.iaload, 1) := by decide +kernel
theorem dX9_yardsOf_8 : decode cX9_yardsOf 8 = .ok (.if_icmp .ge 17, 3) := by decide +kernel
theorem dX9_yardsOf_11 : decode cX9_yardsOf 11 = .ok (.iload_n 1, 1) := by decide +kernel
theorem dX9_yardsOf_12 : decode cX9_yardsOf 12 = .ok (.aload_n 0, 1) := by decide +kernel
theorem dX9_yardsOf_13 : decode cX9_yardsOf 13 = .ok (.iconst 4, 1) := by decide +kernel
theorem dX9_yardsOf_14 : decode cX9_yardsOf 14 = .ok (.iload_n 2, 1) := by decide +kernel
theorem dX9_yardsOf_15 : decode cX9_yardsOf 15 = .ok (.iadd, 1) := by decide +kernel
theorem dX9_yardsOf_16 : decode cX9_yardsOf 16 = .ok (.iaload, 1) := by decide +kernel
theorem dX9_yardsOf_17 : decode cX9_yardsOf 17 = .ok (.iadd, 1) := by decide +kernel
theorem dX9_yardsOf_18 : decode cX9_yardsOf 18 = .ok (.istore_n 1, 1) := by decide +kernel
theorem dX9_yardsOf_19 : decode cX9_yardsOf 19 = .ok (.iinc 2 1, 3) := by decide +kernel
theorem dX9_yardsOf_22 : decode cX9_yardsOf 22 = .ok (.goto (-18), 3) := by decide +kernel
theorem dX9_yardsOf_25 : decode cX9_yardsOf 25 = .ok (.iload_n 1, 1) := by decide +kernel
theorem dX9_yardsOf_26 : decode cX9_yardsOf 26 = .ok (.ireturn, 1) := by decide +kernel
