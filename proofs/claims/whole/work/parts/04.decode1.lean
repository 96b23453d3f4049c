theorem dX0_ofFirst_0 : decode cX0_ofFirst 0 = .ok (.iload_n 1, 1) := by decide +kernel
theorem dX0_ofFirst_1 : decode cX0_ofFirst 1 = .ok (.iload_n 2, 1) := by decide +kernel
theorem dX0_ofFirst_2 : decode cX0_ofFirst 2 = .ok (.if_icmp .ne 12, 3) := by decide +kernel
theorem dX0_ofFirst_5 : decode cX0_ofFirst 5 = .ok (.aload_n 0, 1) := by decide +kernel
theorem dX0_ofFirst_6 : decode cX0_ofFirst 6 = .ok (.getfield 15, 3) := by decide +kernel
theorem dX0_ofFirst_9 : decode cX0_ofFirst 9 = .ok (.iload_n 1, 1) := by decide +kernel
theorem dX0_ofFirst_10 : decode cX0_ofFirst 10 = .ok (.iaload, 1) := by decide +kernel
theorem dX0_ofFirst_11 : decode cX0_ofFirst 11 = .ok (.goto 9, 3) := by decide +kernel
theorem dX0_ofFirst_14 : decode cX0_ofFirst 14 = .ok (.aload_n 0, 1) := by decide +kernel
theorem dX0_ofFirst_15 : decode cX0_ofFirst 15 = .ok (.getfield 9, 3) := by decide +kernel
theorem dX0_ofFirst_18 : decode cX0_ofFirst 18 = .ok (.iload_n 1, 1) := by decide +kernel
theorem dX0_ofFirst_19 : decode cX0_ofFirst 19 = .ok (.iaload, 1) := by decide +kernel
theorem dX0_ofFirst_20 : decode cX0_ofFirst 20 = .ok (.ireturn, 1) := by decide +kernel
theorem dX0_ofOther_0 : decode cX0_ofOther 0 = .ok (.iload_n 1, 1) := by decide +kernel
theorem dX0_ofOther_1 : decode cX0_ofOther 1 = .ok (.iload_n 2, 1) := by decide +kernel
theorem dX0_ofOther_2 : decode cX0_ofOther 2 = .ok (.if_icmp .ne 12, 3) := by decide +kernel
theorem dX0_ofOther_5 : decode cX0_ofOther 5 = .ok (.aload_n 0, 1) := by decide +kernel
theorem dX0_ofOther_6 : decode cX0_ofOther 6 = .ok (.getfield 21, 3) := by decide +kernel
theorem dX0_ofOther_9 : decode cX0_ofOther 9 = .ok (.iload_n 2, 1) := by decide +kernel
theorem dX0_ofOther_10 : decode cX0_ofOther 10 = .ok (.iaload, 1) := by decide +kernel
theorem dX0_ofOther_11 : decode cX0_ofOther 11 = .ok (.goto 9, 3) := by decide +kernel
theorem dX0_ofOther_14 : decode cX0_ofOther 14 = .ok (.aload_n 0, 1) := by decide +kernel
theorem dX0_ofOther_15 : decode cX0_ofOther 15 = .ok (.getfield 18, 3) := by decide +kernel
theorem dX0_ofOther_18 : decode cX0_ofOther 18 = .ok (.iload_n 2, 1) := by decide +kernel
theorem dX0_ofOther_19 : decode cX0_ofOther 19 = .ok (.iaload, 1) := by decide +kernel
theorem dX0_ofOther_20 : decode cX0_ofOther 20 = .ok (.ireturn, 1) := by decide +kernel
theorem dX0_weigh_0 : decode cX0_weigh 0 = .ok (.aload_n 0, 1) := by decide +kernel
theorem dX0_weigh_1 : decode cX0_weigh 1 = .ok (.iload_n 1, 1) := by decide +kernel
theorem dX0_weigh_2 : decode cX0_weigh 2 = .ok (.iload_n 2, 1) := by decide +kernel
theorem dX0_weigh_3 : decode cX0_weigh 3 = .ok (.invokevirtual 37, 3) := by decide +kernel
theorem dX0_weigh_6 : decode cX0_weigh 6 = .ok (.aload_n 0, 1) := by decide +kernel
theorem dX0_weigh_7 : decode cX0_weigh 7 = .ok (.iconst 0, 1) := by decide +kernel
theorem dX0_weigh_8 : decode cX0_weigh 8 = .ok (.putfield 41, 3) := by decide +kernel
theorem dX0_weigh_11 : decode cX0_weigh 11 = .ok (.aload_n 0, 1) := by decide +kernel
theorem dX0_weigh_12 : decode cX0_weigh 12 = .ok (.bipush (-4), 2) := by decide +kernel
theorem dX0_weigh_14 : decode cX0_weigh 14 = .ok (.putfield 45, 3) := by decide +kernel
theorem dX0_weigh_17 : decode cX0_weigh 17 = .ok (.iconst 0, 1) := by decide +kernel
theorem dX0_weigh_18 : decode cX0_weigh 18 = .ok (.istore_n 3, 1) := by decide +kernel
theorem dX0_weigh_19 : decode cX0_weigh 19 = .ok (.iload_n 3, 1) := by decide +kernel
theorem dX0_weigh_20 : decode cX0_weigh 20 = .ok (.aload_n 0, 1) := by decide +kernel
theorem dX0_weigh_21 : decode cX0_weigh 21 = .ok (.getfield 24, 3) := by decide +kernel
theorem dX0_weigh_24 : decode cX0_weigh 24 = .ok (.getfield 48, 3) := by decide +kernel
theorem dX0_weigh_27 : decode cX0_weigh 27 = .ok (.if_icmp .ge 77, 3) := by decide +kernel
theorem dX0_weigh_30 : decode cX0_weigh 30 = .ok (.iconst 0, 1) := by decide +kernel
theorem dX0_weigh_31 : decode cX0_weigh 31 = .ok (.istore 4, 2) := by decide +kernel
theorem dX0_weigh_33 : decode cX0_weigh 33 = .ok (.iload 4, 2) := by decide +kernel
theorem dX0_weigh_35 : decode cX0_weigh 35 = .ok (.aload_n 0, 1) := by decide +kernel
theorem dX0_weigh_36 : decode cX0_weigh 36 = .ok (.getfield 24, 3) := by decide +kernel
theorem dX0_weigh_39 : decode cX0_weigh 39 = .ok (.getfield 48, 3) := by decide +kernel
theorem dX0_weigh_42 : decode cX0_weigh 42 = .ok (.if_icmp .ge 56, 3) := by decide +kernel
theorem dX0_weigh_45 : decode cX0_weigh 45 = .ok (.aload_n 0, 1) := by decide +kernel
theorem dX0_weigh_46 : decode cX0_weigh 46 = .ok (.iload_n 3, 1) := by decide +kernel
theorem dX0_weigh_47 : decode cX0_weigh 47 = .ok (.iload 4, 2) := by decide +kernel
theorem dX0_weigh_49 : decode cX0_weigh 49 = .ok (.invokevirtual 53, 3) := by decide +kernel
theorem dX0_weigh_52 : decode cX0_weigh 52 = .ok (.ifCond .eq 40, 3) := by decide +kernel
theorem dX0_weigh_55 : decode cX0_weigh 55 = .ok (.aload_n 0, 1) := by decide +kernel
theorem dX0_weigh_56 : decode cX0_weigh 56 = .ok (.dup, 1) := by decide +kernel
theorem dX0_weigh_57 : decode cX0_weigh 57 = .ok (.getfield 41, 3) := by decide +kernel
theorem dX0_weigh_60 : decode cX0_weigh 60 = .ok (.iconst 1, 1) := by decide +kernel
theorem dX0_weigh_61 : decode cX0_weigh 61 = .ok (.iadd, 1) := by decide +kernel
theorem dX0_weigh_62 : decode cX0_weigh 62 = .ok (.putfield 41, 3) := by decide +kernel
theorem dX0_weigh_65 : decode cX0_weigh 65 = .ok (.aload_n 0, 1) := by decide +kernel
theorem dX0_weigh_66 : decode cX0_weigh 66 = .ok (.aload_n 0, 1) := by decide +kernel
theorem dX0_weigh_67 : decode cX0_weigh 67 = .ok (.getfield 45, 3) := by decide +kernel
theorem dX0_weigh_70 : decode cX0_weigh 70 = .ok (.bipush (-4), 2) := by decide +kernel
theorem dX0_weigh_72 : decode cX0_weigh 72 = .ok (.if_icmp .ne 13, 3) := by decide +kernel
theorem dX0_weigh_75 : decode cX0_weigh 75 = .ok (.bipush 8, 2) := by decide +kernel
theorem dX0_weigh_77 : decode cX0_weigh 77 = .ok (.iload_n 3, 1) := by decide +kernel
theorem dX0_weigh_78 : decode cX0_weigh 78 = .ok (.imul, 1) := by decide +kernel
theorem dX0_weigh_79 : decode cX0_weigh 79 = .ok (.iload 4, 2) := by decide +kernel
theorem dX0_weigh_81 : decode cX0_weigh 81 = .ok (.iadd, 1) := by decide +kernel
theorem dX0_weigh_82 : decode cX0_weigh 82 = .ok (.goto 7, 3) := by decide +kernel
theorem dX0_weigh_85 : decode cX0_weigh 85 = .ok (.aload_n 0, 1) := by decide +kernel
theorem dX0_weigh_86 : decode cX0_weigh 86 = .ok (.getfield 45, 3) := by decide +kernel
theorem dX0_weigh_89 : decode cX0_weigh 89 = .ok (.putfield 45, 3) := by decide +kernel
theorem dX0_weigh_92 : decode cX0_weigh 92 = .ok (.iinc 4 1, 3) := by decide +kernel
theorem dX0_weigh_95 : decode cX0_weigh 95 = .ok (.goto (-62), 3) := by decide +kernel
theorem dX0_weigh_98 : decode cX0_weigh 98 = .ok (.iinc 3 1, 3) := by decide +kernel
theorem dX0_weigh_101 : decode cX0_weigh 101 = .ok (.goto (-82), 3) := by decide +kernel
theorem dX0_weigh_104 : decode cX0_weigh 104 = .ok (.return_, 1) := by decide +kernel
theorem dX1_addBearer_0 : decode cX1_addBearer 0 = .ok (.aload_n 0, 1) := by decide +kernel
theorem dX1_addBearer_1 : decode cX1_addBearer 1 = .ok (.getfield 37, 3) := by decide +kernel
theorem dX1_addBearer_4 : decode cX1_addBearer 4 = .ok (.bipush 6, 2) := by decide +kernel
theorem dX1_addBearer_6 : decode cX1_addBearer 6 = .ok (.if_icmp .ge 22, 3) := by decide +kernel
theorem dX1_addBearer_9 : decode cX1_addBearer 9 = .ok (.iload_n 1, 1) := by decide +kernel
theorem dX1_addBearer_10 : decode cX1_addBearer 10 = .ok (.iconst 1, 1) := by decide +kernel
theorem dX1_addBearer_11 : decode cX1_addBearer 11 = .ok (.bipush 60, 2) := by decide +kernel
theorem dX1_addBearer_13 : decode cX1_addBearer 13 = .ok (.invokestatic 46, 3) := by decide +kernel
theorem dX1_addBearer_16 : decode cX1_addBearer 16 = .ok (.ifCond .eq 12, 3) := by decide +kernel
theorem dX1_addBearer_19 : decode cX1_addBearer 19 = .ok (.iload_n 2, 1) := by decide +kernel
theorem dX1_addBearer_20 : decode cX1_addBearer 20 = .ok (.iconst 0, 1) := by decide +kernel
theorem dX1_addBearer_21 : decode cX1_addBearer 21 = .ok (.iconst 3, 1) := by decide +kernel
theorem dX1_addBearer_22 : decode cX1_addBearer 22 = .ok (.invokestatic 46, 3) := by decide +kernel
theorem dX1_addBearer_25 : decode cX1_addBearer 25 = .ok (.ifCond .ne 5, 3) := by decide +kernel
theorem dX1_addBearer_28 : decode cX1_addBearer 28 = .ok (.iconst 0, 1) := by decide +kernel
theorem dX1_addBearer_29 : decode cX1_addBearer 29 = .ok (.ireturn, 1) := by decide +kernel
theorem dX1_addBearer_30 : decode cX1_addBearer 30 = .ok (.aload_n 0, 1) := by decide +kernel
theorem dX1_addBearer_31 : decode cX1_addBearer 31 = .ok (.getfield 21, 3) := by decide +kernel
theorem dX1_addBearer_34 : decode cX1_addBearer 34 = .ok (.aload_n 0, 1) := by decide +kernel
theorem dX1_addBearer_35 : decode cX1_addBearer 35 = .ok (.getfield 37, 3) := by decide +kernel
theorem dX1_addBearer_38 : decode cX1_addBearer 38 = .ok (.bipush 10, 2) := by decide +kernel
theorem dX1_addBearer_40 : decode cX1_addBearer 40 = .ok (.iload_n 1, 1) := by decide +kernel
theorem dX1_addBearer_41 : decode cX1_addBearer 41 = .ok (.imul, 1) := by decide +kernel
theorem dX1_addBearer_42 : decode cX1_addBearer 42 = .ok (.iastore, 1) := by decide +kernel
theorem dX1_addBearer_43 : decode cX1_addBearer 43 = .ok (.aload_n 0, 1) := by decide +kernel
theorem dX1_addBearer_44 : decode cX1_addBearer 44 = .ok (.getfield 24, 3) := by decide +kernel
theorem dX1_addBearer_47 : decode cX1_addBearer 47 = .ok (.aload_n 0, 1) := by decide +kernel
theorem dX1_addBearer_48 : decode cX1_addBearer 48 = .ok (.getfield 37, 3) := by decide +kernel
theorem dX1_addBearer_51 : decode cX1_addBearer 51 = .ok (.iload_n 2, 1) := by decide +kernel
theorem dX1_addBearer_52 : decode cX1_addBearer 52 = .ok (.iastore, 1) := by decide +kernel
theorem dX1_addBearer_53 : decode cX1_addBearer 53 = .ok (.aload_n 0, 1) := by decide +kernel
theorem dX1_addBearer_54 : decode cX1_addBearer 54 = .ok (.dup, 1) := by decide +kernel
theorem dX1_addBearer_55 : decode cX1_addBearer 55 = .ok (.getfield 37, 3) := by decide +kernel
theorem dX1_addBearer_58 : decode cX1_addBearer 58 = .ok (.iconst 1, 1) := by decide +kernel
theorem dX1_addBearer_59 : decode cX1_addBearer 59 = .ok (.iadd, 1) := by decide +kernel
theorem dX1_addBearer_60 : decode cX1_addBearer 60 = .ok (.putfield 37, 3) := by decide +kernel
theorem dX1_addBearer_63 : decode cX1_addBearer 63 = .ok (.iconst 1, 1) := by decide +kernel
theorem dX1_addBearer_64 : decode cX1_addBearer 64 = .ok (.ireturn, 1) := by decide +kernel
theorem dX1_addStretch_0 : decode cX1_addStretch 0 = .ok (.aload_n 0, 1) := by decide +kernel
theorem dX1_addStretch_1 : decode cX1_addStretch 1 = .ok (.getfield 30, 3) := by decide +kernel
theorem dX1_addStretch_4 : decode cX1_addStretch 4 = .ok (.bipush 6, 2) := by decide +kernel
theorem dX1_addStretch_6 : decode cX1_addStretch 6 = .ok (.if_icmp .ge 33, 3) := by decide +kernel
theorem dX1_addStretch_9 : decode cX1_addStretch 9 = .ok (.iload_n 1, 1) := by decide +kernel
theorem dX1_addStretch_10 : decode cX1_addStretch 10 = .ok (.iconst 1, 1) := by decide +kernel
theorem dX1_addStretch_11 : decode cX1_addStretch 11 = .ok (.bipush 30, 2) := by decide +kernel
theorem dX1_addStretch_13 : decode cX1_addStretch 13 = .ok (.invokestatic 46, 3) := by decide +kernel
theorem dX1_addStretch_16 : decode cX1_addStretch 16 = .ok (.ifCond .eq 23, 3) := by decide +kernel
theorem dX1_addStretch_19 : decode cX1_addStretch 19 = .ok (.aload_n 0, 1) := by decide +kernel
theorem dX1_addStretch_20 : decode cX1_addStretch 20 = .ok (.getfield 34, 3) := by decide +kernel
theorem dX1_addStretch_23 : decode cX1_addStretch 23 = .ok (.iload_n 1, 1) := by decide +kernel
theorem dX1_addStretch_24 : decode cX1_addStretch 24 = .ok (.iadd, 1) := by decide +kernel
theorem dX1_addStretch_25 : decode cX1_addStretch 25 = .ok (.bipush 120, 2) := by decide +kernel
theorem dX1_addStretch_27 : decode cX1_addStretch 27 = .ok (.if_icmp .gt 12, 3) := by decide +kernel
theorem dX1_addStretch_30 : decode cX1_addStretch 30 = .ok (.iload_n 2, 1) := by decide +kernel
theorem dX1_addStretch_31 : decode cX1_addStretch 31 = .ok (.iconst 0, 1) := by decide +kernel
theorem dX1_addStretch_32 : decode cX1_addStretch 32 = .ok (.iconst 5, 1) := by decide +kernel
theorem dX1_addStretch_33 : decode cX1_addStretch 33 = .ok (.invokestatic 46, 3) := by decide +kernel
theorem dX1_addStretch_36 : decode cX1_addStretch 36 = .ok (.ifCond .ne 5, 3) := by decide +kernel
theorem dX1_addStretch_39 : decode cX1_addStretch 39 = .ok (.iconst 0, 1) := by decide +kernel
theorem dX1_addStretch_40 : decode cX1_addStretch 40 = .ok (.ireturn, 1) := by decide +kernel
theorem dX1_addStretch_41 : decode cX1_addStretch 41 = .ok (.aload_n 0, 1) := by decide +kernel
theorem dX1_addStretch_42 : decode cX1_addStretch 42 = .ok (.getfield 9, 3) := by decide +kernel
theorem dX1_addStretch_45 : decode cX1_addStretch 45 = .ok (.aload_n 0, 1) := by decide +kernel
theorem dX1_addStretch_46 : decode cX1_addStretch 46 = .ok (.getfield 30, 3) := by decide +kernel
theorem dX1_addStretch_49 : decode cX1_addStretch 49 = .ok (.iload_n 1, 1) := by decide +kernel
theorem dX1_addStretch_50 : decode cX1_addStretch 50 = .ok (.iastore, 1) := by decide +kernel
theorem dX1_addStretch_51 : decode cX1_addStretch 51 = .ok (.aload_n 0, 1) := by decide +kernel
theorem dX1_addStretch_52 : decode cX1_addStretch 52 = .ok (.getfield 15, 3) := by decide +kernel
theorem dX1_addStretch_55 : decode cX1_addStretch 55 = .ok (.aload_n 0, 1) := by decide +kernel
theorem dX1_addStretch_56 : decode cX1_addStretch 56 = .ok (.getfield 30, 3) := by decide +kernel
theorem dX1_addStretch_59 : decode cX1_addStretch 59 = .ok (.iload_n 2, 1) := by decide +kernel
theorem dX1_addStretch_60 : decode cX1_addStretch 60 = .ok (.iastore, 1) := by decide +kernel
theorem dX1_addStretch_61 : decode cX1_addStretch 61 = .ok (.aload_n 0, 1) := by decide +kernel
theorem dX1_addStretch_62 : decode cX1_addStretch 62 = .ok (.getfield 18, 3) := by decide +kernel
theorem dX1_addStretch_65 : decode cX1_addStretch 65 = .ok (.aload_n 0, 1) := by decide +kernel
theorem dX1_addStretch_66 : decode cX1_addStretch 66 = .ok (.getfield 30, 3) := by decide +kernel
theorem dX1_addStretch_69 : decode cX1_addStretch 69 = .ok (.iconst 1, 1) := by decide +kernel
theorem dX1_addStretch_70 : decode cX1_addStretch 70 = .ok (.iastore, 1) := by decide +kernel
theorem dX1_addStretch_71 : decode cX1_addStretch 71 = .ok (.aload_n 0, 1) := by decide +kernel
theorem dX1_addStretch_72 : decode cX1_addStretch 72 = .ok (.dup, 1) := by decide +kernel
theorem dX1_addStretch_73 : decode cX1_addStretch 73 = .ok (.getfield 30, 3) := by decide +kernel
theorem dX1_addStretch_76 : decode cX1_addStretch 76 = .ok (.iconst 1, 1) := by decide +kernel
theorem dX1_addStretch_77 : decode cX1_addStretch 77 = .ok (.iadd, 1) := by decide +kernel
theorem dX1_addStretch_78 : decode cX1_addStretch 78 = .ok (.putfield 30, 3) := by decide +kernel
theorem dX1_addStretch_81 : decode cX1_addStretch 81 = .ok (.aload_n 0, 1) := by decide +kernel
theorem dX1_addStretch_82 : decode cX1_addStretch 82 = .ok (.dup, 1) := by decide +kernel
theorem dX1_addStretch_83 : decode cX1_addStretch 83 = .ok (.getfield 34, 3) := by decide +kernel
theorem dX1_addStretch_86 : decode cX1_addStretch 86 = .ok (.iload_n 1, 1) := by decide +kernel
theorem dX1_addStretch_87 : decode cX1_addStretch 87 = .ok (.iadd, 1) := by decide +kernel
theorem dX1_addStretch_88 : decode cX1_addStretch 88 = .ok (.putfield 34, 3) := by decide +kernel
theorem dX1_addStretch_91 : decode cX1_addStretch 91 = .ok (.iconst 1, 1) := by decide +kernel
theorem dX1_addStretch_92 : decode cX1_addStretch 92 = .ok (.ireturn, 1) := by decide +kernel
theorem dX1_clear_0 : decode cX1_clear 0 = .ok (.aload_n 0, 1) := by decide +kernel
theorem dX1_clear_1 : decode cX1_clear 1 = .ok (.iconst 0, 1) := by decide +kernel
theorem dX1_clear_2 : decode cX1_clear 2 = .ok (.putfield 30, 3) := by decide +kernel
theorem dX1_clear_5 : decode cX1_clear 5 = .ok (.aload_n 0, 1) := by decide +kernel
theorem dX1_clear_6 : decode cX1_clear 6 = .ok (.iconst 0, 1) := by decide +kernel
theorem dX1_clear_7 : decode cX1_clear 7 = .ok (.putfield 34, 3) := by decide +kernel
theorem dX1_clear_10 : decode cX1_clear 10 = .ok (.aload_n 0, 1) := by decide +kernel
theorem dX1_clear_11 : decode cX1_clear 11 = .ok (.iconst 0, 1) := by decide +kernel
theorem dX1_clear_12 : decode cX1_clear 12 = .ok (.putfield 37, 3) := by decide +kernel
theorem dX1_clear_15 : decode cX1_clear 15 = .ok (.aload_n 0, 1) := by decide +kernel
theorem dX1_clear_16 : decode cX1_clear 16 = .ok (.iconst 1, 1) := by decide +kernel
theorem dX1_clear_17 : decode cX1_clear 17 = .ok (.putfield 40, 3) := by decide +kernel
theorem dX1_clear_20 : decode cX1_clear 20 = .ok (.aload_n 0, 1) := by decide +kernel
theorem dX1_clear_21 : decode cX1_clear 21 = .ok (.iconst 0, 1) := by decide +kernel
theorem dX1_clear_22 : decode cX1_clear 22 = .ok (.putfield 43, 3) := by decide +kernel
theorem dX1_clear_25 : decode cX1_clear 25 = .ok (.return_, 1) := by decide +kernel
theorem dX1_copy_0 : decode cX1_copy 0 = .ok (.aload_n 0, 1) := by decide +kernel
theorem dX1_copy_1 : decode cX1_copy 1 = .ok (.aload_n 1, 1) := by decide +kernel
theorem dX1_copy_2 : decode cX1_copy 2 = .ok (.getfield 30, 3) := by decide +kernel
theorem dX1_copy_5 : decode cX1_copy 5 = .ok (.putfield 30, 3) := by decide +kernel
theorem dX1_copy_8 : decode cX1_copy 8 = .ok (.aload_n 0, 1) := by decide +kernel
theorem dX1_copy_9 : decode cX1_copy 9 = .ok (.aload_n 1, 1) := by decide +kernel
theorem dX1_copy_10 : decode cX1_copy 10 = .ok (.getfield 34, 3) := by decide +kernel
theorem dX1_copy_13 : decode cX1_copy 13 = .ok (.putfield 34, 3) := by decide +kernel
theorem dX1_copy_16 : decode cX1_copy 16 = .ok (.aload_n 0, 1) := by decide +kernel
theorem dX1_copy_17 : decode cX1_copy 17 = .ok (.aload_n 1, 1) := by decide +kernel
theorem dX1_copy_18 : decode cX1_copy 18 = .ok (.getfield 37, 3) := by decide +kernel
theorem dX1_copy_21 : decode cX1_copy 21 = .ok (.putfield 37, 3) := by decide +kernel
theorem dX1_copy_24 : decode cX1_copy 24 = .ok (.aload_n 0, 1) := by decide +kernel
theorem dX1_copy_25 : decode cX1_copy 25 = .ok (.aload_n 1, 1) := by decide +kernel
theorem dX1_copy_26 : decode cX1_copy 26 = .ok (.getfield 40, 3) := by decide +kernel
theorem dX1_copy_29 : decode cX1_copy 29 = .ok (.putfield 40, 3) := by decide +kernel
theorem dX1_copy_32 : decode cX1_copy 32 = .ok (.aload_n 0, 1) := by decide +kernel
theorem dX1_copy_33 : decode cX1_copy 33 = .ok (.aload_n 1, 1) := by decide +kernel
theorem dX1_copy_34 : decode cX1_copy 34 = .ok (.getfield 43, 3) := by decide +kernel
theorem dX1_copy_37 : decode cX1_copy 37 = .ok (.putfield 43, 3) := by decide +kernel
theorem dX1_copy_40 : decode cX1_copy 40 = .ok (.aload_n 1, 1) := by decide +kernel
theorem dX1_copy_41 : decode cX1_copy 41 = .ok (.getfield 9, 3) := by decide +kernel
theorem dX1_copy_44 : decode cX1_copy 44 = .ok (.iconst 0, 1) := by decide +kernel
theorem dX1_copy_45 : decode cX1_copy 45 = .ok (.aload_n 0, 1) := by decide +kernel
theorem dX1_copy_46 : decode cX1_copy 46 = .ok (.getfield 9, 3) := by decide +kernel
theorem dX1_copy_49 : decode cX1_copy 49 = .ok (.iconst 0, 1) := by decide +kernel
theorem dX1_copy_50 : decode cX1_copy 50 = .ok (.bipush 6, 2) := by decide +kernel
theorem dX1_copy_52 : decode cX1_copy 52 = .ok (.invokestatic 54, 3) := by decide +kernel
theorem dX1_copy_55 : decode cX1_copy 55 = .ok (.aload_n 1, 1) := by decide +kernel
theorem dX1_copy_56 : decode cX1_copy 56 = .ok (.getfield 15, 3) := by decide +kernel
theorem dX1_copy_59 : decode cX1_copy 59 = .ok (.iconst 0, 1) := by decide +kernel
theorem dX1_copy_60 : decode cX1_copy 60 = .ok (.aload_n 0, 1) := by decide +kernel
theorem dX1_copy_61 : decode cX1_copy 61 = .ok (.getfield 15, 3) := by decide +kernel
theorem dX1_copy_64 : decode cX1_copy 64 = .ok (.iconst 0, 1) := by decide +kernel
theorem dX1_copy_65 : decode cX1_copy 65 = .ok (.bipush 6, 2) := by decide +kernel
theorem dX1_copy_67 : decode cX1_copy 67 = .ok (.invokestatic 54, 3) := by decide +kernel
theorem dX1_copy_70 : decode cX1_copy 70 = .ok (.aload_n 1, 1) := by decide +kernel
theorem dX1_copy_71 : decode cX1_copy 71 = .ok (.getfield 18, 3) := by decide +kernel
theorem dX1_copy_74 : decode cX1_copy 74 = .ok (.iconst 0, 1) := by decide +kernel
theorem dX1_copy_75 : decode cX1_copy 75 = .ok (.aload_n 0, 1) := by decide +kernel
theorem dX1_copy_76 : decode cX1_copy 76 = .ok (.getfield 18, 3) := by decide +kernel
theorem dX1_copy_79 : decode cX1_copy 79 = .ok (.iconst 0, 1) := by decide +kernel
theorem dX1_copy_80 : decode cX1_copy 80 = .ok (.bipush 6, 2) := by decide +kernel
theorem dX1_copy_82 : decode cX1_copy 82 = .ok (.invokestatic 54, 3) := by decide +kernel
theorem dX1_copy_85 : decode cX1_copy 85 = .ok (.aload_n 1, 1) := by decide +kernel
theorem dX1_copy_86 : decode cX1_copy 86 = .ok (.getfield 21, 3) := by decide +kernel
theorem dX1_copy_89 : decode cX1_copy 89 = .ok (.iconst 0, 1) := by decide +kernel
theorem dX1_copy_90 : decode cX1_copy 90 = .ok (.aload_n 0, 1) := by decide +kernel
theorem dX1_copy_91 : decode cX1_copy 91 = .ok (.getfield 21, 3) := by decide +kernel
theorem dX1_copy_94 : decode cX1_copy 94 = .ok (.iconst 0, 1) := by decide +kernel
theorem dX1_copy_95 : decode cX1_copy 95 = .ok (.bipush 6, 2) := by decide +kernel
theorem dX1_copy_97 : decode cX1_copy 97 = .ok (.invokestatic 54, 3) := by decide +kernel
theorem dX1_copy_100 : decode cX1_copy 100 = .ok (.aload_n 1, 1) := by decide +kernel
theorem dX1_copy_101 : decode cX1_copy 101 = .ok (.getfield 24, 3) := by decide +kernel
theorem dX1_copy_104 : decode cX1_copy 104 = .ok (.iconst 0, 1) := by decide +kernel
theorem dX1_copy_105 : decode cX1_copy 105 = .ok (.aload_n 0, 1) := by decide +kernel
theorem dX1_copy_106 : decode cX1_copy 106 = .ok (.getfield 24, 3) := by decide +kernel
theorem dX1_copy_109 : decode cX1_copy 109 = .ok (.iconst 0, 1) := by decide +kernel
theorem dX1_copy_110 : decode cX1_copy 110 = .ok (.bipush 6, 2) := by decide +kernel
theorem dX1_copy_112 : decode cX1_copy 112 = .ok (.invokestatic 54, 3) := by decide +kernel
theorem dX1_copy_115 : decode cX1_copy 115 = .ok (.aload_n 0, 1) := by decide +kernel
theorem dX1_copy_116 : decode cX1_copy 116 = .ok (.invokevirtual 60, 3) := by decide +kernel
theorem dX1_copy_119 : decode cX1_copy 119 = .ok (.return_, 1) := by decide +kernel
theorem dX1_hasBearer_0 : decode cX1_hasBearer 0 = .ok (.iload_n 1, 1) := by decide +kernel
theorem dX1_hasBearer_1 : decode cX1_hasBearer 1 = .ok (.ifCond .lt 15, 3) := by decide +kernel
theorem dX1_hasBearer_4 : decode cX1_hasBearer 4 = .ok (.iload_n 1, 1) := by decide +kernel
theorem dX1_hasBearer_5 : decode cX1_hasBearer 5 = .ok (.aload_n 0, 1) := by decide +kernel
theorem dX1_hasBearer_6 : decode cX1_hasBearer 6 = .ok (.getfield 37, 3) := by decide +kernel
theorem dX1_hasBearer_9 : decode cX1_hasBearer 9 = .ok (.if_icmp .ge 7, 3) := by decide +kernel
theorem dX1_hasBearer_12 : decode cX1_hasBearer 12 = .ok (.iconst 1, 1) := by decide +kernel
theorem dX1_hasBearer_13 : decode cX1_hasBearer 13 = .ok (.goto 4, 3) := by decide +kernel
theorem dX1_hasBearer_16 : decode cX1_hasBearer 16 = .ok (.iconst 0, 1) := by decide +kernel
theorem dX1_hasBearer_17 : decode cX1_hasBearer 17 = .ok (.ireturn, 1) := by decide +kernel
theorem dX1_hasStretch_0 : decode cX1_hasStretch 0 = .ok (.iload_n 1, 1) := by decide +kernel
theorem dX1_hasStretch_1 : decode cX1_hasStretch 1 = .ok (.ifCond .lt 15, 3) := by decide +kernel
theorem dX1_hasStretch_4 : decode cX1_hasStretch 4 = .ok (.iload_n 1, 1) := by decide +kernel
theorem dX1_hasStretch_5 : decode cX1_hasStretch 5 = .ok (.aload_n 0, 1) := by decide +kernel
theorem dX1_hasStretch_6 : decode cX1_hasStretch 6 = .ok (.getfield 30, 3) := by decide +kernel
theorem dX1_hasStretch_9 : decode cX1_hasStretch 9 = .ok (.if_icmp .ge 7, 3) := by decide +kernel
theorem dX1_hasStretch_12 : decode cX1_hasStretch 12 = .ok (.iconst 1, 1) := by decide +kernel
theorem dX1_hasStretch_13 : decode cX1_hasStretch 13 = .ok (.goto 4, 3) := by decide +kernel
theorem dX1_hasStretch_16 : decode cX1_hasStretch 16 = .ok (.iconst 0, 1) := by decide +kernel
theorem dX1_hasStretch_17 : decode cX1_hasStretch 17 = .ok (.ireturn, 1) := by decide +kernel
theorem dX1_hasYard_0 : decode cX1_hasYard 0 = .ok (.iload_n 1, 1) := by decide +kernel
theorem dX1_hasYard_1 : decode cX1_hasYard 1 = .ok (.ifCond .lt 15, 3) := by decide +kernel
theorem dX1_hasYard_4 : decode cX1_hasYard 4 = .ok (.iload_n 1, 1) := by decide +kernel
theorem dX1_hasYard_5 : decode cX1_hasYard 5 = .ok (.aload_n 0, 1) := by decide +kernel
theorem dX1_hasYard_6 : decode cX1_hasYard 6 = .ok (.getfield 34, 3) := by decide +kernel
theorem dX1_hasYard_9 : decode cX1_hasYard 9 = .ok (.if_icmp .ge 7, 3) := by decide +kernel
theorem dX1_hasYard_12 : decode cX1_hasYard 12 = .ok (.iconst 1, 1) := by decide +kernel
theorem dX1_hasYard_13 : decode cX1_hasYard 13 = .ok (.goto 4, 3) := by decide +kernel
theorem dX1_hasYard_16 : decode cX1_hasYard 16 = .ok (.iconst 0, 1) := by decide +kernel
theorem dX1_hasYard_17 : decode cX1_hasYard 17 = .ok (.ireturn, 1) := by decide +kernel
theorem dX1_init_0 : decode cX1_init 0 = .ok (.aload_n 0, 1) := by decide +kernel
theorem dX1_init_1 : decode cX1_init 1 = .ok (.invokespecial 3, 3) := by decide +kernel
theorem dX1_init_4 : decode cX1_init 4 = .ok (.aload_n 0, 1) := by decide +kernel
theorem dX1_init_5 : decode cX1_init 5 = .ok (.bipush 6, 2) := by decide +kernel
theorem dX1_init_7 : decode cX1_init 7 = .ok (.newarray .int, 2) := by decide +kernel
theorem dX1_init_9 : decode cX1_init 9 = .ok (.putfield 9, 3) := by decide +kernel
theorem dX1_init_12 : decode cX1_init 12 = .ok (.aload_n 0, 1) := by decide +kernel
theorem dX1_init_13 : decode cX1_init 13 = .ok (.bipush 6, 2) := by decide +kernel
theorem dX1_init_15 : decode cX1_init 15 = .ok (.newarray .int, 2) := by decide +kernel
theorem dX1_init_17 : decode cX1_init 17 = .ok (.putfield 15, 3) := by decide +kernel
theorem dX1_init_20 : decode cX1_init 20 = .ok (.aload_n 0, 1) := by decide +kernel
theorem dX1_init_21 : decode cX1_init 21 = .ok (.bipush 6, 2) := by decide +kernel
theorem dX1_init_23 : decode cX1_init 23 = .ok (.newarray .int, 2) := by decide +kernel
theorem dX1_init_25 : decode cX1_init 25 = .ok (.putfield 18, 3) := by decide +kernel
theorem dX1_init_28 : decode cX1_init 28 = .ok (.aload_n 0, 1) := by decide +kernel
theorem dX1_init_29 : decode cX1_init 29 = .ok (.bipush 6, 2) := by decide +kernel
theorem dX1_init_31 : decode cX1_init 31 = .ok (.newarray .int, 2) := by decide +kernel
theorem dX1_init_33 : decode cX1_init 33 = .ok (.putfield 21, 3) := by decide +kernel
theorem dX1_init_36 : decode cX1_init 36 = .ok (.aload_n 0, 1) := by decide +kernel
theorem dX1_init_37 : decode cX1_init 37 = .ok (.bipush 6, 2) := by decide +kernel
theorem dX1_init_39 : decode cX1_init 39 = .ok (.newarray .int, 2) := by decide +kernel
theorem dX1_init_41 : decode cX1_init 41 = .ok (.putfield 24, 3) := by decide +kernel
theorem dX1_init_44 : decode cX1_init 44 = .ok (.aload_n 0, 1) := by decide +kernel
theorem dX1_init_45 : decode cX1_init 45 = .ok (.bipush 120, 2) := by decide +kernel
theorem dX1_init_47 : decode cX1_init 47 = .ok (.newarray .int, 2) := by decide +kernel
theorem dX1_init_49 : decode cX1_init 49 = .ok (.putfield 27, 3) := by decide +kernel
theorem dX1_init_52 : decode cX1_init 52 = .ok (.return_, 1) := by decide +kernel
theorem dX1_markYards_0 : decode cX1_markYards 0 = .ok (.iconst 0, 1) := by decide +kernel
theorem dX1_markYards_1 : decode cX1_markYards 1 = .ok (.istore_n 1, 1) := by decide +kernel
theorem dX1_markYards_2 : decode cX1_markYards 2 = .ok (.iconst 0, 1) := by decide +kernel
theorem dX1_markYards_3 : decode cX1_markYards 3 = .ok (.istore_n 2, 1) := by decide +kernel
theorem dX1_markYards_4 : decode cX1_markYards 4 = .ok (.iload_n 2, 1) := by decide +kernel
theorem dX1_markYards_5 : decode cX1_markYards 5 = .ok (.aload_n 0, 1) := by decide +kernel
theorem dX1_markYards_6 : decode cX1_markYards 6 = .ok (.getfield 30, 3) := by decide +kernel
theorem dX1_markYards_9 : decode cX1_markYards 9 = .ok (.if_icmp .ge 43, 3) := by decide +kernel
theorem dX1_markYards_12 : decode cX1_markYards 12 = .ok (.iconst 0, 1) := by decide +kernel
theorem dX1_markYards_13 : decode cX1_markYards 13 = .ok (.istore_n 3, 1) := by decide +kernel
theorem dX1_markYards_14 : decode cX1_markYards 14 = .ok (.iload_n 3, 1) := by decide +kernel
theorem dX1_markYards_15 : decode cX1_markYards 15 = .ok (.aload_n 0, 1) := by decide +kernel
theorem dX1_markYards_16 : decode cX1_markYards 16 = .ok (.getfield 9, 3) := by decide +kernel
theorem dX1_markYards_19 : decode cX1_markYards 19 = .ok (.iload_n 2, 1) := by decide +kernel
theorem dX1_markYards_20 : decode cX1_markYards 20 = .ok (.iaload, 1) := by decide +kernel
theorem dX1_markYards_21 : decode cX1_markYards 21 = .ok (.if_icmp .ge 25, 3) := by decide +kernel
theorem dX1_markYards_24 : decode cX1_markYards 24 = .ok (.iload_n 1, 1) := by decide +kernel
theorem dX1_markYards_25 : decode cX1_markYards 25 = .ok (.bipush 120, 2) := by decide +kernel
theorem dX1_markYards_27 : decode cX1_markYards 27 = .ok (.if_icmp .ge 19, 3) := by decide +kernel
theorem dX1_markYards_30 : decode cX1_markYards 30 = .ok (.aload_n 0, 1) := by decide +kernel
theorem dX1_markYards_31 : decode cX1_markYards 31 = .ok (.getfield 27, 3) := by decide +kernel
theorem dX1_markYards_34 : decode cX1_markYards 34 = .ok (.iload_n 1, 1) := by decide +kernel
theorem dX1_markYards_35 : decode cX1_markYards 35 = .ok (.iload_n 2, 1) := by decide +kernel
theorem dX1_markYards_36 : decode cX1_markYards 36 = .ok (.iastore, 1) := by decide +kernel
theorem dX1_markYards_37 : decode cX1_markYards 37 = .ok (.iinc 1 1, 3) := by decide +kernel
theorem dX1_markYards_40 : decode cX1_markYards 40 = .ok (.iinc 3 1, 3) := by decide +kernel
theorem dX1_markYards_43 : decode cX1_markYards 43 = .ok (.goto (-29), 3) := by decide +kernel
theorem dX1_markYards_46 : decode cX1_markYards 46 = .ok (.iinc 2 1, 3) := by decide +kernel
theorem dX1_markYards_49 : decode cX1_markYards 49 = .ok (.goto (-45), 3) := by decide +kernel
theorem dX1_markYards_52 : decode cX1_markYards 52 = .ok (.return_, 1) := by decide +kernel
theorem dX1_moveBorder_0 : decode cX1_moveBorder 0 = .ok (.iload_n 1, 1) := by decide +kernel
theorem dX1_moveBorder_1 : decode cX1_moveBorder 1 = .ok (.ifCond .lt 39, 3) := by decide +kernel
theorem dX1_moveBorder_4 : decode cX1_moveBorder 4 = .ok (.iload_n 1, 1) := by decide +kernel
theorem dX1_moveBorder_5 : decode cX1_moveBorder 5 = .ok (.iconst 1, 1) := by decide +kernel
theorem dX1_moveBorder_6 : decode cX1_moveBorder 6 = .ok (.iadd, 1) := by decide +kernel
theorem dX1_moveBorder_7 : decode cX1_moveBorder 7 = .ok (.aload_n 0, 1) := by decide +kernel
theorem dX1_moveBorder_8 : decode cX1_moveBorder 8 = .ok (.getfield 30, 3) := by decide +kernel
theorem dX1_moveBorder_11 : decode cX1_moveBorder 11 = .ok (.if_icmp .ge 29, 3) := by decide +kernel
theorem dX1_moveBorder_14 : decode cX1_moveBorder 14 = .ok (.aload_n 0, 1) := by decide +kernel
theorem dX1_moveBorder_15 : decode cX1_moveBorder 15 = .ok (.getfield 9, 3) := by decide +kernel
theorem dX1_moveBorder_18 : decode cX1_moveBorder 18 = .ok (.iload_n 1, 1) := by decide +kernel
theorem dX1_moveBorder_19 : decode cX1_moveBorder 19 = .ok (.iaload, 1) := by decide +kernel
theorem dX1_moveBorder_20 : decode cX1_moveBorder 20 = .ok (.iload_n 2, 1) := by decide +kernel
theorem dX1_moveBorder_21 : decode cX1_moveBorder 21 = .ok (.iadd, 1) := by decide +kernel
theorem dX1_moveBorder_22 : decode cX1_moveBorder 22 = .ok (.iconst 1, 1) := by decide +kernel
theorem dX1_moveBorder_23 : decode cX1_moveBorder 23 = .ok (.if_icmp .lt 17, 3) := by decide +kernel
theorem dX1_moveBorder_26 : decode cX1_moveBorder 26 = .ok (.aload_n 0, 1) := by decide +kernel
theorem dX1_moveBorder_27 : decode cX1_moveBorder 27 = .ok (.getfield 9, 3) := by decide +kernel
theorem dX1_moveBorder_30 : decode cX1_moveBorder 30 = .ok (.iload_n 1, 1) := by decide +kernel
theorem dX1_moveBorder_31 : decode cX1_moveBorder 31 = .ok (.iconst 1, 1) := by decide +kernel
theorem dX1_moveBorder_32 : decode cX1_moveBorder 32 = .ok (.iadd, 1) := by decide +kernel
theorem dX1_moveBorder_33 : decode cX1_moveBorder 33 = .ok (.iaload, 1) := by decide +kernel
theorem dX1_moveBorder_34 : decode cX1_moveBorder 34 = .ok (.iload_n 2, 1) := by decide +kernel
theorem dX1_moveBorder_35 : decode cX1_moveBorder 35 = .ok (.isub, 1) := by decide +kernel
theorem dX1_moveBorder_36 : decode cX1_moveBorder 36 = .ok (.iconst 1, 1) := by decide +kernel
theorem dX1_moveBorder_37 : decode cX1_moveBorder 37 = .ok (.if_icmp .ge 5, 3) := by decide +kernel
theorem dX1_moveBorder_40 : decode cX1_moveBorder 40 = .ok (.iconst 0, 1) := by decide +kernel
theorem dX1_moveBorder_41 : decode cX1_moveBorder 41 = .ok (.ireturn, 1) := by decide +kernel
theorem dX1_moveBorder_42 : decode cX1_moveBorder 42 = .ok (.aload_n 0, 1) := by decide +kernel
theorem dX1_moveBorder_43 : decode cX1_moveBorder 43 = .ok (.getfield 9, 3) := by decide +kernel
theorem dX1_moveBorder_46 : decode cX1_moveBorder 46 = .ok (.iload_n 1, 1) := by decide +kernel
theorem dX1_moveBorder_47 : decode cX1_moveBorder 47 = .ok (.dup2, 1) := by decide +kernel
theorem dX1_moveBorder_48 : decode cX1_moveBorder 48 = .ok (.iaload, 1) := by decide +kernel
theorem dX1_moveBorder_49 : decode cX1_moveBorder 49 = .ok (.iload_n 2, 1) := by decide +kernel
theorem dX1_moveBorder_50 : decode cX1_moveBorder 50 = .ok (.iadd, 1) := by decide +kernel
theorem dX1_moveBorder_51 : decode cX1_moveBorder 51 = .ok (.iastore, 1) := by decide +kernel
theorem dX1_moveBorder_52 : decode cX1_moveBorder 52 = .ok (.aload_n 0, 1) := by decide +kernel
theorem dX1_moveBorder_53 : decode cX1_moveBorder 53 = .ok (.getfield 9, 3) := by decide +kernel
theorem dX1_moveBorder_56 : decode cX1_moveBorder 56 = .ok (.iload_n 1, 1) := by decide +kernel
theorem dX1_moveBorder_57 : decode cX1_moveBorder 57 = .ok (.iconst 1, 1) := by decide +kernel
theorem dX1_moveBorder_58 : decode cX1_moveBorder 58 = .ok (.iadd, 1) := by decide +kernel
theorem dX1_moveBorder_59 : decode cX1_moveBorder 59 = .ok (.dup2, 1) := by decide +kernel
theorem dX1_moveBorder_60 : decode cX1_moveBorder 60 = .ok (.iaload, 1) := by decide +kernel
theorem dX1_moveBorder_61 : decode cX1_moveBorder 61 = .ok (.iload_n 2, 1) := by decide +kernel
theorem dX1_moveBorder_62 : decode cX1_moveBorder 62 = .ok (.isub, 1) := by decide +kernel
theorem dX1_moveBorder_63 : decode cX1_moveBorder 63 = .ok (.iastore, 1) := by decide +kernel
theorem dX1_moveBorder_64 : decode cX1_moveBorder 64 = .ok (.aload_n 0, 1) := by decide +kernel
theorem dX1_moveBorder_65 : decode cX1_moveBorder 65 = .ok (.invokevirtual 60, 3) := by decide +kernel
theorem dX1_moveBorder_68 : decode cX1_moveBorder 68 = .ok (.iconst 1, 1) := by decide +kernel
theorem dX1_moveBorder_69 : decode cX1_moveBorder 69 = .ok (.ireturn, 1) := by decide +kernel
theorem dX1_priceAt_0 : decode cX1_priceAt 0 = .ok (.aload_n 0, 1) := by decide +kernel
theorem dX1_priceAt_1 : decode cX1_priceAt 1 = .ok (.getfield 18, 3) := by decide +kernel
theorem dX1_priceAt_4 : decode cX1_priceAt 4 = .ok (.aload_n 0, 1) := by decide +kernel
theorem dX1_priceAt_5 : decode cX1_priceAt 5 = .ok (.getfield 27, 3) := by decide +kernel
theorem dX1_priceAt_8 : decode cX1_priceAt 8 = .ok (.iload_n 1, 1) := by decide +kernel
theorem dX1_priceAt_9 : decode cX1_priceAt 9 = .ok (.iaload, 1) := by decide +kernel
theorem dX1_priceAt_10 : decode cX1_priceAt 10 = .ok (.iaload, 1) := by decide +kernel
theorem dX1_priceAt_11 : decode cX1_priceAt 11 = .ok (.ireturn, 1) := by decide +kernel
theorem dX1_setMust_0 : decode cX1_setMust 0 = .ok (.iload_n 1, 1) := by decide +kernel
theorem dX1_setMust_1 : decode cX1_setMust 1 = .ok (.iconst 1, 1) := by decide +kernel
theorem dX1_setMust_2 : decode cX1_setMust 2 = .ok (.iconst 3, 1) := by decide +kernel
theorem dX1_setMust_3 : decode cX1_setMust 3 = .ok (.invokestatic 46, 3) := by decide +kernel
theorem dX1_setMust_6 : decode cX1_setMust 6 = .ok (.ifCond .ne 5, 3) := by decide +kernel
theorem dX1_setMust_9 : decode cX1_setMust 9 = .ok (.iconst 0, 1) := by decide +kernel
theorem dX1_setMust_10 : decode cX1_setMust 10 = .ok (.ireturn, 1) := by decide +kernel
theorem dX1_setMust_11 : decode cX1_setMust 11 = .ok (.aload_n 0, 1) := by decide +kernel
theorem dX1_setMust_12 : decode cX1_setMust 12 = .ok (.iload_n 1, 1) := by decide +kernel
theorem dX1_setMust_13 : decode cX1_setMust 13 = .ok (.putfield 40, 3) := by decide +kernel
theorem dX1_setMust_16 : decode cX1_setMust 16 = .ok (.iconst 1, 1) := by decide +kernel
theorem dX1_setMust_17 : decode cX1_setMust 17 = .ok (.ireturn, 1) := by decide +kernel
theorem dX1_setPrice_0 : decode cX1_setPrice 0 = .ok (.aload_n 0, 1) := by decide +kernel
theorem dX1_setPrice_1 : decode cX1_setPrice 1 = .ok (.iload_n 1, 1) := by decide +kernel
theorem dX1_setPrice_2 : decode cX1_setPrice 2 = .ok (.invokevirtual 50, 3) := by decide +kernel
theorem dX1_setPrice_5 : decode cX1_setPrice 5 = .ok (.ifCond .eq 13, 3) := by decide +kernel
theorem dX1_setPrice_8 : decode cX1_setPrice 8 = .ok (.iload_n 2, 1) := by decide +kernel
theorem dX1_setPrice_9 : decode cX1_setPrice 9 = .ok (.iconst 1, 1) := by decide +kernel
theorem dX1_setPrice_10 : decode cX1_setPrice 10 = .ok (.bipush 9, 2) := by decide +kernel
theorem dX1_setPrice_12 : decode cX1_setPrice 12 = .ok (.invokestatic 46, 3) := by decide +kernel
theorem dX1_setPrice_15 : decode cX1_setPrice 15 = .ok (.ifCond .ne 5, 3) := by decide +kernel
theorem dX1_setPrice_18 : decode cX1_setPrice 18 = .ok (.iconst 0, 1) := by decide +kernel
theorem dX1_setPrice_19 : decode cX1_setPrice 19 = .ok (.ireturn, 1) := by decide +kernel
theorem dX1_setPrice_20 : decode cX1_setPrice 20 = .ok (.aload_n 0, 1) := by decide +kernel
theorem dX1_setPrice_21 : decode cX1_setPrice 21 = .ok (.getfield 18, 3) := by decide +kernel
theorem dX1_setPrice_24 : decode cX1_setPrice 24 = .ok (.iload_n 1, 1) := by decide +kernel
theorem dX1_setPrice_25 : decode cX1_setPrice 25 = .ok (.iload_n 2, 1) := by decide +kernel
theorem dX1_setPrice_26 : decode cX1_setPrice 26 = .ok (.iastore, 1) := by decide +kernel
theorem dX1_setPrice_27 : decode cX1_setPrice 27 = .ok (.iconst 1, 1) := by decide +kernel
theorem dX1_setPrice_28 : decode cX1_setPrice 28 = .ok (.ireturn, 1) := by decide +kernel
theorem dX1_setWet_0 : decode cX1_setWet 0 = .ok (.iload_n 1, 1) := by decide +kernel
theorem dX1_setWet_1 : decode cX1_setWet 1 = .ok (.iconst 0, 1) := by decide +kernel
theorem dX1_setWet_2 : decode cX1_setWet 2 = .ok (.iconst 3, 1) := by decide +kernel
theorem dX1_setWet_3 : decode cX1_setWet 3 = .ok (.invokestatic 46, 3) := by decide +kernel
theorem dX1_setWet_6 : decode cX1_setWet 6 = .ok (.ifCond .ne 5, 3) := by decide +kernel
theorem dX1_setWet_9 : decode cX1_setWet 9 = .ok (.iconst 0, 1) := by decide +kernel
theorem dX1_setWet_10 : decode cX1_setWet 10 = .ok (.ireturn, 1) := by decide +kernel
theorem dX1_setWet_11 : decode cX1_setWet 11 = .ok (.aload_n 0, 1) := by decide +kernel
theorem dX1_setWet_12 : decode cX1_setWet 12 = .ok (.iload_n 1, 1) := by decide +kernel
theorem dX1_setWet_13 : decode cX1_setWet 13 = .ok (.putfield 43, 3) := by decide +kernel
theorem dX1_setWet_16 : decode cX1_setWet 16 = .ok (.iconst 1, 1) := by decide +kernel
theorem dX1_setWet_17 : decode cX1_setWet 17 = .ok (.ireturn, 1) := by decide +kernel
theorem dX1_slopeAt_0 : decode cX1_slopeAt 0 = .ok (.aload_n 0, 1) := by decide +kernel
theorem dX1_slopeAt_1 : decode cX1_slopeAt 1 = .ok (.getfield 15, 3) := by decide +kernel
theorem dX1_slopeAt_4 : decode cX1_slopeAt 4 = .ok (.aload_n 0, 1) := by decide +kernel
theorem dX1_slopeAt_5 : decode cX1_slopeAt 5 = .ok (.getfield 27, 3) := by decide +kernel
theorem dX1_slopeAt_8 : decode cX1_slopeAt 8 = .ok (.iload_n 1, 1) := by decide +kernel
theorem dX1_slopeAt_9 : decode cX1_slopeAt 9 = .ok (.iaload, 1) := by decide +kernel
theorem dX1_slopeAt_10 : decode cX1_slopeAt 10 = .ok (.iaload, 1) := by decide +kernel
theorem dX1_slopeAt_11 : decode cX1_slopeAt 11 = .ok (.ireturn, 1) := by decide +kernel
theorem dX1_twins_0 : decode cX1_twins 0 = .ok (.iconst 0, 1) := by decide +kernel
theorem dX1_twins_1 : decode cX1_twins 1 = .ok (.istore_n 1, 1) := by decide +kernel
theorem dX1_twins_2 : decode cX1_twins 2 = .ok (.iconst 0, 1) := by decide +kernel
theorem dX1_twins_3 : decode cX1_twins 3 = .ok (.istore_n 2, 1) := by decide +kernel
theorem dX1_twins_4 : decode cX1_twins 4 = .ok (.iload_n 2, 1) := by decide +kernel
theorem dX1_twins_5 : decode cX1_twins 5 = .ok (.aload_n 0, 1) := by decide +kernel
theorem dX1_twins_6 : decode cX1_twins 6 = .ok (.getfield 37, 3) := by decide +kernel
theorem dX1_twins_9 : decode cX1_twins 9 = .ok (.if_icmp .ge 25, 3) := by decide +kernel
theorem dX1_twins_12 : decode cX1_twins 12 = .ok (.aload_n 0, 1) := by decide +kernel
theorem dX1_twins_13 : decode cX1_twins 13 = .ok (.getfield 24, 3) := by decide +kernel
theorem dX1_twins_16 : decode cX1_twins 16 = .ok (.iload_n 2, 1) := by decide +kernel
theorem dX1_twins_17 : decode cX1_twins 17 = .ok (.iaload, 1) := by decide +kernel
theorem dX1_twins_18 : decode cX1_twins 18 = .ok (.iconst 3, 1) := by decide +kernel
theorem dX1_twins_19 : decode cX1_twins 19 = .ok (.if_icmp .ne 9, 3) := by decide +kernel
theorem dX1_twins_22 : decode cX1_twins 22 = .ok (.iload_n 1, 1) := by decide +kernel
theorem dX1_twins_23 : decode cX1_twins 23 = .ok (.iconst 1, 1) := by decide +kernel
theorem dX1_twins_24 : decode cX1_twins 24 = .ok (.iload_n 2, 1) := by decide +kernel
theorem dX1_twins_25 : decode cX1_twins 25 = .ok (.ishl, 1) := by decide +kernel
theorem dX1_twins_26 : decode cX1_twins 26 = .ok (.ior, 1) := by decide +kernel
theorem dX1_twins_27 : decode cX1_twins 27 = .ok (.istore_n 1, 1) := by decide +kernel
theorem dX1_twins_28 : decode cX1_twins 28 = .ok (.iinc 2 1, 3) := by decide +kernel
theorem dX1_twins_31 : decode cX1_twins 31 = .ok (.goto (-27), 3) := by decide +kernel
theorem dX1_twins_34 : decode cX1_twins 34 = .ok (.iload_n 1, 1) := by decide +kernel
theorem dX1_twins_35 : decode cX1_twins 35 = .ok (.ireturn, 1) := by decide +kernel
theorem dX2_goAlone_0 : decode cX2_goAlone 0 = .ok (.aload_n 0, 1) := by decide +kernel
theorem dX2_goAlone_1 : decode cX2_goAlone 1 = .ok (.getfield 18, 3) := by decide +kernel
theorem dX2_goAlone_4 : decode cX2_goAlone 4 = .ok (.getfield 62, 3) := by decide +kernel
theorem dX2_goAlone_7 : decode cX2_goAlone 7 = .ok (.iload_n 1, 1) := by decide +kernel
theorem dX2_goAlone_8 : decode cX2_goAlone 8 = .ok (.iaload, 1) := by decide +kernel
theorem dX2_goAlone_9 : decode cX2_goAlone 9 = .ok (.iload_n 1, 1) := by decide +kernel
theorem dX2_goAlone_10 : decode cX2_goAlone 10 = .ok (.aload_n 0, 1) := by decide +kernel
theorem dX2_goAlone_11 : decode cX2_goAlone 11 = .ok (.getfield 22, 3) := by decide +kernel
theorem dX2_goAlone_14 : decode cX2_goAlone 14 = .ok (.if_icmp .ne 10, 3) := by decide +kernel
theorem dX2_goAlone_17 : decode cX2_goAlone 17 = .ok (.aload_n 0, 1) := by decide +kernel
theorem dX2_goAlone_18 : decode cX2_goAlone 18 = .ok (.getfield 26, 3) := by decide +kernel
theorem dX2_goAlone_21 : decode cX2_goAlone 21 = .ok (.goto 4, 3) := by decide +kernel
theorem dX2_goAlone_24 : decode cX2_goAlone 24 = .ok (.iconst 0, 1) := by decide +kernel
theorem dX2_goAlone_25 : decode cX2_goAlone 25 = .ok (.iadd, 1) := by decide +kernel
theorem dX2_goAlone_26 : decode cX2_goAlone 26 = .ok (.istore_n 3, 1) := by decide +kernel
theorem dX2_goAlone_27 : decode cX2_goAlone 27 = .ok (.iload_n 2, 1) := by decide +kernel
theorem dX2_goAlone_28 : decode cX2_goAlone 28 = .ok (.istore 4, 2) := by decide +kernel
theorem dX2_goAlone_30 : decode cX2_goAlone 30 = .ok (.iload 4, 2) := by decide +kernel
theorem dX2_goAlone_32 : decode cX2_goAlone 32 = .ok (.aload_n 0, 1) := by decide +kernel
theorem dX2_goAlone_33 : decode cX2_goAlone 33 = .ok (.getfield 18, 3) := by decide +kernel
theorem dX2_goAlone_36 : decode cX2_goAlone 36 = .ok (.getfield 45, 3) := by decide +kernel
theorem dX2_goAlone_39 : decode cX2_goAlone 39 = .ok (.if_icmp .ge 52, 3) := by decide +kernel
theorem dX2_goAlone_42 : decode cX2_goAlone 42 = .ok (.iload_n 3, 1) := by decide +kernel
theorem dX2_goAlone_43 : decode cX2_goAlone 43 = .ok (.iconst 1, 1) := by decide +kernel
theorem dX2_goAlone_44 : decode cX2_goAlone 44 = .ok (.aload_n 0, 1) := by decide +kernel
theorem dX2_goAlone_45 : decode cX2_goAlone 45 = .ok (.getfield 18, 3) := by decide +kernel
theorem dX2_goAlone_48 : decode cX2_goAlone 48 = .ok (.iload 4, 2) := by decide +kernel
theorem dX2_goAlone_50 : decode cX2_goAlone 50 = .ok (.invokevirtual 65, 3) := by decide +kernel
theorem dX2_goAlone_53 : decode cX2_goAlone 53 = .ok (.iadd, 1) := by decide +kernel
theorem dX2_goAlone_54 : decode cX2_goAlone 54 = .ok (.aload_n 0, 1) := by decide +kernel
theorem dX2_goAlone_55 : decode cX2_goAlone 55 = .ok (.getfield 18, 3) := by decide +kernel
theorem dX2_goAlone_58 : decode cX2_goAlone 58 = .ok (.getfield 69, 3) := by decide +kernel
theorem dX2_goAlone_61 : decode cX2_goAlone 61 = .ok (.iadd, 1) := by decide +kernel
theorem dX2_goAlone_62 : decode cX2_goAlone 62 = .ok (.aload_n 0, 1) := by decide +kernel
theorem dX2_goAlone_63 : decode cX2_goAlone 63 = .ok (.getfield 18, 3) := by decide +kernel
theorem dX2_goAlone_66 : decode cX2_goAlone 66 = .ok (.getfield 72, 3) := by decide +kernel
theorem dX2_goAlone_69 : decode cX2_goAlone 69 = .ok (.iload_n 1, 1) := by decide +kernel
theorem dX2_goAlone_70 : decode cX2_goAlone 70 = .ok (.iaload, 1) := by decide +kernel
theorem dX2_goAlone_71 : decode cX2_goAlone 71 = .ok (.iconst 1, 1) := by decide +kernel
theorem dX2_goAlone_72 : decode cX2_goAlone 72 = .ok (.iconst 1, 1) := by decide +kernel
theorem dX2_goAlone_73 : decode cX2_goAlone 73 = .ok (.invokestatic 75, 3) := by decide +kernel
theorem dX2_goAlone_76 : decode cX2_goAlone 76 = .ok (.isub, 1) := by decide +kernel
theorem dX2_goAlone_77 : decode cX2_goAlone 77 = .ok (.istore_n 3, 1) := by decide +kernel
theorem dX2_goAlone_78 : decode cX2_goAlone 78 = .ok (.iload_n 3, 1) := by decide +kernel
theorem dX2_goAlone_79 : decode cX2_goAlone 79 = .ok (.ifCond .ge 6, 3) := by decide +kernel
theorem dX2_goAlone_82 : decode cX2_goAlone 82 = .ok (.iload 4, 2) := by decide +kernel
theorem dX2_goAlone_84 : decode cX2_goAlone 84 = .ok (.ireturn, 1) := by decide +kernel
theorem dX2_goAlone_85 : decode cX2_goAlone 85 = .ok (.iinc 4 1, 3) := by decide +kernel
theorem dX2_goAlone_88 : decode cX2_goAlone 88 = .ok (.goto (-58), 3) := by decide +kernel
theorem dX2_goAlone_91 : decode cX2_goAlone 91 = .ok (.aload_n 0, 1) := by decide +kernel
theorem dX2_goAlone_92 : decode cX2_goAlone 92 = .ok (.getfield 18, 3) := by decide +kernel
theorem dX2_goAlone_95 : decode cX2_goAlone 95 = .ok (.getfield 45, 3) := by decide +kernel
theorem dX2_goAlone_98 : decode cX2_goAlone 98 = .ok (.ireturn, 1) := by decide +kernel
theorem dX2_init_0 : decode cX2_init 0 = .ok (.aload_n 0, 1) := by decide +kernel
theorem dX2_init_1 : decode cX2_init 1 = .ok (.invokespecial 3, 3) := by decide +kernel
theorem dX2_init_4 : decode cX2_init 4 = .ok (.aload_n 0, 1) := by decide +kernel
theorem dX2_init_5 : decode cX2_init 5 = .ok (.bipush 6, 2) := by decide +kernel
theorem dX2_init_7 : decode cX2_init 7 = .ok (.newarray .int, 2) := by decide +kernel
theorem dX2_init_9 : decode cX2_init 9 = .ok (.putfield 9, 3) := by decide +kernel
theorem dX2_init_12 : decode cX2_init 12 = .ok (.aload_n 0, 1) := by decide +kernel
theorem dX2_init_13 : decode cX2_init 13 = .ok (.bipush 6, 2) := by decide +kernel
theorem dX2_init_15 : decode cX2_init 15 = .ok (.newarray .int, 2) := by decide +kernel
theorem dX2_init_17 : decode cX2_init 17 = .ok (.putfield 15, 3) := by decide +kernel
theorem dX2_init_20 : decode cX2_init 20 = .ok (.aload_n 0, 1) := by decide +kernel
theorem dX2_init_21 : decode cX2_init 21 = .ok (.aload_n 1, 1) := by decide +kernel
theorem dX2_init_22 : decode cX2_init 22 = .ok (.putfield 18, 3) := by decide +kernel
theorem dX2_init_25 : decode cX2_init 25 = .ok (.return_, 1) := by decide +kernel
theorem dX2_note_0 : decode cX2_note 0 = .ok (.iload_n 1, 1) := by decide +kernel
theorem dX2_note_1 : decode cX2_note 1 = .ok (.aload_n 0, 1) := by decide +kernel
theorem dX2_note_2 : decode cX2_note 2 = .ok (.getfield 29, 3) := by decide +kernel
theorem dX2_note_5 : decode cX2_note 5 = .ok (.if_icmp .le 23, 3) := by decide +kernel
theorem dX2_note_8 : decode cX2_note 8 = .ok (.aload_n 0, 1) := by decide +kernel
theorem dX2_note_9 : decode cX2_note 9 = .ok (.iload_n 1, 1) := by decide +kernel
theorem dX2_note_10 : decode cX2_note 10 = .ok (.putfield 29, 3) := by decide +kernel
theorem dX2_note_13 : decode cX2_note 13 = .ok (.aload_n 0, 1) := by decide +kernel
theorem dX2_note_14 : decode cX2_note 14 = .ok (.getfield 15, 3) := by decide +kernel
theorem dX2_note_17 : decode cX2_note 17 = .ok (.iconst 0, 1) := by decide +kernel
theorem dX2_note_18 : decode cX2_note 18 = .ok (.aload_n 0, 1) := by decide +kernel
theorem dX2_note_19 : decode cX2_note 19 = .ok (.getfield 9, 3) := by decide +kernel
theorem dX2_note_22 : decode cX2_note 22 = .ok (.iconst 0, 1) := by decide +kernel
theorem dX2_note_23 : decode cX2_note 23 = .ok (.bipush 6, 2) := by decide +kernel
theorem dX2_note_25 : decode cX2_note 25 = .ok (.invokestatic 56, 3) := by decide +kernel
theorem dX2_note_28 : decode cX2_note 28 = .ok (.return_, 1) := by decide +kernel
theorem dX2_seek_0 : decode cX2_seek 0 = .ok (.aload_n 0, 1) := by decide +kernel
theorem dX2_seek_1 : decode cX2_seek 1 = .ok (.iload_n 1, 1) := by decide +kernel
theorem dX2_seek_2 : decode cX2_seek 2 = .ok (.putfield 22, 3) := by decide +kernel
theorem dX2_seek_5 : decode cX2_seek 5 = .ok (.aload_n 0, 1) := by decide +kernel
theorem dX2_seek_6 : decode cX2_seek 6 = .ok (.iload_n 2, 1) := by decide +kernel
theorem dX2_seek_7 : decode cX2_seek 7 = .ok (.putfield 26, 3) := by decide +kernel
theorem dX2_seek_10 : decode cX2_seek 10 = .ok (.aload_n 0, 1) := by decide +kernel
theorem dX2_seek_11 : decode cX2_seek 11 = .ok (.bipush (-4), 2) := by decide +kernel
theorem dX2_seek_13 : decode cX2_seek 13 = .ok (.putfield 29, 3) := by decide +kernel
theorem dX2_seek_16 : decode cX2_seek 16 = .ok (.aload_n 0, 1) := by decide +kernel
theorem dX2_seek_17 : decode cX2_seek 17 = .ok (.iconst 0, 1) := by decide +kernel
theorem dX2_seek_18 : decode cX2_seek 18 = .ok (.iconst 0, 1) := by decide +kernel
theorem dX2_seek_19 : decode cX2_seek 19 = .ok (.iconst 0, 1) := by decide +kernel
theorem dX2_seek_20 : decode cX2_seek 20 = .ok (.invokestatic 32, 3) := by decide +kernel
theorem dX2_seek_23 : decode cX2_seek 23 = .ok (.return_, 1) := by decide +kernel
theorem dX2_tryNext_0 : decode cX2_tryNext 0 = .ok (.iload_n 1, 1) := by decide +kernel
theorem dX2_tryNext_1 : decode cX2_tryNext 1 = .ok (.aload_n 0, 1) := by decide +kernel
theorem dX2_tryNext_2 : decode cX2_tryNext 2 = .ok (.getfield 18, 3) := by decide +kernel
theorem dX2_tryNext_5 : decode cX2_tryNext 5 = .ok (.getfield 36, 3) := by decide +kernel
theorem dX2_tryNext_8 : decode cX2_tryNext 8 = .ok (.if_icmp .ge 9, 3) := by decide +kernel
theorem dX2_tryNext_11 : decode cX2_tryNext 11 = .ok (.iload_n 1, 1) := by decide +kernel
theorem dX2_tryNext_12 : decode cX2_tryNext 12 = .ok (.bipush 6, 2) := by decide +kernel
theorem dX2_tryNext_14 : decode cX2_tryNext 14 = .ok (.if_icmp .lt 9, 3) := by decide +kernel
theorem dX2_tryNext_17 : decode cX2_tryNext 17 = .ok (.aload_n 0, 1) := by decide +kernel
theorem dX2_tryNext_18 : decode cX2_tryNext 18 = .ok (.iload_n 3, 1) := by decide +kernel
theorem dX2_tryNext_19 : decode cX2_tryNext 19 = .ok (.invokevirtual 41, 3) := by decide +kernel
theorem dX2_tryNext_22 : decode cX2_tryNext 22 = .ok (.return_, 1) := by decide +kernel
theorem dX2_tryNext_23 : decode cX2_tryNext 23 = .ok (.iconst 0, 1) := by decide +kernel
theorem dX2_tryNext_24 : decode cX2_tryNext 24 = .ok (.istore 4, 2) := by decide +kernel
theorem dX2_tryNext_26 : decode cX2_tryNext 26 = .ok (.iload 4, 2) := by decide +kernel
theorem dX2_tryNext_28 : decode cX2_tryNext 28 = .ok (.aload_n 0, 1) := by decide +kernel
theorem dX2_tryNext_29 : decode cX2_tryNext 29 = .ok (.getfield 18, 3) := by decide +kernel
theorem dX2_tryNext_32 : decode cX2_tryNext 32 = .ok (.getfield 36, 3) := by decide +kernel
theorem dX2_tryNext_35 : decode cX2_tryNext 35 = .ok (.if_icmp .ge 60, 3) := by decide +kernel
theorem dX2_tryNext_38 : decode cX2_tryNext 38 = .ok (.aload_n 0, 1) := by decide +kernel
theorem dX2_tryNext_39 : decode cX2_tryNext 39 = .ok (.getfield 29, 3) := by decide +kernel
theorem dX2_tryNext_42 : decode cX2_tryNext 42 = .ok (.aload_n 0, 1) := by decide +kernel
theorem dX2_tryNext_43 : decode cX2_tryNext 43 = .ok (.getfield 18, 3) := by decide +kernel
theorem dX2_tryNext_46 : decode cX2_tryNext 46 = .ok (.getfield 45, 3) := by decide +kernel
theorem dX2_tryNext_49 : decode cX2_tryNext 49 = .ok (.if_icmp .ge 46, 3) := by decide +kernel
theorem dX2_tryNext_52 : decode cX2_tryNext 52 = .ok (.iload 4, 2) := by decide +kernel
theorem dX2_tryNext_54 : decode cX2_tryNext 54 = .ok (.iload_n 2, 1) := by decide +kernel
theorem dX2_tryNext_55 : decode cX2_tryNext 55 = .ok (.invokestatic 48, 3) := by decide +kernel
theorem dX2_tryNext_58 : decode cX2_tryNext 58 = .ok (.ifCond .ne 31, 3) := by decide +kernel
theorem dX2_tryNext_61 : decode cX2_tryNext 61 = .ok (.aload_n 0, 1) := by decide +kernel
theorem dX2_tryNext_62 : decode cX2_tryNext 62 = .ok (.getfield 15, 3) := by decide +kernel
theorem dX2_tryNext_65 : decode cX2_tryNext 65 = .ok (.iload_n 1, 1) := by decide +kernel
theorem dX2_tryNext_66 : decode cX2_tryNext 66 = .ok (.iload 4, 2) := by decide +kernel
theorem dX2_tryNext_68 : decode cX2_tryNext 68 = .ok (.iastore, 1) := by decide +kernel
theorem dX2_tryNext_69 : decode cX2_tryNext 69 = .ok (.aload_n 0, 1) := by decide +kernel
theorem dX2_tryNext_70 : decode cX2_tryNext 70 = .ok (.iload_n 1, 1) := by decide +kernel
theorem dX2_tryNext_71 : decode cX2_tryNext 71 = .ok (.iconst 1, 1) := by decide +kernel
theorem dX2_tryNext_72 : decode cX2_tryNext 72 = .ok (.iadd, 1) := by decide +kernel
theorem dX2_tryNext_73 : decode cX2_tryNext 73 = .ok (.iload_n 2, 1) := by decide +kernel
theorem dX2_tryNext_74 : decode cX2_tryNext 74 = .ok (.iconst 1, 1) := by decide +kernel
theorem dX2_tryNext_75 : decode cX2_tryNext 75 = .ok (.iload 4, 2) := by decide +kernel
theorem dX2_tryNext_77 : decode cX2_tryNext 77 = .ok (.ishl, 1) := by decide +kernel
theorem dX2_tryNext_78 : decode cX2_tryNext 78 = .ok (.ior, 1) := by decide +kernel
theorem dX2_tryNext_79 : decode cX2_tryNext 79 = .ok (.aload_n 0, 1) := by decide +kernel
theorem dX2_tryNext_80 : decode cX2_tryNext 80 = .ok (.iload 4, 2) := by decide +kernel
theorem dX2_tryNext_82 : decode cX2_tryNext 82 = .ok (.iload_n 3, 1) := by decide +kernel
theorem dX2_tryNext_83 : decode cX2_tryNext 83 = .ok (.invokevirtual 52, 3) := by decide +kernel
theorem dX2_tryNext_86 : decode cX2_tryNext 86 = .ok (.invokestatic 32, 3) := by decide +kernel
theorem dX2_tryNext_89 : decode cX2_tryNext 89 = .ok (.iinc 4 1, 3) := by decide +kernel
theorem dX2_tryNext_92 : decode cX2_tryNext 92 = .ok (.goto (-66), 3) := by decide +kernel
theorem dX2_tryNext_95 : decode cX2_tryNext 95 = .ok (.return_, 1) := by decide +kernel
theorem dX3_dropOldest_0 : decode cX3_dropOldest 0 = .ok (.aload_n 0, 1) := by decide +kernel
theorem dX3_dropOldest_1 : decode cX3_dropOldest 1 = .ok (.getfield 9, 3) := by decide +kernel
theorem dX3_dropOldest_4 : decode cX3_dropOldest 4 = .ok (.iconst 0, 1) := by decide +kernel
theorem dX3_dropOldest_5 : decode cX3_dropOldest 5 = .ok (.aaload, 1) := by decide +kernel
theorem dX3_dropOldest_6 : decode cX3_dropOldest 6 = .ok (.astore_n 1, 1) := by decide +kernel
theorem dX3_dropOldest_7 : decode cX3_dropOldest 7 = .ok (.iconst 0, 1) := by decide +kernel
theorem dX3_dropOldest_8 : decode cX3_dropOldest 8 = .ok (.istore_n 2, 1) := by decide +kernel
theorem dX3_dropOldest_9 : decode cX3_dropOldest 9 = .ok (.iload_n 2, 1) := by decide +kernel
theorem dX3_dropOldest_10 : decode cX3_dropOldest 10 = .ok (.iconst 1, 1) := by decide +kernel
theorem dX3_dropOldest_11 : decode cX3_dropOldest 11 = .ok (.iadd, 1) := by decide +kernel
theorem dX3_dropOldest_12 : decode cX3_dropOldest 12 = .ok (.aload_n 0, 1) := by decide +kernel
theorem dX3_dropOldest_13 : decode cX3_dropOldest 13 = .ok (.getfield 9, 3) := by decide +kernel
theorem dX3_dropOldest_16 : decode cX3_dropOldest 16 = .ok (.arraylength, 1) := by decide +kernel
theorem dX3_dropOldest_17 : decode cX3_dropOldest 17 = .ok (.if_icmp .ge 23, 3) := by decide +kernel
theorem dX3_dropOldest_20 : decode cX3_dropOldest 20 = .ok (.aload_n 0, 1) := by decide +kernel
theorem dX3_dropOldest_21 : decode cX3_dropOldest 21 = .ok (.getfield 9, 3) := by decide +kernel
theorem dX3_dropOldest_24 : decode cX3_dropOldest 24 = .ok (.iload_n 2, 1) := by decide +kernel
theorem dX3_dropOldest_25 : decode cX3_dropOldest 25 = .ok (.aload_n 0, 1) := by decide +kernel
theorem dX3_dropOldest_26 : decode cX3_dropOldest 26 = .ok (.getfield 9, 3) := by decide +kernel
theorem dX3_dropOldest_29 : decode cX3_dropOldest 29 = .ok (.iload_n 2, 1) := by decide +kernel
theorem dX3_dropOldest_30 : decode cX3_dropOldest 30 = .ok (.iconst 1, 1) := by decide +kernel
theorem dX3_dropOldest_31 : decode cX3_dropOldest 31 = .ok (.iadd, 1) := by decide +kernel
theorem dX3_dropOldest_32 : decode cX3_dropOldest 32 = .ok (.aaload, 1) := by decide +kernel
theorem dX3_dropOldest_33 : decode cX3_dropOldest 33 = .ok (.aastore, 1) := by decide +kernel
theorem dX3_dropOldest_34 : decode cX3_dropOldest 34 = .ok (.iinc 2 1, 3) := by decide +kernel
theorem dX3_dropOldest_37 : decode cX3_dropOldest 37 = .ok (.goto (-28), 3) := by decide +kernel
theorem dX3_dropOldest_40 : decode cX3_dropOldest 40 = .ok (.aload_n 0, 1) := by decide +kernel
theorem dX3_dropOldest_41 : decode cX3_dropOldest 41 = .ok (.getfield 9, 3) := by decide +kernel
theorem dX3_dropOldest_44 : decode cX3_dropOldest 44 = .ok (.aload_n 0, 1) := by decide +kernel
theorem dX3_dropOldest_45 : decode cX3_dropOldest 45 = .ok (.getfield 9, 3) := by decide +kernel
theorem dX3_dropOldest_48 : decode cX3_dropOldest 48 = .ok (.arraylength, 1) := by decide +kernel
theorem dX3_dropOldest_49 : decode cX3_dropOldest 49 = .ok (.iconst 1, 1) := by decide +kernel
theorem dX3_dropOldest_50 : decode cX3_dropOldest 50 = .ok (.isub, 1) := by decide +kernel
theorem dX3_dropOldest_51 : decode cX3_dropOldest 51 = .ok (.aload_n 1, 1) := by decide +kernel
theorem dX3_dropOldest_52 : decode cX3_dropOldest 52 = .ok (.aastore, 1) := by decide +kernel
theorem dX3_dropOldest_53 : decode cX3_dropOldest 53 = .ok (.aload_n 0, 1) := by decide +kernel
theorem dX3_dropOldest_54 : decode cX3_dropOldest 54 = .ok (.dup, 1) := by decide +kernel
theorem dX3_dropOldest_55 : decode cX3_dropOldest 55 = .ok (.getfield 16, 3) := by decide +kernel
theorem dX3_dropOldest_58 : decode cX3_dropOldest 58 = .ok (.iconst 1, 1) := by decide +kernel
theorem dX3_dropOldest_59 : decode cX3_dropOldest 59 = .ok (.isub, 1) := by decide +kernel
theorem dX3_dropOldest_60 : decode cX3_dropOldest 60 = .ok (.putfield 16, 3) := by decide +kernel
theorem dX3_dropOldest_63 : decode cX3_dropOldest 63 = .ok (.return_, 1) := by decide +kernel
theorem dX3_init_0 : decode cX3_init 0 = .ok (.aload_n 0, 1) := by decide +kernel
theorem dX3_init_1 : decode cX3_init 1 = .ok (.invokespecial 1, 3) := by decide +kernel
theorem dX3_init_4 : decode cX3_init 4 = .ok (.aload_n 0, 1) := by decide +kernel
theorem dX3_init_5 : decode cX3_init 5 = .ok (.iload_n 1, 1) := by decide +kernel
theorem dX3_init_6 : decode cX3_init 6 = .ok (.anewarray 7, 3) := by decide +kernel
theorem dX3_init_9 : decode cX3_init 9 = .ok (.putfield 9, 3) := by decide +kernel
theorem dX3_init_12 : decode cX3_init 12 = .ok (.iconst 0, 1) := by decide +kernel
theorem dX3_init_13 : decode cX3_init 13 = .ok (.istore_n 2, 1) := by decide +kernel
theorem dX3_init_14 : decode cX3_init 14 = .ok (.iload_n 2, 1) := by decide +kernel
theorem dX3_init_15 : decode cX3_init 15 = .ok (.iload_n 1, 1) := by decide +kernel
theorem dX3_init_16 : decode cX3_init 16 = .ok (.if_icmp .ge 22, 3) := by decide +kernel
theorem dX3_init_19 : decode cX3_init 19 = .ok (.aload_n 0, 1) := by decide +kernel
theorem dX3_init_20 : decode cX3_init 20 = .ok (.getfield 9, 3) := by decide +kernel
theorem dX3_init_23 : decode cX3_init 23 = .ok (.iload_n 2, 1) := by decide +kernel
theorem dX3_init_24 : decode cX3_init 24 = .ok (.new 7, 3) := by decide +kernel
theorem dX3_init_27 : decode cX3_init 27 = .ok (.dup, 1) := by decide +kernel
theorem dX3_init_28 : decode cX3_init 28 = .ok (.invokespecial 15, 3) := by decide +kernel
theorem dX3_init_31 : decode cX3_init 31 = .ok (.aastore, 1) := by decide +kernel
theorem dX3_init_32 : decode cX3_init 32 = .ok (.iinc 2 1, 3) := by decide +kernel
theorem dX3_init_35 : decode cX3_init 35 = .ok (.goto (-21), 3) := by decide +kernel
theorem dX3_init_38 : decode cX3_init 38 = .ok (.return_, 1) := by decide +kernel
theorem dX3_isFull_0 : decode cX3_isFull 0 = .ok (.aload_n 0, 1) := by decide +kernel
theorem dX3_isFull_1 : decode cX3_isFull 1 = .ok (.getfield 16, 3) := by decide +kernel
theorem dX3_isFull_4 : decode cX3_isFull 4 = .ok (.aload_n 0, 1) := by decide +kernel
theorem dX3_isFull_5 : decode cX3_isFull 5 = .ok (.getfield 9, 3) := by decide +kernel
theorem dX3_isFull_8 : decode cX3_isFull 8 = .ok (.arraylength, 1) := by decide +kernel
theorem dX3_isFull_9 : decode cX3_isFull 9 = .ok (.if_icmp .lt 7, 3) := by decide +kernel
theorem dX3_isFull_12 : decode cX3_isFull 12 = .ok (.iconst 1, 1) := by decide +kernel
theorem dX3_isFull_13 : decode cX3_isFull 13 = .ok (.goto 4, 3) := by decide +kernel
theorem dX3_isFull_16 : decode cX3_isFull 16 = .ok (.iconst 0, 1) := by decide +kernel
theorem dX3_isFull_17 : decode cX3_isFull 17 = .ok (.ireturn, 1) := by decide +kernel
theorem dX3_popInto_0 : decode cX3_popInto 0 = .ok (.aload_n 0, 1) := by decide +kernel
theorem dX3_popInto_1 : decode cX3_popInto 1 = .ok (.getfield 16, 3) := by decide +kernel
theorem dX3_popInto_4 : decode cX3_popInto 4 = .ok (.ifCond .ne 5, 3) := by decide +kernel
theorem dX3_popInto_7 : decode cX3_popInto 7 = .ok (.iconst 0, 1) := by decide +kernel
theorem dX3_popInto_8 : decode cX3_popInto 8 = .ok (.ireturn, 1) := by decide +kernel
theorem dX3_popInto_9 : decode cX3_popInto 9 = .ok (.aload_n 0, 1) := by decide +kernel
theorem dX3_popInto_10 : decode cX3_popInto 10 = .ok (.dup, 1) := by decide +kernel
theorem dX3_popInto_11 : decode cX3_popInto 11 = .ok (.getfield 16, 3) := by decide +kernel
theorem dX3_popInto_14 : decode cX3_popInto 14 = .ok (.iconst 1, 1) := by decide +kernel
theorem dX3_popInto_15 : decode cX3_popInto 15 = .ok (.isub, 1) := by decide +kernel
theorem dX3_popInto_16 : decode cX3_popInto 16 = .ok (.putfield 16, 3) := by decide +kernel
theorem dX3_popInto_19 : decode cX3_popInto 19 = .ok (.aload_n 1, 1) := by decide +kernel
theorem dX3_popInto_20 : decode cX3_popInto 20 = .ok (.aload_n 0, 1) := by decide +kernel
theorem dX3_popInto_21 : decode cX3_popInto 21 = .ok (.getfield 9, 3) := by decide +kernel
theorem dX3_popInto_24 : decode cX3_popInto 24 = .ok (.aload_n 0, 1) := by decide +kernel
theorem dX3_popInto_25 : decode cX3_popInto 25 = .ok (.getfield 16, 3) := by decide +kernel
theorem dX3_popInto_28 : decode cX3_popInto 28 = .ok (.aaload, 1) := by decide +kernel
theorem dX3_popInto_29 : decode cX3_popInto 29 = .ok (.invokevirtual 27, 3) := by decide +kernel
theorem dX3_popInto_32 : decode cX3_popInto 32 = .ok (.iconst 1, 1) := by decide +kernel
theorem dX3_popInto_33 : decode cX3_popInto 33 = .ok (.ireturn, 1) := by decide +kernel
theorem dX3_push_0 : decode cX3_push 0 = .ok (.aload_n 0, 1) := by decide +kernel
theorem dX3_push_1 : decode cX3_push 1 = .ok (.invokevirtual 20, 3) := by decide +kernel
theorem dX3_push_4 : decode cX3_push 4 = .ok (.ifCond .eq 7, 3) := by decide +kernel
theorem dX3_push_7 : decode cX3_push 7 = .ok (.aload_n 0, 1) := by decide +kernel
theorem dX3_push_8 : decode cX3_push 8 = .ok (.invokevirtual 24, 3) := by decide +kernel
theorem dX3_push_11 : decode cX3_push 11 = .ok (.aload_n 0, 1) := by decide +kernel
theorem dX3_push_12 : decode cX3_push 12 = .ok (.getfield 9, 3) := by decide +kernel
theorem dX3_push_15 : decode cX3_push 15 = .ok (.aload_n 0, 1) := by decide +kernel
theorem dX3_push_16 : decode cX3_push 16 = .ok (.getfield 16, 3) := by decide +kernel
theorem dX3_push_19 : decode cX3_push 19 = .ok (.aaload, 1) := by decide +kernel
theorem dX3_push_20 : decode cX3_push 20 = .ok (.aload_n 1, 1) := by decide +kernel
theorem dX3_push_21 : decode cX3_push 21 = .ok (.invokevirtual 27, 3) := by decide +kernel
theorem dX3_push_24 : decode cX3_push 24 = .ok (.aload_n 0, 1) := by decide +kernel
theorem dX3_push_25 : decode cX3_push 25 = .ok (.dup, 1) := by decide +kernel
theorem dX3_push_26 : decode cX3_push 26 = .ok (.getfield 16, 3) := by decide +kernel
theorem dX3_push_29 : decode cX3_push 29 = .ok (.iconst 1, 1) := by decide +kernel
theorem dX3_push_30 : decode cX3_push 30 = .ok (.iadd, 1) := by decide +kernel
theorem dX3_push_31 : decode cX3_push 31 = .ok (.putfield 16, 3) := by decide +kernel
theorem dX3_push_34 : decode cX3_push 34 = .ok (.return_, 1) := by decide +kernel
theorem dX4_firstFault_0 : decode cX4_firstFault 0 = .ok (.aload_n 0, 1) := by decide +kernel
theorem dX4_firstFault_1 : decode cX4_firstFault 1 = .ok (.getfield 12, 3) := by decide +kernel
theorem dX4_firstFault_4 : decode cX4_firstFault 4 = .ok (.invokevirtual 29, 3) := by decide +kernel
theorem dX4_firstFault_7 : decode cX4_firstFault 7 = .ok (.aload_n 0, 1) := by decide +kernel
theorem dX4_firstFault_8 : decode cX4_firstFault 8 = .ok (.getfield 21, 3) := by decide +kernel
theorem dX4_firstFault_11 : decode cX4_firstFault 11 = .ok (.iconst 0, 1) := by decide +kernel
theorem dX4_firstFault_12 : decode cX4_firstFault 12 = .ok (.putfield 32, 3) := by decide +kernel
theorem dX4_firstFault_15 : decode cX4_firstFault 15 = .ok (.iconst 0, 1) := by decide +kernel
theorem dX4_firstFault_16 : decode cX4_firstFault 16 = .ok (.istore_n 3, 1) := by decide +kernel
theorem dX4_firstFault_17 : decode cX4_firstFault 17 = .ok (.iload_n 3, 1) := by decide +kernel
theorem dX4_firstFault_18 : decode cX4_firstFault 18 = .ok (.iload_n 2, 1) := by decide +kernel
theorem dX4_firstFault_19 : decode cX4_firstFault 19 = .ok (.if_icmp .ge 47, 3) := by decide +kernel
theorem dX4_firstFault_22 : decode cX4_firstFault 22 = .ok (.aload_n 1, 1) := by decide +kernel
theorem dX4_firstFault_23 : decode cX4_firstFault 23 = .ok (.iload_n 3, 1) := by decide +kernel
theorem dX4_firstFault_24 : decode cX4_firstFault 24 = .ok (.caload, 1) := by decide +kernel
theorem dX4_firstFault_25 : decode cX4_firstFault 25 = .ok (.istore 4, 2) := by decide +kernel
theorem dX4_firstFault_27 : decode cX4_firstFault 27 = .ok (.aload_n 0, 1) := by decide +kernel
theorem dX4_firstFault_28 : decode cX4_firstFault 28 = .ok (.aload_n 1, 1) := by decide +kernel
theorem dX4_firstFault_29 : decode cX4_firstFault 29 = .ok (.iload_n 3, 1) := by decide +kernel
theorem dX4_firstFault_30 : decode cX4_firstFault 30 = .ok (.iconst 1, 1) := by decide +kernel
theorem dX4_firstFault_31 : decode cX4_firstFault 31 = .ok (.iadd, 1) := by decide +kernel
theorem dX4_firstFault_32 : decode cX4_firstFault 32 = .ok (.iload_n 2, 1) := by decide +kernel
theorem dX4_firstFault_33 : decode cX4_firstFault 33 = .ok (.iload 4, 2) := by decide +kernel
theorem dX4_firstFault_35 : decode cX4_firstFault 35 = .ok (.invokestatic 36, 3) := by decide +kernel
theorem dX4_firstFault_38 : decode cX4_firstFault 38 = .ok (.invokevirtual 40, 3) := by decide +kernel
theorem dX4_firstFault_41 : decode cX4_firstFault 41 = .ok (.istore 5, 2) := by decide +kernel
theorem dX4_firstFault_43 : decode cX4_firstFault 43 = .ok (.iload 5, 2) := by decide +kernel
theorem dX4_firstFault_45 : decode cX4_firstFault 45 = .ok (.iload_n 3, 1) := by decide +kernel
theorem dX4_firstFault_46 : decode cX4_firstFault 46 = .ok (.if_icmp .le 12, 3) := by decide +kernel
theorem dX4_firstFault_49 : decode cX4_firstFault 49 = .ok (.aload_n 0, 1) := by decide +kernel
theorem dX4_firstFault_50 : decode cX4_firstFault 50 = .ok (.iload 4, 2) := by decide +kernel
theorem dX4_firstFault_52 : decode cX4_firstFault 52 = .ok (.invokevirtual 44, 3) := by decide +kernel
theorem dX4_firstFault_55 : decode cX4_firstFault 55 = .ok (.ifCond .ne 5, 3) := by decide +kernel
theorem dX4_firstFault_58 : decode cX4_firstFault 58 = .ok (.iload_n 3, 1) := by decide +kernel
theorem dX4_firstFault_59 : decode cX4_firstFault 59 = .ok (.ireturn, 1) := by decide +kernel
theorem dX4_firstFault_60 : decode cX4_firstFault 60 = .ok (.iload 5, 2) := by decide +kernel
theorem dX4_firstFault_62 : decode cX4_firstFault 62 = .ok (.istore_n 3, 1) := by decide +kernel
theorem dX4_firstFault_63 : decode cX4_firstFault 63 = .ok (.goto (-46), 3) := by decide +kernel
theorem dX4_firstFault_66 : decode cX4_firstFault 66 = .ok (.bipush (-4), 2) := by decide +kernel
theorem dX4_firstFault_68 : decode cX4_firstFault 68 = .ok (.ireturn, 1) := by decide +kernel
theorem dX4_init_0 : decode cX4_init 0 = .ok (.aload_n 0, 1) := by decide +kernel
theorem dX4_init_1 : decode cX4_init 1 = .ok (.invokespecial 3, 3) := by decide +kernel
theorem dX4_init_4 : decode cX4_init 4 = .ok (.aload_n 0, 1) := by decide +kernel
theorem dX4_init_5 : decode cX4_init 5 = .ok (.new 9, 3) := by decide +kernel
theorem dX4_init_8 : decode cX4_init 8 = .ok (.dup, 1) := by decide +kernel
theorem dX4_init_9 : decode cX4_init 9 = .ok (.invokespecial 11, 3) := by decide +kernel
theorem dX4_init_12 : decode cX4_init 12 = .ok (.putfield 12, 3) := by decide +kernel
theorem dX4_init_15 : decode cX4_init 15 = .ok (.aload_n 0, 1) := by decide +kernel
theorem dX4_init_16 : decode cX4_init 16 = .ok (.new 18, 3) := by decide +kernel
theorem dX4_init_19 : decode cX4_init 19 = .ok (.dup, 1) := by decide +kernel
theorem dX4_init_20 : decode cX4_init 20 = .ok (.invokespecial 20, 3) := by decide +kernel
theorem dX4_init_23 : decode cX4_init 23 = .ok (.putfield 21, 3) := by decide +kernel
theorem dX4_init_26 : decode cX4_init 26 = .ok (.aload_n 0, 1) := by decide +kernel
theorem dX4_init_27 : decode cX4_init 27 = .ok (.iconst 3, 1) := by decide +kernel
theorem dX4_init_28 : decode cX4_init 28 = .ok (.newarray .int, 2) := by decide +kernel
theorem dX4_init_30 : decode cX4_init 30 = .ok (.putfield 25, 3) := by decide +kernel
theorem dX4_init_33 : decode cX4_init 33 = .ok (.return_, 1) := by decide +kernel
theorem dX4_numbersOf_0 : decode cX4_numbersOf 0 = .ok (.iload_n 0, 1) := by decide +kernel
theorem dX4_numbersOf_1 : decode cX4_numbersOf 1 = .ok (.lookupswitch 65 #[(98, 61), (109, 59), (114, 59), (115, 61), (116, 63), (120, 61)], 59) := by decide +kernel
theorem dX4_numbersOf_60 : decode cX4_numbersOf 60 = .ok (.iconst 1, 1) := by decide +kernel
theorem dX4_numbersOf_61 : decode cX4_numbersOf 61 = .ok (.ireturn, 1) := by decide +kernel
theorem dX4_numbersOf_62 : decode cX4_numbersOf 62 = .ok (.iconst 2, 1) := by decide +kernel
theorem dX4_numbersOf_63 : decode cX4_numbersOf 63 = .ok (.ireturn, 1) := by decide +kernel
theorem dX4_numbersOf_64 : decode cX4_numbersOf 64 = .ok (.iconst 3, 1) := by decide +kernel
theorem dX4_numbersOf_65 : decode cX4_numbersOf 65 = .ok (.ireturn, 1) := by decide +kernel
theorem dX4_numbersOf_66 : decode cX4_numbersOf 66 = .ok (.iconst 0, 1) := by decide +kernel
theorem dX4_numbersOf_67 : decode cX4_numbersOf 67 = .ok (.ireturn, 1) := by decide +kernel
theorem dX4_readNumbers_0 : decode cX4_readNumbers 0 = .ok (.iload_n 2, 1) := by decide +kernel
theorem dX4_readNumbers_1 : decode cX4_readNumbers 1 = .ok (.istore 5, 2) := by decide +kernel
theorem dX4_readNumbers_3 : decode cX4_readNumbers 3 = .ok (.iconst 0, 1) := by decide +kernel
theorem dX4_readNumbers_4 : decode cX4_readNumbers 4 = .ok (.istore 6, 2) := by decide +kernel
theorem dX4_readNumbers_6 : decode cX4_readNumbers 6 = .ok (.iload 6, 2) := by decide +kernel
theorem dX4_readNumbers_8 : decode cX4_readNumbers 8 = .ok (.iload 4, 2) := by decide +kernel
theorem dX4_readNumbers_10 : decode cX4_readNumbers 10 = .ok (.if_icmp .ge 127, 3) := by decide +kernel
theorem dX4_readNumbers_13 : decode cX4_readNumbers 13 = .ok (.iload 5, 2) := by decide +kernel
theorem dX4_readNumbers_15 : decode cX4_readNumbers 15 = .ok (.istore 7, 2) := by decide +kernel
theorem dX4_readNumbers_17 : decode cX4_readNumbers 17 = .ok (.aload_n 0, 1) := by decide +kernel
theorem dX4_readNumbers_18 : decode cX4_readNumbers 18 = .ok (.getfield 25, 3) := by decide +kernel
theorem dX4_readNumbers_21 : decode cX4_readNumbers 21 = .ok (.iload 6, 2) := by decide +kernel
theorem dX4_readNumbers_23 : decode cX4_readNumbers 23 = .ok (.iconst 0, 1) := by decide +kernel
theorem dX4_readNumbers_24 : decode cX4_readNumbers 24 = .ok (.iastore, 1) := by decide +kernel
theorem dX4_readNumbers_25 : decode cX4_readNumbers 25 = .ok (.iload 5, 2) := by decide +kernel
theorem dX4_readNumbers_27 : decode cX4_readNumbers 27 = .ok (.iload_n 3, 1) := by decide +kernel
theorem dX4_readNumbers_28 : decode cX4_readNumbers 28 = .ok (.if_icmp .ge 57, 3) := by decide +kernel
theorem dX4_readNumbers_31 : decode cX4_readNumbers 31 = .ok (.iload 5, 2) := by decide +kernel
theorem dX4_readNumbers_33 : decode cX4_readNumbers 33 = .ok (.iload 7, 2) := by decide +kernel
theorem dX4_readNumbers_35 : decode cX4_readNumbers 35 = .ok (.iconst 2, 1) := by decide +kernel
theorem dX4_readNumbers_36 : decode cX4_readNumbers 36 = .ok (.iadd, 1) := by decide +kernel
theorem dX4_readNumbers_37 : decode cX4_readNumbers 37 = .ok (.if_icmp .ge 48, 3) := by decide +kernel
theorem dX4_readNumbers_40 : decode cX4_readNumbers 40 = .ok (.aload_n 1, 1) := by decide +kernel
theorem dX4_readNumbers_41 : decode cX4_readNumbers 41 = .ok (.iload 5, 2) := by decide +kernel
theorem dX4_readNumbers_43 : decode cX4_readNumbers 43 = .ok (.caload, 1) := by decide +kernel
theorem dX4_readNumbers_44 : decode cX4_readNumbers 44 = .ok (.bipush 48, 2) := by decide +kernel
theorem dX4_readNumbers_46 : decode cX4_readNumbers 46 = .ok (.bipush 57, 2) := by decide +kernel
theorem dX4_readNumbers_48 : decode cX4_readNumbers 48 = .ok (.invokestatic 48, 3) := by decide +kernel
theorem dX4_readNumbers_51 : decode cX4_readNumbers 51 = .ok (.ifCond .eq 34, 3) := by decide +kernel
theorem dX4_readNumbers_54 : decode cX4_readNumbers 54 = .ok (.aload_n 0, 1) := by decide +kernel
theorem dX4_readNumbers_55 : decode cX4_readNumbers 55 = .ok (.getfield 25, 3) := by decide +kernel
theorem dX4_readNumbers_58 : decode cX4_readNumbers 58 = .ok (.iload 6, 2) := by decide +kernel
theorem dX4_readNumbers_60 : decode cX4_readNumbers 60 = .ok (.bipush 10, 2) := by decide +kernel
theorem dX4_readNumbers_62 : decode cX4_readNumbers 62 = .ok (.aload_n 0, 1) := by decide +kernel
theorem dX4_readNumbers_63 : decode cX4_readNumbers 63 = .ok (.getfield 25, 3) := by decide +kernel
theorem dX4_readNumbers_66 : decode cX4_readNumbers 66 = .ok (.iload 6, 2) := by decide +kernel
theorem dX4_readNumbers_68 : decode cX4_readNumbers 68 = .ok (.iaload, 1) := by decide +kernel
theorem dX4_readNumbers_69 : decode cX4_readNumbers 69 = .ok (.imul, 1) := by decide +kernel
theorem dX4_readNumbers_70 : decode cX4_readNumbers 70 = .ok (.aload_n 1, 1) := by decide +kernel
theorem dX4_readNumbers_71 : decode cX4_readNumbers 71 = .ok (.iload 5, 2) := by decide +kernel
theorem dX4_readNumbers_73 : decode cX4_readNumbers 73 = .ok (.caload, 1) := by decide +kernel
theorem dX4_readNumbers_74 : decode cX4_readNumbers 74 = .ok (.iadd, 1) := by decide +kernel
theorem dX4_readNumbers_75 : decode cX4_readNumbers 75 = .ok (.bipush 48, 2) := by decide +kernel
theorem dX4_readNumbers_77 : decode cX4_readNumbers 77 = .ok (.isub, 1) := by decide +kernel
theorem dX4_readNumbers_78 : decode cX4_readNumbers 78 = .ok (.iastore, 1) := by decide +kernel
theorem dX4_readNumbers_79 : decode cX4_readNumbers 79 = .ok (.iinc 5 1, 3) := by decide +kernel
theorem dX4_readNumbers_82 : decode cX4_readNumbers 82 = .ok (.goto (-57), 3) := by decide +kernel
theorem dX4_readNumbers_85 : decode cX4_readNumbers 85 = .ok (.iload 6, 2) := by decide +kernel
theorem dX4_readNumbers_87 : decode cX4_readNumbers 87 = .ok (.iconst 1, 1) := by decide +kernel
theorem dX4_readNumbers_88 : decode cX4_readNumbers 88 = .ok (.iadd, 1) := by decide +kernel
theorem dX4_readNumbers_89 : decode cX4_readNumbers 89 = .ok (.iload 4, 2) := by decide +kernel
theorem dX4_readNumbers_91 : decode cX4_readNumbers 91 = .ok (.if_icmp .ge 8, 3) := by decide +kernel
theorem dX4_readNumbers_94 : decode cX4_readNumbers 94 = .ok (.bipush 44, 2) := by decide +kernel
theorem dX4_readNumbers_96 : decode cX4_readNumbers 96 = .ok (.goto 5, 3) := by decide +kernel
theorem dX4_readNumbers_99 : decode cX4_readNumbers 99 = .ok (.bipush 59, 2) := by decide +kernel
theorem dX4_readNumbers_101 : decode cX4_readNumbers 101 = .ok (.istore 8, 2) := by decide +kernel
theorem dX4_readNumbers_103 : decode cX4_readNumbers 103 = .ok (.iload 5, 2) := by decide +kernel
theorem dX4_readNumbers_105 : decode cX4_readNumbers 105 = .ok (.iload 7, 2) := by decide +kernel
theorem dX4_readNumbers_107 : decode cX4_readNumbers 107 = .ok (.if_icmp .eq 18, 3) := by decide +kernel
theorem dX4_readNumbers_110 : decode cX4_readNumbers 110 = .ok (.iload 5, 2) := by decide +kernel
theorem dX4_readNumbers_112 : decode cX4_readNumbers 112 = .ok (.iload_n 3, 1) := by decide +kernel
theorem dX4_readNumbers_113 : decode cX4_readNumbers 113 = .ok (.if_icmp .ge 12, 3) := by decide +kernel
theorem dX4_readNumbers_116 : decode cX4_readNumbers 116 = .ok (.aload_n 1, 1) := by decide +kernel
theorem dX4_readNumbers_117 : decode cX4_readNumbers 117 = .ok (.iload 5, 2) := by decide +kernel
theorem dX4_readNumbers_119 : decode cX4_readNumbers 119 = .ok (.caload, 1) := by decide +kernel
theorem dX4_readNumbers_120 : decode cX4_readNumbers 120 = .ok (.iload 8, 2) := by decide +kernel
theorem dX4_readNumbers_122 : decode cX4_readNumbers 122 = .ok (.if_icmp .eq 6, 3) := by decide +kernel
theorem dX4_readNumbers_125 : decode cX4_readNumbers 125 = .ok (.bipush (-4), 2) := by decide +kernel
theorem dX4_readNumbers_127 : decode cX4_readNumbers 127 = .ok (.ireturn, 1) := by decide +kernel
theorem dX4_readNumbers_128 : decode cX4_readNumbers 128 = .ok (.iinc 5 1, 3) := by decide +kernel
theorem dX4_readNumbers_131 : decode cX4_readNumbers 131 = .ok (.iinc 6 1, 3) := by decide +kernel
theorem dX4_readNumbers_134 : decode cX4_readNumbers 134 = .ok (.goto (-128), 3) := by decide +kernel
theorem dX4_readNumbers_137 : decode cX4_readNumbers 137 = .ok (.iload 4, 2) := by decide +kernel
theorem dX4_readNumbers_139 : decode cX4_readNumbers 139 = .ok (.ifCond .le 8, 3) := by decide +kernel
theorem dX4_readNumbers_142 : decode cX4_readNumbers 142 = .ok (.iload 5, 2) := by decide +kernel
theorem dX4_readNumbers_144 : decode cX4_readNumbers 144 = .ok (.goto 5, 3) := by decide +kernel
theorem dX4_readNumbers_147 : decode cX4_readNumbers 147 = .ok (.bipush (-4), 2) := by decide +kernel
theorem dX4_readNumbers_149 : decode cX4_readNumbers 149 = .ok (.ireturn, 1) := by decide +kernel
theorem dX4_take_0 : decode cX4_take 0 = .ok (.iload_n 1, 1) := by decide +kernel
theorem dX4_take_1 : decode cX4_take 1 = .ok (.lookupswitch 197 #[(98, 79), (109, 99), (114, 113), (115, 59), (116, 127), (120, 177)], 59) := by decide +kernel
theorem dX4_take_60 : decode cX4_take 60 = .ok (.aload_n 0, 1) := by decide +kernel
theorem dX4_take_61 : decode cX4_take 61 = .ok (.getfield 12, 3) := by decide +kernel
theorem dX4_take_64 : decode cX4_take 64 = .ok (.aload_n 0, 1) := by decide +kernel
theorem dX4_take_65 : decode cX4_take 65 = .ok (.getfield 25, 3) := by decide +kernel
theorem dX4_take_68 : decode cX4_take 68 = .ok (.iconst 0, 1) := by decide +kernel
theorem dX4_take_69 : decode cX4_take 69 = .ok (.iaload, 1) := by decide +kernel
theorem dX4_take_70 : decode cX4_take 70 = .ok (.aload_n 0, 1) := by decide +kernel
theorem dX4_take_71 : decode cX4_take 71 = .ok (.getfield 25, 3) := by decide +kernel
theorem dX4_take_74 : decode cX4_take 74 = .ok (.iconst 1, 1) := by decide +kernel
theorem dX4_take_75 : decode cX4_take 75 = .ok (.iaload, 1) := by decide +kernel
theorem dX4_take_76 : decode cX4_take 76 = .ok (.invokevirtual 52, 3) := by decide +kernel
theorem dX4_take_79 : decode cX4_take 79 = .ok (.ireturn, 1) := by decide +kernel
theorem dX4_take_80 : decode cX4_take 80 = .ok (.aload_n 0, 1) := by decide +kernel
theorem dX4_take_81 : decode cX4_take 81 = .ok (.getfield 12, 3) := by decide +kernel
theorem dX4_take_84 : decode cX4_take 84 = .ok (.aload_n 0, 1) := by decide +kernel
theorem dX4_take_85 : decode cX4_take 85 = .ok (.getfield 25, 3) := by decide +kernel
theorem dX4_take_88 : decode cX4_take 88 = .ok (.iconst 0, 1) := by decide +kernel
theorem dX4_take_89 : decode cX4_take 89 = .ok (.iaload, 1) := by decide +kernel
theorem dX4_take_90 : decode cX4_take 90 = .ok (.aload_n 0, 1) := by decide +kernel
theorem dX4_take_91 : decode cX4_take 91 = .ok (.getfield 25, 3) := by decide +kernel
theorem dX4_take_94 : decode cX4_take 94 = .ok (.iconst 1, 1) := by decide +kernel
theorem dX4_take_95 : decode cX4_take 95 = .ok (.iaload, 1) := by decide +kernel
theorem dX4_take_96 : decode cX4_take 96 = .ok (.invokevirtual 56, 3) := by decide +kernel
theorem dX4_take_99 : decode cX4_take 99 = .ok (.ireturn, 1) := by decide +kernel
theorem dX4_take_100 : decode cX4_take 100 = .ok (.aload_n 0, 1) := by decide +kernel
theorem dX4_take_101 : decode cX4_take 101 = .ok (.getfield 12, 3) := by decide +kernel
theorem dX4_take_104 : decode cX4_take 104 = .ok (.aload_n 0, 1) := by decide +kernel
theorem dX4_take_105 : decode cX4_take 105 = .ok (.getfield 25, 3) := by decide +kernel
theorem dX4_take_108 : decode cX4_take 108 = .ok (.iconst 0, 1) := by decide +kernel
theorem dX4_take_109 : decode cX4_take 109 = .ok (.iaload, 1) := by decide +kernel
theorem dX4_take_110 : decode cX4_take 110 = .ok (.invokevirtual 59, 3) := by decide +kernel
theorem dX4_take_113 : decode cX4_take 113 = .ok (.ireturn, 1) := by decide +kernel
theorem dX4_take_114 : decode cX4_take 114 = .ok (.aload_n 0, 1) := by decide +kernel
theorem dX4_take_115 : decode cX4_take 115 = .ok (.getfield 12, 3) := by decide +kernel
theorem dX4_take_118 : decode cX4_take 118 = .ok (.aload_n 0, 1) := by decide +kernel
theorem dX4_take_119 : decode cX4_take 119 = .ok (.getfield 25, 3) := by decide +kernel
theorem dX4_take_122 : decode cX4_take 122 = .ok (.iconst 0, 1) := by decide +kernel
theorem dX4_take_123 : decode cX4_take 123 = .ok (.iaload, 1) := by decide +kernel
theorem dX4_take_124 : decode cX4_take 124 = .ok (.invokevirtual 62, 3) := by decide +kernel
theorem dX4_take_127 : decode cX4_take 127 = .ok (.ireturn, 1) := by decide +kernel
theorem dX4_take_128 : decode cX4_take 128 = .ok (.aload_n 0, 1) := by decide +kernel
theorem dX4_take_129 : decode cX4_take 129 = .ok (.getfield 12, 3) := by decide +kernel
theorem dX4_take_132 : decode cX4_take 132 = .ok (.aload_n 0, 1) := by decide +kernel
theorem dX4_take_133 : decode cX4_take 133 = .ok (.getfield 25, 3) := by decide +kernel
theorem dX4_take_136 : decode cX4_take 136 = .ok (.iconst 0, 1) := by decide +kernel
theorem dX4_take_137 : decode cX4_take 137 = .ok (.iaload, 1) := by decide +kernel
theorem dX4_take_138 : decode cX4_take 138 = .ok (.invokevirtual 65, 3) := by decide +kernel
theorem dX4_take_141 : decode cX4_take 141 = .ok (.ifCond .eq 35, 3) := by decide +kernel
theorem dX4_take_144 : decode cX4_take 144 = .ok (.aload_n 0, 1) := by decide +kernel
theorem dX4_take_145 : decode cX4_take 145 = .ok (.getfield 21, 3) := by decide +kernel
theorem dX4_take_148 : decode cX4_take 148 = .ok (.aload_n 0, 1) := by decide +kernel
theorem dX4_take_149 : decode cX4_take 149 = .ok (.getfield 25, 3) := by decide +kernel
theorem dX4_take_152 : decode cX4_take 152 = .ok (.iconst 0, 1) := by decide +kernel
theorem dX4_take_153 : decode cX4_take 153 = .ok (.iaload, 1) := by decide +kernel
theorem dX4_take_154 : decode cX4_take 154 = .ok (.aload_n 0, 1) := by decide +kernel
theorem dX4_take_155 : decode cX4_take 155 = .ok (.getfield 25, 3) := by decide +kernel
theorem dX4_take_158 : decode cX4_take 158 = .ok (.iconst 1, 1) := by decide +kernel
theorem dX4_take_159 : decode cX4_take 159 = .ok (.iaload, 1) := by decide +kernel
theorem dX4_take_160 : decode cX4_take 160 = .ok (.aload_n 0, 1) := by decide +kernel
theorem dX4_take_161 : decode cX4_take 161 = .ok (.getfield 25, 3) := by decide +kernel
theorem dX4_take_164 : decode cX4_take 164 = .ok (.iconst 2, 1) := by decide +kernel
theorem dX4_take_165 : decode cX4_take 165 = .ok (.iaload, 1) := by decide +kernel
theorem dX4_take_166 : decode cX4_take 166 = .ok (.invokevirtual 68, 3) := by decide +kernel
theorem dX4_take_169 : decode cX4_take 169 = .ok (.ifCond .eq 7, 3) := by decide +kernel
theorem dX4_take_172 : decode cX4_take 172 = .ok (.iconst 1, 1) := by decide +kernel
theorem dX4_take_173 : decode cX4_take 173 = .ok (.goto 4, 3) := by decide +kernel
theorem dX4_take_176 : decode cX4_take 176 = .ok (.iconst 0, 1) := by decide +kernel
theorem dX4_take_177 : decode cX4_take 177 = .ok (.ireturn, 1) := by decide +kernel
theorem dX4_take_178 : decode cX4_take 178 = .ok (.aload_n 0, 1) := by decide +kernel
theorem dX4_take_179 : decode cX4_take 179 = .ok (.getfield 12, 3) := by decide +kernel
theorem dX4_take_182 : decode cX4_take 182 = .ok (.aload_n 0, 1) := by decide +kernel
theorem dX4_take_183 : decode cX4_take 183 = .ok (.getfield 25, 3) := by decide +kernel
theorem dX4_take_186 : decode cX4_take 186 = .ok (.iconst 0, 1) := by decide +kernel
theorem dX4_take_187 : decode cX4_take 187 = .ok (.iaload, 1) := by decide +kernel
theorem dX4_take_188 : decode cX4_take 188 = .ok (.aload_n 0, 1) := by decide +kernel
theorem dX4_take_189 : decode cX4_take 189 = .ok (.getfield 25, 3) := by decide +kernel
theorem dX4_take_192 : decode cX4_take 192 = .ok (.iconst 1, 1) := by decide +kernel
theorem dX4_take_193 : decode cX4_take 193 = .ok (.iaload, 1) := by decide +kernel
theorem dX4_take_194 : decode cX4_take 194 = .ok (.invokevirtual 71, 3) := by decide +kernel
theorem dX4_take_197 : decode cX4_take 197 = .ok (.ireturn, 1) := by decide +kernel
theorem dX4_take_198 : decode cX4_take 198 = .ok (.iconst 0, 1) := by decide +kernel
theorem dX4_take_199 : decode cX4_take 199 = .ok (.ireturn, 1) := by decide +kernel
