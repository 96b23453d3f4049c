theorem dX5_init_0 : decode cX5_init 0 = .ok (.aload_n 0, 1) := by decide +kernel
theorem dX5_init_1 : decode cX5_init 1 = .ok (.invokespecial 3, 3) := by decide +kernel
theorem dX5_init_4 : decode cX5_init 4 = .ok (.aload_n 0, 1) := by decide +kernel
theorem dX5_init_5 : decode cX5_init 5 = .ok (.bipush 121, 2) := by decide +kernel
theorem dX5_init_7 : decode cX5_init 7 = .ok (.newarray .int, 2) := by decide +kernel
theorem dX5_init_9 : decode cX5_init 9 = .ok (.putfield 9, 3) := by decide +kernel
theorem dX5_init_12 : decode cX5_init 12 = .ok (.aload_n 0, 1) := by decide +kernel
theorem dX5_init_13 : decode cX5_init 13 = .ok (.aload_n 1, 1) := by decide +kernel
theorem dX5_init_14 : decode cX5_init 14 = .ok (.putfield 15, 3) := by decide +kernel
theorem dX5_init_17 : decode cX5_init 17 = .ok (.aload_n 0, 1) := by decide +kernel
theorem dX5_init_18 : decode cX5_init 18 = .ok (.aload_n 2, 1) := by decide +kernel
theorem dX5_init_19 : decode cX5_init 19 = .ok (.putfield 19, 3) := by decide +kernel
theorem dX5_init_22 : decode cX5_init 22 = .ok (.aload_n 0, 1) := by decide +kernel
theorem dX5_init_23 : decode cX5_init 23 = .ok (.new 22, 3) := by decide +kernel
theorem dX5_init_26 : decode cX5_init 26 = .ok (.dup, 1) := by decide +kernel
theorem dX5_init_27 : decode cX5_init 27 = .ok (.aload_n 1, 1) := by decide +kernel
theorem dX5_init_28 : decode cX5_init 28 = .ok (.invokespecial 24, 3) := by decide +kernel
theorem dX5_init_31 : decode cX5_init 31 = .ok (.putfield 27, 3) := by decide +kernel
theorem dX5_init_34 : decode cX5_init 34 = .ok (.aload_n 0, 1) := by decide +kernel
theorem dX5_init_35 : decode cX5_init 35 = .ok (.new 22, 3) := by decide +kernel
theorem dX5_init_38 : decode cX5_init 38 = .ok (.dup, 1) := by decide +kernel
theorem dX5_init_39 : decode cX5_init 39 = .ok (.aload_n 1, 1) := by decide +kernel
theorem dX5_init_40 : decode cX5_init 40 = .ok (.invokespecial 24, 3) := by decide +kernel
theorem dX5_init_43 : decode cX5_init 43 = .ok (.putfield 31, 3) := by decide +kernel
theorem dX5_init_46 : decode cX5_init 46 = .ok (.aload_n 0, 1) := by decide +kernel
theorem dX5_init_47 : decode cX5_init 47 = .ok (.new 22, 3) := by decide +kernel
theorem dX5_init_50 : decode cX5_init 50 = .ok (.dup, 1) := by decide +kernel
theorem dX5_init_51 : decode cX5_init 51 = .ok (.aload_n 1, 1) := by decide +kernel
theorem dX5_init_52 : decode cX5_init 52 = .ok (.invokespecial 24, 3) := by decide +kernel
theorem dX5_init_55 : decode cX5_init 55 = .ok (.putfield 34, 3) := by decide +kernel
theorem dX5_init_58 : decode cX5_init 58 = .ok (.return_, 1) := by decide +kernel
theorem dX5_isOpen_0 : decode cX5_isOpen 0 = .ok (.aload_n 1, 1) := by decide +kernel
theorem dX5_isOpen_1 : decode cX5_isOpen 1 = .ok (.getfield 85, 3) := by decide +kernel
theorem dX5_isOpen_4 : decode cX5_isOpen 4 = .ok (.bipush (-4), 2) := by decide +kernel
theorem dX5_isOpen_6 : decode cX5_isOpen 6 = .ok (.if_icmp .ne 18, 3) := by decide +kernel
theorem dX5_isOpen_9 : decode cX5_isOpen 9 = .ok (.aload_n 1, 1) := by decide +kernel
theorem dX5_isOpen_10 : decode cX5_isOpen 10 = .ok (.aload_n 0, 1) := by decide +kernel
theorem dX5_isOpen_11 : decode cX5_isOpen 11 = .ok (.getfield 41, 3) := by decide +kernel
theorem dX5_isOpen_14 : decode cX5_isOpen 14 = .ok (.invokevirtual 88, 3) := by decide +kernel
theorem dX5_isOpen_17 : decode cX5_isOpen 17 = .ok (.ifCond .ne 7, 3) := by decide +kernel
theorem dX5_isOpen_20 : decode cX5_isOpen 20 = .ok (.iconst 1, 1) := by decide +kernel
theorem dX5_isOpen_21 : decode cX5_isOpen 21 = .ok (.goto 4, 3) := by decide +kernel
theorem dX5_isOpen_24 : decode cX5_isOpen 24 = .ok (.iconst 0, 1) := by decide +kernel
theorem dX5_isOpen_25 : decode cX5_isOpen 25 = .ok (.ireturn, 1) := by decide +kernel
theorem dX5_lookAhead_0 : decode cX5_lookAhead 0 = .ok (.aload_n 0, 1) := by decide +kernel
theorem dX5_lookAhead_1 : decode cX5_lookAhead 1 = .ok (.bipush (-4), 2) := by decide +kernel
theorem dX5_lookAhead_3 : decode cX5_lookAhead 3 = .ok (.putfield 78, 3) := by decide +kernel
theorem dX5_lookAhead_6 : decode cX5_lookAhead 6 = .ok (.aload_n 0, 1) := by decide +kernel
theorem dX5_lookAhead_7 : decode cX5_lookAhead 7 = .ok (.getfield 9, 3) := by decide +kernel
theorem dX5_lookAhead_10 : decode cX5_lookAhead 10 = .ok (.aload_n 0, 1) := by decide +kernel
theorem dX5_lookAhead_11 : decode cX5_lookAhead 11 = .ok (.getfield 15, 3) := by decide +kernel
theorem dX5_lookAhead_14 : decode cX5_lookAhead 14 = .ok (.getfield 59, 3) := by decide +kernel
theorem dX5_lookAhead_17 : decode cX5_lookAhead 17 = .ok (.iconst 0, 1) := by decide +kernel
theorem dX5_lookAhead_18 : decode cX5_lookAhead 18 = .ok (.iastore, 1) := by decide +kernel
theorem dX5_lookAhead_19 : decode cX5_lookAhead 19 = .ok (.aload_n 0, 1) := by decide +kernel
theorem dX5_lookAhead_20 : decode cX5_lookAhead 20 = .ok (.getfield 15, 3) := by decide +kernel
theorem dX5_lookAhead_23 : decode cX5_lookAhead 23 = .ok (.getfield 59, 3) := by decide +kernel
theorem dX5_lookAhead_26 : decode cX5_lookAhead 26 = .ok (.iconst 1, 1) := by decide +kernel
theorem dX5_lookAhead_27 : decode cX5_lookAhead 27 = .ok (.isub, 1) := by decide +kernel
theorem dX5_lookAhead_28 : decode cX5_lookAhead 28 = .ok (.istore_n 1, 1) := by decide +kernel
theorem dX5_lookAhead_29 : decode cX5_lookAhead 29 = .ok (.iload_n 1, 1) := by decide +kernel
theorem dX5_lookAhead_30 : decode cX5_lookAhead 30 = .ok (.ifCond .lt 75, 3) := by decide +kernel
theorem dX5_lookAhead_33 : decode cX5_lookAhead 33 = .ok (.aload_n 0, 1) := by decide +kernel
theorem dX5_lookAhead_34 : decode cX5_lookAhead 34 = .ok (.getfield 41, 3) := by decide +kernel
theorem dX5_lookAhead_37 : decode cX5_lookAhead 37 = .ok (.aload_n 0, 1) := by decide +kernel
theorem dX5_lookAhead_38 : decode cX5_lookAhead 38 = .ok (.getfield 19, 3) := by decide +kernel
theorem dX5_lookAhead_41 : decode cX5_lookAhead 41 = .ok (.iload_n 1, 1) := by decide +kernel
theorem dX5_lookAhead_42 : decode cX5_lookAhead 42 = .ok (.iaload, 1) := by decide +kernel
theorem dX5_lookAhead_43 : decode cX5_lookAhead 43 = .ok (.invokestatic 66, 3) := by decide +kernel
theorem dX5_lookAhead_46 : decode cX5_lookAhead 46 = .ok (.istore_n 2, 1) := by decide +kernel
theorem dX5_lookAhead_47 : decode cX5_lookAhead 47 = .ok (.aload_n 0, 1) := by decide +kernel
theorem dX5_lookAhead_48 : decode cX5_lookAhead 48 = .ok (.getfield 9, 3) := by decide +kernel
theorem dX5_lookAhead_51 : decode cX5_lookAhead 51 = .ok (.iload_n 1, 1) := by decide +kernel
theorem dX5_lookAhead_52 : decode cX5_lookAhead 52 = .ok (.aload_n 0, 1) := by decide +kernel
theorem dX5_lookAhead_53 : decode cX5_lookAhead 53 = .ok (.getfield 9, 3) := by decide +kernel
theorem dX5_lookAhead_56 : decode cX5_lookAhead 56 = .ok (.iload_n 1, 1) := by decide +kernel
theorem dX5_lookAhead_57 : decode cX5_lookAhead 57 = .ok (.iconst 1, 1) := by decide +kernel
theorem dX5_lookAhead_58 : decode cX5_lookAhead 58 = .ok (.iadd, 1) := by decide +kernel
theorem dX5_lookAhead_59 : decode cX5_lookAhead 59 = .ok (.iaload, 1) := by decide +kernel
theorem dX5_lookAhead_60 : decode cX5_lookAhead 60 = .ok (.iload_n 2, 1) := by decide +kernel
theorem dX5_lookAhead_61 : decode cX5_lookAhead 61 = .ok (.ifCond .eq 17, 3) := by decide +kernel
theorem dX5_lookAhead_64 : decode cX5_lookAhead 64 = .ok (.bipush 60, 2) := by decide +kernel
theorem dX5_lookAhead_66 : decode cX5_lookAhead 66 = .ok (.aload_n 0, 1) := by decide +kernel
theorem dX5_lookAhead_67 : decode cX5_lookAhead 67 = .ok (.getfield 15, 3) := by decide +kernel
theorem dX5_lookAhead_70 : decode cX5_lookAhead 70 = .ok (.iload_n 1, 1) := by decide +kernel
theorem dX5_lookAhead_71 : decode cX5_lookAhead 71 = .ok (.invokevirtual 81, 3) := by decide +kernel
theorem dX5_lookAhead_74 : decode cX5_lookAhead 74 = .ok (.imul, 1) := by decide +kernel
theorem dX5_lookAhead_75 : decode cX5_lookAhead 75 = .ok (.goto 4, 3) := by decide +kernel
theorem dX5_lookAhead_78 : decode cX5_lookAhead 78 = .ok (.iconst 0, 1) := by decide +kernel
theorem dX5_lookAhead_79 : decode cX5_lookAhead 79 = .ok (.iadd, 1) := by decide +kernel
theorem dX5_lookAhead_80 : decode cX5_lookAhead 80 = .ok (.iastore, 1) := by decide +kernel
theorem dX5_lookAhead_81 : decode cX5_lookAhead 81 = .ok (.iload_n 2, 1) := by decide +kernel
theorem dX5_lookAhead_82 : decode cX5_lookAhead 82 = .ok (.ifCond .eq 17, 3) := by decide +kernel
theorem dX5_lookAhead_85 : decode cX5_lookAhead 85 = .ok (.aload_n 0, 1) := by decide +kernel
theorem dX5_lookAhead_86 : decode cX5_lookAhead 86 = .ok (.getfield 78, 3) := by decide +kernel
theorem dX5_lookAhead_89 : decode cX5_lookAhead 89 = .ok (.bipush (-4), 2) := by decide +kernel
theorem dX5_lookAhead_91 : decode cX5_lookAhead 91 = .ok (.if_icmp .ne 8, 3) := by decide +kernel
theorem dX5_lookAhead_94 : decode cX5_lookAhead 94 = .ok (.aload_n 0, 1) := by decide +kernel
theorem dX5_lookAhead_95 : decode cX5_lookAhead 95 = .ok (.iload_n 1, 1) := by decide +kernel
theorem dX5_lookAhead_96 : decode cX5_lookAhead 96 = .ok (.putfield 78, 3) := by decide +kernel
theorem dX5_lookAhead_99 : decode cX5_lookAhead 99 = .ok (.iinc 1 (-1), 3) := by decide +kernel
theorem dX5_lookAhead_102 : decode cX5_lookAhead 102 = .ok (.goto (-73), 3) := by decide +kernel
theorem dX5_lookAhead_105 : decode cX5_lookAhead 105 = .ok (.return_, 1) := by decide +kernel
theorem dX5_seek_0 : decode cX5_seek 0 = .ok (.aload_n 0, 1) := by decide +kernel
theorem dX5_seek_1 : decode cX5_seek 1 = .ok (.iload_n 2, 1) := by decide +kernel
theorem dX5_seek_2 : decode cX5_seek 2 = .ok (.putfield 37, 3) := by decide +kernel
theorem dX5_seek_5 : decode cX5_seek 5 = .ok (.aload_n 0, 1) := by decide +kernel
theorem dX5_seek_6 : decode cX5_seek 6 = .ok (.iload_n 1, 1) := by decide +kernel
theorem dX5_seek_7 : decode cX5_seek 7 = .ok (.putfield 41, 3) := by decide +kernel
theorem dX5_seek_10 : decode cX5_seek 10 = .ok (.aload_n 0, 1) := by decide +kernel
theorem dX5_seek_11 : decode cX5_seek 11 = .ok (.iconst 0, 1) := by decide +kernel
theorem dX5_seek_12 : decode cX5_seek 12 = .ok (.putfield 44, 3) := by decide +kernel
theorem dX5_seek_15 : decode cX5_seek 15 = .ok (.aload_n 0, 1) := by decide +kernel
theorem dX5_seek_16 : decode cX5_seek 16 = .ok (.getfield 15, 3) := by decide +kernel
theorem dX5_seek_19 : decode cX5_seek 19 = .ok (.getfield 48, 3) := by decide +kernel
theorem dX5_seek_22 : decode cX5_seek 22 = .ok (.iload_n 1, 1) := by decide +kernel
theorem dX5_seek_23 : decode cX5_seek 23 = .ok (.iaload, 1) := by decide +kernel
theorem dX5_seek_24 : decode cX5_seek 24 = .ok (.iconst 2, 1) := by decide +kernel
theorem dX5_seek_25 : decode cX5_seek 25 = .ok (.if_icmp .ne 5, 3) := by decide +kernel
theorem dX5_seek_28 : decode cX5_seek 28 = .ok (.iconst 0, 1) := by decide +kernel
theorem dX5_seek_29 : decode cX5_seek 29 = .ok (.ireturn, 1) := by decide +kernel
theorem dX5_seek_30 : decode cX5_seek 30 = .ok (.aload_n 0, 1) := by decide +kernel
theorem dX5_seek_31 : decode cX5_seek 31 = .ok (.invokevirtual 53, 3) := by decide +kernel
theorem dX5_seek_34 : decode cX5_seek 34 = .ok (.aload_n 0, 1) := by decide +kernel
theorem dX5_seek_35 : decode cX5_seek 35 = .ok (.getfield 27, 3) := by decide +kernel
theorem dX5_seek_38 : decode cX5_seek 38 = .ok (.aload_n 0, 1) := by decide +kernel
theorem dX5_seek_39 : decode cX5_seek 39 = .ok (.getfield 15, 3) := by decide +kernel
theorem dX5_seek_42 : decode cX5_seek 42 = .ok (.invokevirtual 56, 3) := by decide +kernel
theorem dX5_seek_45 : decode cX5_seek 45 = .ok (.iconst 0, 1) := by decide +kernel
theorem dX5_seek_46 : decode cX5_seek 46 = .ok (.istore_n 3, 1) := by decide +kernel
theorem dX5_seek_47 : decode cX5_seek 47 = .ok (.iload_n 3, 1) := by decide +kernel
theorem dX5_seek_48 : decode cX5_seek 48 = .ok (.aload_n 0, 1) := by decide +kernel
theorem dX5_seek_49 : decode cX5_seek 49 = .ok (.getfield 15, 3) := by decide +kernel
theorem dX5_seek_52 : decode cX5_seek 52 = .ok (.getfield 59, 3) := by decide +kernel
theorem dX5_seek_55 : decode cX5_seek 55 = .ok (.if_icmp .ge 62, 3) := by decide +kernel
theorem dX5_seek_58 : decode cX5_seek 58 = .ok (.aload_n 0, 1) := by decide +kernel
theorem dX5_seek_59 : decode cX5_seek 59 = .ok (.aload_n 0, 1) := by decide +kernel
theorem dX5_seek_60 : decode cX5_seek 60 = .ok (.getfield 27, 3) := by decide +kernel
theorem dX5_seek_63 : decode cX5_seek 63 = .ok (.invokevirtual 62, 3) := by decide +kernel
theorem dX5_seek_66 : decode cX5_seek 66 = .ok (.ifCond .eq 51, 3) := by decide +kernel
theorem dX5_seek_69 : decode cX5_seek 69 = .ok (.iload_n 3, 1) := by decide +kernel
theorem dX5_seek_70 : decode cX5_seek 70 = .ok (.ifCond .eq 21, 3) := by decide +kernel
theorem dX5_seek_73 : decode cX5_seek 73 = .ok (.aload_n 0, 1) := by decide +kernel
theorem dX5_seek_74 : decode cX5_seek 74 = .ok (.getfield 41, 3) := by decide +kernel
theorem dX5_seek_77 : decode cX5_seek 77 = .ok (.aload_n 0, 1) := by decide +kernel
theorem dX5_seek_78 : decode cX5_seek 78 = .ok (.getfield 19, 3) := by decide +kernel
theorem dX5_seek_81 : decode cX5_seek 81 = .ok (.iload_n 3, 1) := by decide +kernel
theorem dX5_seek_82 : decode cX5_seek 82 = .ok (.iconst 1, 1) := by decide +kernel
theorem dX5_seek_83 : decode cX5_seek 83 = .ok (.isub, 1) := by decide +kernel
theorem dX5_seek_84 : decode cX5_seek 84 = .ok (.iaload, 1) := by decide +kernel
theorem dX5_seek_85 : decode cX5_seek 85 = .ok (.invokestatic 66, 3) := by decide +kernel
theorem dX5_seek_88 : decode cX5_seek 88 = .ok (.ifCond .ne 8, 3) := by decide +kernel
theorem dX5_seek_91 : decode cX5_seek 91 = .ok (.aload_n 0, 1) := by decide +kernel
theorem dX5_seek_92 : decode cX5_seek 92 = .ok (.iload_n 3, 1) := by decide +kernel
theorem dX5_seek_93 : decode cX5_seek 93 = .ok (.invokevirtual 70, 3) := by decide +kernel
theorem dX5_seek_96 : decode cX5_seek 96 = .ok (.aload_n 0, 1) := by decide +kernel
theorem dX5_seek_97 : decode cX5_seek 97 = .ok (.getfield 27, 3) := by decide +kernel
theorem dX5_seek_100 : decode cX5_seek 100 = .ok (.iload_n 3, 1) := by decide +kernel
theorem dX5_seek_101 : decode cX5_seek 101 = .ok (.aload_n 0, 1) := by decide +kernel
theorem dX5_seek_102 : decode cX5_seek 102 = .ok (.getfield 19, 3) := by decide +kernel
theorem dX5_seek_105 : decode cX5_seek 105 = .ok (.iload_n 3, 1) := by decide +kernel
theorem dX5_seek_106 : decode cX5_seek 106 = .ok (.iaload, 1) := by decide +kernel
theorem dX5_seek_107 : decode cX5_seek 107 = .ok (.invokevirtual 74, 3) := by decide +kernel
theorem dX5_seek_110 : decode cX5_seek 110 = .ok (.pop, 1) := by decide +kernel
theorem dX5_seek_111 : decode cX5_seek 111 = .ok (.iinc 3 1, 3) := by decide +kernel
theorem dX5_seek_114 : decode cX5_seek 114 = .ok (.goto (-67), 3) := by decide +kernel
theorem dX5_seek_117 : decode cX5_seek 117 = .ok (.aload_n 0, 1) := by decide +kernel
theorem dX5_seek_118 : decode cX5_seek 118 = .ok (.getfield 44, 3) := by decide +kernel
theorem dX5_seek_121 : decode cX5_seek 121 = .ok (.ireturn, 1) := by decide +kernel
theorem dX5_seekFrom_0 : decode cX5_seekFrom 0 = .ok (.aload_n 0, 1) := by decide +kernel
theorem dX5_seekFrom_1 : decode cX5_seekFrom 1 = .ok (.getfield 31, 3) := by decide +kernel
theorem dX5_seekFrom_4 : decode cX5_seekFrom 4 = .ok (.aload_n 0, 1) := by decide +kernel
theorem dX5_seekFrom_5 : decode cX5_seekFrom 5 = .ok (.getfield 27, 3) := by decide +kernel
theorem dX5_seekFrom_8 : decode cX5_seekFrom 8 = .ok (.invokevirtual 92, 3) := by decide +kernel
theorem dX5_seekFrom_11 : decode cX5_seekFrom 11 = .ok (.iload_n 1, 1) := by decide +kernel
theorem dX5_seekFrom_12 : decode cX5_seekFrom 12 = .ok (.istore_n 2, 1) := by decide +kernel
theorem dX5_seekFrom_13 : decode cX5_seekFrom 13 = .ok (.iload_n 2, 1) := by decide +kernel
theorem dX5_seekFrom_14 : decode cX5_seekFrom 14 = .ok (.aload_n 0, 1) := by decide +kernel
theorem dX5_seekFrom_15 : decode cX5_seekFrom 15 = .ok (.getfield 15, 3) := by decide +kernel
theorem dX5_seekFrom_18 : decode cX5_seekFrom 18 = .ok (.getfield 59, 3) := by decide +kernel
theorem dX5_seekFrom_21 : decode cX5_seekFrom 21 = .ok (.if_icmp .ge 64, 3) := by decide +kernel
theorem dX5_seekFrom_24 : decode cX5_seekFrom 24 = .ok (.aload_n 0, 1) := by decide +kernel
theorem dX5_seekFrom_25 : decode cX5_seekFrom 25 = .ok (.aload_n 0, 1) := by decide +kernel
theorem dX5_seekFrom_26 : decode cX5_seekFrom 26 = .ok (.getfield 31, 3) := by decide +kernel
theorem dX5_seekFrom_29 : decode cX5_seekFrom 29 = .ok (.invokevirtual 62, 3) := by decide +kernel
theorem dX5_seekFrom_32 : decode cX5_seekFrom 32 = .ok (.ifCond .eq 53, 3) := by decide +kernel
theorem dX5_seekFrom_35 : decode cX5_seekFrom 35 = .ok (.aload_n 0, 1) := by decide +kernel
theorem dX5_seekFrom_36 : decode cX5_seekFrom 36 = .ok (.getfield 31, 3) := by decide +kernel
theorem dX5_seekFrom_39 : decode cX5_seekFrom 39 = .ok (.iload_n 2, 1) := by decide +kernel
theorem dX5_seekFrom_40 : decode cX5_seekFrom 40 = .ok (.aload_n 0, 1) := by decide +kernel
theorem dX5_seekFrom_41 : decode cX5_seekFrom 41 = .ok (.getfield 19, 3) := by decide +kernel
theorem dX5_seekFrom_44 : decode cX5_seekFrom 44 = .ok (.iload_n 2, 1) := by decide +kernel
theorem dX5_seekFrom_45 : decode cX5_seekFrom 45 = .ok (.iaload, 1) := by decide +kernel
theorem dX5_seekFrom_46 : decode cX5_seekFrom 46 = .ok (.iconst 1, 1) := by decide +kernel
theorem dX5_seekFrom_47 : decode cX5_seekFrom 47 = .ok (.aload_n 0, 1) := by decide +kernel
theorem dX5_seekFrom_48 : decode cX5_seekFrom 48 = .ok (.getfield 41, 3) := by decide +kernel
theorem dX5_seekFrom_51 : decode cX5_seekFrom 51 = .ok (.ishl, 1) := by decide +kernel
theorem dX5_seekFrom_52 : decode cX5_seekFrom 52 = .ok (.ior, 1) := by decide +kernel
theorem dX5_seekFrom_53 : decode cX5_seekFrom 53 = .ok (.invokevirtual 74, 3) := by decide +kernel
theorem dX5_seekFrom_56 : decode cX5_seekFrom 56 = .ok (.pop, 1) := by decide +kernel
theorem dX5_seekFrom_57 : decode cX5_seekFrom 57 = .ok (.aload_n 0, 1) := by decide +kernel
theorem dX5_seekFrom_58 : decode cX5_seekFrom 58 = .ok (.getfield 41, 3) := by decide +kernel
theorem dX5_seekFrom_61 : decode cX5_seekFrom 61 = .ok (.aload_n 0, 1) := by decide +kernel
theorem dX5_seekFrom_62 : decode cX5_seekFrom 62 = .ok (.getfield 19, 3) := by decide +kernel
theorem dX5_seekFrom_65 : decode cX5_seekFrom 65 = .ok (.iload_n 2, 1) := by decide +kernel
theorem dX5_seekFrom_66 : decode cX5_seekFrom 66 = .ok (.iaload, 1) := by decide +kernel
theorem dX5_seekFrom_67 : decode cX5_seekFrom 67 = .ok (.invokestatic 66, 3) := by decide +kernel
theorem dX5_seekFrom_70 : decode cX5_seekFrom 70 = .ok (.ifCond .ne 9, 3) := by decide +kernel
theorem dX5_seekFrom_73 : decode cX5_seekFrom 73 = .ok (.aload_n 0, 1) := by decide +kernel
theorem dX5_seekFrom_74 : decode cX5_seekFrom 74 = .ok (.iload_n 1, 1) := by decide +kernel
theorem dX5_seekFrom_75 : decode cX5_seekFrom 75 = .ok (.iload_n 2, 1) := by decide +kernel
theorem dX5_seekFrom_76 : decode cX5_seekFrom 76 = .ok (.invokevirtual 96, 3) := by decide +kernel
theorem dX5_seekFrom_79 : decode cX5_seekFrom 79 = .ok (.iinc 2 1, 3) := by decide +kernel
theorem dX5_seekFrom_82 : decode cX5_seekFrom 82 = .ok (.goto (-69), 3) := by decide +kernel
theorem dX5_seekFrom_85 : decode cX5_seekFrom 85 = .ok (.return_, 1) := by decide +kernel
theorem dX5_weigh_0 : decode cX5_weigh 0 = .ok (.aload_n 0, 1) := by decide +kernel
theorem dX5_weigh_1 : decode cX5_weigh 1 = .ok (.getfield 31, 3) := by decide +kernel
theorem dX5_weigh_4 : decode cX5_weigh 4 = .ok (.aload_n 0, 1) := by decide +kernel
theorem dX5_weigh_5 : decode cX5_weigh 5 = .ok (.getfield 41, 3) := by decide +kernel
theorem dX5_weigh_8 : decode cX5_weigh 8 = .ok (.invokevirtual 100, 3) := by decide +kernel
theorem dX5_weigh_11 : decode cX5_weigh 11 = .ok (.aload_n 0, 1) := by decide +kernel
theorem dX5_weigh_12 : decode cX5_weigh 12 = .ok (.getfield 9, 3) := by decide +kernel
theorem dX5_weigh_15 : decode cX5_weigh 15 = .ok (.iload_n 2, 1) := by decide +kernel
theorem dX5_weigh_16 : decode cX5_weigh 16 = .ok (.iconst 1, 1) := by decide +kernel
theorem dX5_weigh_17 : decode cX5_weigh 17 = .ok (.iadd, 1) := by decide +kernel
theorem dX5_weigh_18 : decode cX5_weigh 18 = .ok (.iaload, 1) := by decide +kernel
theorem dX5_weigh_19 : decode cX5_weigh 19 = .ok (.iadd, 1) := by decide +kernel
theorem dX5_weigh_20 : decode cX5_weigh 20 = .ok (.aload_n 0, 1) := by decide +kernel
theorem dX5_weigh_21 : decode cX5_weigh 21 = .ok (.getfield 37, 3) := by decide +kernel
theorem dX5_weigh_24 : decode cX5_weigh 24 = .ok (.if_icmp .gt 4, 3) := by decide +kernel
theorem dX5_weigh_27 : decode cX5_weigh 27 = .ok (.return_, 1) := by decide +kernel
theorem dX5_weigh_28 : decode cX5_weigh 28 = .ok (.aload_n 0, 1) := by decide +kernel
theorem dX5_weigh_29 : decode cX5_weigh 29 = .ok (.getfield 34, 3) := by decide +kernel
theorem dX5_weigh_32 : decode cX5_weigh 32 = .ok (.aload_n 0, 1) := by decide +kernel
theorem dX5_weigh_33 : decode cX5_weigh 33 = .ok (.getfield 31, 3) := by decide +kernel
theorem dX5_weigh_36 : decode cX5_weigh 36 = .ok (.invokevirtual 92, 3) := by decide +kernel
theorem dX5_weigh_39 : decode cX5_weigh 39 = .ok (.iload_n 2, 1) := by decide +kernel
theorem dX5_weigh_40 : decode cX5_weigh 40 = .ok (.iconst 1, 1) := by decide +kernel
theorem dX5_weigh_41 : decode cX5_weigh 41 = .ok (.iadd, 1) := by decide +kernel
theorem dX5_weigh_42 : decode cX5_weigh 42 = .ok (.istore_n 3, 1) := by decide +kernel
theorem dX5_weigh_43 : decode cX5_weigh 43 = .ok (.iload_n 3, 1) := by decide +kernel
theorem dX5_weigh_44 : decode cX5_weigh 44 = .ok (.aload_n 0, 1) := by decide +kernel
theorem dX5_weigh_45 : decode cX5_weigh 45 = .ok (.getfield 78, 3) := by decide +kernel
theorem dX5_weigh_48 : decode cX5_weigh 48 = .ok (.if_icmp .gt 35, 3) := by decide +kernel
theorem dX5_weigh_51 : decode cX5_weigh 51 = .ok (.aload_n 0, 1) := by decide +kernel
theorem dX5_weigh_52 : decode cX5_weigh 52 = .ok (.aload_n 0, 1) := by decide +kernel
theorem dX5_weigh_53 : decode cX5_weigh 53 = .ok (.getfield 34, 3) := by decide +kernel
theorem dX5_weigh_56 : decode cX5_weigh 56 = .ok (.invokevirtual 62, 3) := by decide +kernel
theorem dX5_weigh_59 : decode cX5_weigh 59 = .ok (.ifCond .eq 24, 3) := by decide +kernel
theorem dX5_weigh_62 : decode cX5_weigh 62 = .ok (.aload_n 0, 1) := by decide +kernel
theorem dX5_weigh_63 : decode cX5_weigh 63 = .ok (.getfield 34, 3) := by decide +kernel
theorem dX5_weigh_66 : decode cX5_weigh 66 = .ok (.iload_n 3, 1) := by decide +kernel
theorem dX5_weigh_67 : decode cX5_weigh 67 = .ok (.aload_n 0, 1) := by decide +kernel
theorem dX5_weigh_68 : decode cX5_weigh 68 = .ok (.getfield 19, 3) := by decide +kernel
theorem dX5_weigh_71 : decode cX5_weigh 71 = .ok (.iload_n 3, 1) := by decide +kernel
theorem dX5_weigh_72 : decode cX5_weigh 72 = .ok (.iaload, 1) := by decide +kernel
theorem dX5_weigh_73 : decode cX5_weigh 73 = .ok (.invokevirtual 74, 3) := by decide +kernel
theorem dX5_weigh_76 : decode cX5_weigh 76 = .ok (.pop, 1) := by decide +kernel
theorem dX5_weigh_77 : decode cX5_weigh 77 = .ok (.iinc 3 1, 3) := by decide +kernel
theorem dX5_weigh_80 : decode cX5_weigh 80 = .ok (.goto (-37), 3) := by decide +kernel
theorem dX5_weigh_83 : decode cX5_weigh 83 = .ok (.aload_n 0, 1) := by decide +kernel
theorem dX5_weigh_84 : decode cX5_weigh 84 = .ok (.getfield 34, 3) := by decide +kernel
theorem dX5_weigh_87 : decode cX5_weigh 87 = .ok (.aload_n 0, 1) := by decide +kernel
theorem dX5_weigh_88 : decode cX5_weigh 88 = .ok (.getfield 41, 3) := by decide +kernel
theorem dX5_weigh_91 : decode cX5_weigh 91 = .ok (.invokevirtual 100, 3) := by decide +kernel
theorem dX5_weigh_94 : decode cX5_weigh 94 = .ok (.aload_n 0, 1) := by decide +kernel
theorem dX5_weigh_95 : decode cX5_weigh 95 = .ok (.getfield 37, 3) := by decide +kernel
theorem dX5_weigh_98 : decode cX5_weigh 98 = .ok (.if_icmp .le 33, 3) := by decide +kernel
theorem dX5_weigh_101 : decode cX5_weigh 101 = .ok (.aload_n 0, 1) := by decide +kernel
theorem dX5_weigh_102 : decode cX5_weigh 102 = .ok (.aload_n 0, 1) := by decide +kernel
theorem dX5_weigh_103 : decode cX5_weigh 103 = .ok (.getfield 34, 3) := by decide +kernel
theorem dX5_weigh_106 : decode cX5_weigh 106 = .ok (.aload_n 0, 1) := by decide +kernel
theorem dX5_weigh_107 : decode cX5_weigh 107 = .ok (.getfield 41, 3) := by decide +kernel
theorem dX5_weigh_110 : decode cX5_weigh 110 = .ok (.invokevirtual 100, 3) := by decide +kernel
theorem dX5_weigh_113 : decode cX5_weigh 113 = .ok (.putfield 37, 3) := by decide +kernel
theorem dX5_weigh_116 : decode cX5_weigh 116 = .ok (.aload_n 0, 1) := by decide +kernel
theorem dX5_weigh_117 : decode cX5_weigh 117 = .ok (.iload_n 1, 1) := by decide +kernel
theorem dX5_weigh_118 : decode cX5_weigh 118 = .ok (.putfield 102, 3) := by decide +kernel
theorem dX5_weigh_121 : decode cX5_weigh 121 = .ok (.aload_n 0, 1) := by decide +kernel
theorem dX5_weigh_122 : decode cX5_weigh 122 = .ok (.iload_n 2, 1) := by decide +kernel
theorem dX5_weigh_123 : decode cX5_weigh 123 = .ok (.putfield 105, 3) := by decide +kernel
theorem dX5_weigh_126 : decode cX5_weigh 126 = .ok (.aload_n 0, 1) := by decide +kernel
theorem dX5_weigh_127 : decode cX5_weigh 127 = .ok (.iconst 1, 1) := by decide +kernel
theorem dX5_weigh_128 : decode cX5_weigh 128 = .ok (.putfield 44, 3) := by decide +kernel
theorem dX5_weigh_131 : decode cX5_weigh 131 = .ok (.return_, 1) := by decide +kernel
theorem dX6_add_0 : decode cX6_add 0 = .ok (.aload_n 0, 1) := by decide +kernel
theorem dX6_add_1 : decode cX6_add 1 = .ok (.invokevirtual 25, 3) := by decide +kernel
theorem dX6_add_4 : decode cX6_add 4 = .ok (.ifCond .ne 8, 3) := by decide +kernel
theorem dX6_add_7 : decode cX6_add 7 = .ok (.iload_n 2, 1) := by decide +kernel
theorem dX6_add_8 : decode cX6_add 8 = .ok (.iload_n 3, 1) := by decide +kernel
theorem dX6_add_9 : decode cX6_add 9 = .ok (.if_icmp .le 5, 3) := by decide +kernel
theorem dX6_add_12 : decode cX6_add 12 = .ok (.iconst 0, 1) := by decide +kernel
theorem dX6_add_13 : decode cX6_add 13 = .ok (.ireturn, 1) := by decide +kernel
theorem dX6_add_14 : decode cX6_add 14 = .ok (.aload_n 0, 1) := by decide +kernel
theorem dX6_add_15 : decode cX6_add 15 = .ok (.getfield 9, 3) := by decide +kernel
theorem dX6_add_18 : decode cX6_add 18 = .ok (.aload_n 0, 1) := by decide +kernel
theorem dX6_add_19 : decode cX6_add 19 = .ok (.getfield 21, 3) := by decide +kernel
theorem dX6_add_22 : decode cX6_add 22 = .ok (.iload_n 1, 1) := by decide +kernel
theorem dX6_add_23 : decode cX6_add 23 = .ok (.iastore, 1) := by decide +kernel
theorem dX6_add_24 : decode cX6_add 24 = .ok (.aload_n 0, 1) := by decide +kernel
theorem dX6_add_25 : decode cX6_add 25 = .ok (.getfield 15, 3) := by decide +kernel
theorem dX6_add_28 : decode cX6_add 28 = .ok (.aload_n 0, 1) := by decide +kernel
theorem dX6_add_29 : decode cX6_add 29 = .ok (.getfield 21, 3) := by decide +kernel
theorem dX6_add_32 : decode cX6_add 32 = .ok (.iload_n 2, 1) := by decide +kernel
theorem dX6_add_33 : decode cX6_add 33 = .ok (.iastore, 1) := by decide +kernel
theorem dX6_add_34 : decode cX6_add 34 = .ok (.aload_n 0, 1) := by decide +kernel
theorem dX6_add_35 : decode cX6_add 35 = .ok (.getfield 18, 3) := by decide +kernel
theorem dX6_add_38 : decode cX6_add 38 = .ok (.aload_n 0, 1) := by decide +kernel
theorem dX6_add_39 : decode cX6_add 39 = .ok (.getfield 21, 3) := by decide +kernel
theorem dX6_add_42 : decode cX6_add 42 = .ok (.iload_n 3, 1) := by decide +kernel
theorem dX6_add_43 : decode cX6_add 43 = .ok (.iastore, 1) := by decide +kernel
theorem dX6_add_44 : decode cX6_add 44 = .ok (.aload_n 0, 1) := by decide +kernel
theorem dX6_add_45 : decode cX6_add 45 = .ok (.dup, 1) := by decide +kernel
theorem dX6_add_46 : decode cX6_add 46 = .ok (.getfield 21, 3) := by decide +kernel
theorem dX6_add_49 : decode cX6_add 49 = .ok (.iconst 1, 1) := by decide +kernel
theorem dX6_add_50 : decode cX6_add 50 = .ok (.iadd, 1) := by decide +kernel
theorem dX6_add_51 : decode cX6_add 51 = .ok (.putfield 21, 3) := by decide +kernel
theorem dX6_add_54 : decode cX6_add 54 = .ok (.iconst 1, 1) := by decide +kernel
theorem dX6_add_55 : decode cX6_add 55 = .ok (.ireturn, 1) := by decide +kernel
theorem dX6_copy_0 : decode cX6_copy 0 = .ok (.aload_n 0, 1) := by decide +kernel
theorem dX6_copy_1 : decode cX6_copy 1 = .ok (.aload_n 1, 1) := by decide +kernel
theorem dX6_copy_2 : decode cX6_copy 2 = .ok (.getfield 21, 3) := by decide +kernel
theorem dX6_copy_5 : decode cX6_copy 5 = .ok (.putfield 21, 3) := by decide +kernel
theorem dX6_copy_8 : decode cX6_copy 8 = .ok (.aload_n 1, 1) := by decide +kernel
theorem dX6_copy_9 : decode cX6_copy 9 = .ok (.getfield 9, 3) := by decide +kernel
theorem dX6_copy_12 : decode cX6_copy 12 = .ok (.iconst 0, 1) := by decide +kernel
theorem dX6_copy_13 : decode cX6_copy 13 = .ok (.aload_n 0, 1) := by decide +kernel
theorem dX6_copy_14 : decode cX6_copy 14 = .ok (.getfield 9, 3) := by decide +kernel
theorem dX6_copy_17 : decode cX6_copy 17 = .ok (.iconst 0, 1) := by decide +kernel
theorem dX6_copy_18 : decode cX6_copy 18 = .ok (.bipush 9, 2) := by decide +kernel
theorem dX6_copy_20 : decode cX6_copy 20 = .ok (.invokestatic 29, 3) := by decide +kernel
theorem dX6_copy_23 : decode cX6_copy 23 = .ok (.aload_n 1, 1) := by decide +kernel
theorem dX6_copy_24 : decode cX6_copy 24 = .ok (.getfield 15, 3) := by decide +kernel
theorem dX6_copy_27 : decode cX6_copy 27 = .ok (.iconst 0, 1) := by decide +kernel
theorem dX6_copy_28 : decode cX6_copy 28 = .ok (.aload_n 0, 1) := by decide +kernel
theorem dX6_copy_29 : decode cX6_copy 29 = .ok (.getfield 15, 3) := by decide +kernel
theorem dX6_copy_32 : decode cX6_copy 32 = .ok (.iconst 0, 1) := by decide +kernel
theorem dX6_copy_33 : decode cX6_copy 33 = .ok (.bipush 9, 2) := by decide +kernel
theorem dX6_copy_35 : decode cX6_copy 35 = .ok (.invokestatic 29, 3) := by decide +kernel
theorem dX6_copy_38 : decode cX6_copy 38 = .ok (.aload_n 1, 1) := by decide +kernel
theorem dX6_copy_39 : decode cX6_copy 39 = .ok (.getfield 18, 3) := by decide +kernel
theorem dX6_copy_42 : decode cX6_copy 42 = .ok (.iconst 0, 1) := by decide +kernel
theorem dX6_copy_43 : decode cX6_copy 43 = .ok (.aload_n 0, 1) := by decide +kernel
theorem dX6_copy_44 : decode cX6_copy 44 = .ok (.getfield 18, 3) := by decide +kernel
theorem dX6_copy_47 : decode cX6_copy 47 = .ok (.iconst 0, 1) := by decide +kernel
theorem dX6_copy_48 : decode cX6_copy 48 = .ok (.bipush 9, 2) := by decide +kernel
theorem dX6_copy_50 : decode cX6_copy 50 = .ok (.invokestatic 29, 3) := by decide +kernel
theorem dX6_copy_53 : decode cX6_copy 53 = .ok (.return_, 1) := by decide +kernel
theorem dX6_drop_0 : decode cX6_drop 0 = .ok (.iload_n 1, 1) := by decide +kernel
theorem dX6_drop_1 : decode cX6_drop 1 = .ok (.istore_n 2, 1) := by decide +kernel
theorem dX6_drop_2 : decode cX6_drop 2 = .ok (.iload_n 2, 1) := by decide +kernel
theorem dX6_drop_3 : decode cX6_drop 3 = .ok (.iconst 1, 1) := by decide +kernel
theorem dX6_drop_4 : decode cX6_drop 4 = .ok (.iadd, 1) := by decide +kernel
theorem dX6_drop_5 : decode cX6_drop 5 = .ok (.aload_n 0, 1) := by decide +kernel
theorem dX6_drop_6 : decode cX6_drop 6 = .ok (.getfield 21, 3) := by decide +kernel
theorem dX6_drop_9 : decode cX6_drop 9 = .ok (.if_icmp .ge 51, 3) := by decide +kernel
theorem dX6_drop_12 : decode cX6_drop 12 = .ok (.aload_n 0, 1) := by decide +kernel
theorem dX6_drop_13 : decode cX6_drop 13 = .ok (.getfield 9, 3) := by decide +kernel
theorem dX6_drop_16 : decode cX6_drop 16 = .ok (.iload_n 2, 1) := by decide +kernel
theorem dX6_drop_17 : decode cX6_drop 17 = .ok (.aload_n 0, 1) := by decide +kernel
theorem dX6_drop_18 : decode cX6_drop 18 = .ok (.getfield 9, 3) := by decide +kernel
theorem dX6_drop_21 : decode cX6_drop 21 = .ok (.iload_n 2, 1) := by decide +kernel
theorem dX6_drop_22 : decode cX6_drop 22 = .ok (.iconst 1, 1) := by decide +kernel
theorem dX6_drop_23 : decode cX6_drop 23 = .ok (.iadd, 1) := by decide +kernel
theorem dX6_drop_24 : decode cX6_drop 24 = .ok (.iaload, 1) := by decide +kernel
theorem dX6_drop_25 : decode cX6_drop 25 = .ok (.iastore, 1) := by decide +kernel
theorem dX6_drop_26 : decode cX6_drop 26 = .ok (.aload_n 0, 1) := by decide +kernel
theorem dX6_drop_27 : decode cX6_drop 27 = .ok (.getfield 15, 3) := by decide +kernel
theorem dX6_drop_30 : decode cX6_drop 30 = .ok (.iload_n 2, 1) := by decide +kernel
theorem dX6_drop_31 : decode cX6_drop 31 = .ok (.aload_n 0, 1) := by decide +kernel
theorem dX6_drop_32 : decode cX6_drop 32 = .ok (.getfield 15, 3) := by decide +kernel
theorem dX6_drop_35 : decode cX6_drop 35 = .ok (.iload_n 2, 1) := by decide +kernel
theorem dX6_drop_36 : decode cX6_drop 36 = .ok (.iconst 1, 1) := by decide +kernel
theorem dX6_drop_37 : decode cX6_drop 37 = .ok (.iadd, 1) := by decide +kernel
theorem dX6_drop_38 : decode cX6_drop 38 = .ok (.iaload, 1) := by decide +kernel
theorem dX6_drop_39 : decode cX6_drop 39 = .ok (.iastore, 1) := by decide +kernel
theorem dX6_drop_40 : decode cX6_drop 40 = .ok (.aload_n 0, 1) := by decide +kernel
theorem dX6_drop_41 : decode cX6_drop 41 = .ok (.getfield 18, 3) := by decide +kernel
theorem dX6_drop_44 : decode cX6_drop 44 = .ok (.iload_n 2, 1) := by decide +kernel
theorem dX6_drop_45 : decode cX6_drop 45 = .ok (.aload_n 0, 1) := by decide +kernel
theorem dX6_drop_46 : decode cX6_drop 46 = .ok (.getfield 18, 3) := by decide +kernel
theorem dX6_drop_49 : decode cX6_drop 49 = .ok (.iload_n 2, 1) := by decide +kernel
theorem dX6_drop_50 : decode cX6_drop 50 = .ok (.iconst 1, 1) := by decide +kernel
theorem dX6_drop_51 : decode cX6_drop 51 = .ok (.iadd, 1) := by decide +kernel
theorem dX6_drop_52 : decode cX6_drop 52 = .ok (.iaload, 1) := by decide +kernel
theorem dX6_drop_53 : decode cX6_drop 53 = .ok (.iastore, 1) := by decide +kernel
theorem dX6_drop_54 : decode cX6_drop 54 = .ok (.iinc 2 1, 3) := by decide +kernel
theorem dX6_drop_57 : decode cX6_drop 57 = .ok (.goto (-55), 3) := by decide +kernel
theorem dX6_drop_60 : decode cX6_drop 60 = .ok (.aload_n 0, 1) := by decide +kernel
theorem dX6_drop_61 : decode cX6_drop 61 = .ok (.dup, 1) := by decide +kernel
theorem dX6_drop_62 : decode cX6_drop 62 = .ok (.getfield 21, 3) := by decide +kernel
theorem dX6_drop_65 : decode cX6_drop 65 = .ok (.iconst 1, 1) := by decide +kernel
theorem dX6_drop_66 : decode cX6_drop 66 = .ok (.isub, 1) := by decide +kernel
theorem dX6_drop_67 : decode cX6_drop 67 = .ok (.putfield 21, 3) := by decide +kernel
theorem dX6_drop_70 : decode cX6_drop 70 = .ok (.return_, 1) := by decide +kernel
theorem dX6_has_0 : decode cX6_has 0 = .ok (.iload_n 1, 1) := by decide +kernel
theorem dX6_has_1 : decode cX6_has 1 = .ok (.ifCond .lt 15, 3) := by decide +kernel
theorem dX6_has_4 : decode cX6_has 4 = .ok (.iload_n 1, 1) := by decide +kernel
theorem dX6_has_5 : decode cX6_has 5 = .ok (.aload_n 0, 1) := by decide +kernel
theorem dX6_has_6 : decode cX6_has 6 = .ok (.getfield 21, 3) := by decide +kernel
theorem dX6_has_9 : decode cX6_has 9 = .ok (.if_icmp .ge 7, 3) := by decide +kernel
theorem dX6_has_12 : decode cX6_has 12 = .ok (.iconst 1, 1) := by decide +kernel
theorem dX6_has_13 : decode cX6_has 13 = .ok (.goto 4, 3) := by decide +kernel
theorem dX6_has_16 : decode cX6_has 16 = .ok (.iconst 0, 1) := by decide +kernel
theorem dX6_has_17 : decode cX6_has 17 = .ok (.ireturn, 1) := by decide +kernel
theorem dX6_init_0 : decode cX6_init 0 = .ok (.aload_n 0, 1) := by decide +kernel
theorem dX6_init_1 : decode cX6_init 1 = .ok (.invokespecial 3, 3) := by decide +kernel
theorem dX6_init_4 : decode cX6_init 4 = .ok (.aload_n 0, 1) := by decide +kernel
theorem dX6_init_5 : decode cX6_init 5 = .ok (.bipush 9, 2) := by decide +kernel
theorem dX6_init_7 : decode cX6_init 7 = .ok (.newarray .int, 2) := by decide +kernel
theorem dX6_init_9 : decode cX6_init 9 = .ok (.putfield 9, 3) := by decide +kernel
theorem dX6_init_12 : decode cX6_init 12 = .ok (.aload_n 0, 1) := by decide +kernel
theorem dX6_init_13 : decode cX6_init 13 = .ok (.bipush 9, 2) := by decide +kernel
theorem dX6_init_15 : decode cX6_init 15 = .ok (.newarray .int, 2) := by decide +kernel
theorem dX6_init_17 : decode cX6_init 17 = .ok (.putfield 15, 3) := by decide +kernel
theorem dX6_init_20 : decode cX6_init 20 = .ok (.aload_n 0, 1) := by decide +kernel
theorem dX6_init_21 : decode cX6_init 21 = .ok (.bipush 9, 2) := by decide +kernel
theorem dX6_init_23 : decode cX6_init 23 = .ok (.newarray .int, 2) := by decide +kernel
theorem dX6_init_25 : decode cX6_init 25 = .ok (.putfield 18, 3) := by decide +kernel
theorem dX6_init_28 : decode cX6_init 28 = .ok (.return_, 1) := by decide +kernel
theorem dX6_isFull_0 : decode cX6_isFull 0 = .ok (.aload_n 0, 1) := by decide +kernel
theorem dX6_isFull_1 : decode cX6_isFull 1 = .ok (.getfield 21, 3) := by decide +kernel
theorem dX6_isFull_4 : decode cX6_isFull 4 = .ok (.bipush 9, 2) := by decide +kernel
theorem dX6_isFull_6 : decode cX6_isFull 6 = .ok (.if_icmp .lt 7, 3) := by decide +kernel
theorem dX6_isFull_9 : decode cX6_isFull 9 = .ok (.iconst 1, 1) := by decide +kernel
theorem dX6_isFull_10 : decode cX6_isFull 10 = .ok (.goto 4, 3) := by decide +kernel
theorem dX6_isFull_13 : decode cX6_isFull 13 = .ok (.iconst 0, 1) := by decide +kernel
theorem dX6_isFull_14 : decode cX6_isFull 14 = .ok (.ireturn, 1) := by decide +kernel
theorem dX6_tellDuty_0 : decode cX6_tellDuty 0 = .ok (.iconst 0, 1) := by decide +kernel
theorem dX6_tellDuty_1 : decode cX6_tellDuty 1 = .ok (.istore 4, 2) := by decide +kernel
theorem dX6_tellDuty_3 : decode cX6_tellDuty 3 = .ok (.iload 4, 2) := by decide +kernel
theorem dX6_tellDuty_5 : decode cX6_tellDuty 5 = .ok (.iload_n 2, 1) := by decide +kernel
theorem dX6_tellDuty_6 : decode cX6_tellDuty 6 = .ok (.if_icmp .ge 14, 3) := by decide +kernel
theorem dX6_tellDuty_9 : decode cX6_tellDuty 9 = .ok (.aload_n 3, 1) := by decide +kernel
theorem dX6_tellDuty_10 : decode cX6_tellDuty 10 = .ok (.iload 4, 2) := by decide +kernel
theorem dX6_tellDuty_12 : decode cX6_tellDuty 12 = .ok (.iconst 0, 1) := by decide +kernel
theorem dX6_tellDuty_13 : decode cX6_tellDuty 13 = .ok (.iastore, 1) := by decide +kernel
theorem dX6_tellDuty_14 : decode cX6_tellDuty 14 = .ok (.iinc 4 1, 3) := by decide +kernel
theorem dX6_tellDuty_17 : decode cX6_tellDuty 17 = .ok (.goto (-14), 3) := by decide +kernel
theorem dX6_tellDuty_20 : decode cX6_tellDuty 20 = .ok (.iconst 0, 1) := by decide +kernel
theorem dX6_tellDuty_21 : decode cX6_tellDuty 21 = .ok (.istore 4, 2) := by decide +kernel
theorem dX6_tellDuty_23 : decode cX6_tellDuty 23 = .ok (.iload 4, 2) := by decide +kernel
theorem dX6_tellDuty_25 : decode cX6_tellDuty 25 = .ok (.aload_n 0, 1) := by decide +kernel
theorem dX6_tellDuty_26 : decode cX6_tellDuty 26 = .ok (.getfield 21, 3) := by decide +kernel
theorem dX6_tellDuty_29 : decode cX6_tellDuty 29 = .ok (.if_icmp .ge 67, 3) := by decide +kernel
theorem dX6_tellDuty_32 : decode cX6_tellDuty 32 = .ok (.iload 4, 2) := by decide +kernel
theorem dX6_tellDuty_34 : decode cX6_tellDuty 34 = .ok (.iload_n 1, 1) := by decide +kernel
theorem dX6_tellDuty_35 : decode cX6_tellDuty 35 = .ok (.invokestatic 35, 3) := by decide +kernel
theorem dX6_tellDuty_38 : decode cX6_tellDuty 38 = .ok (.ifCond .ne 52, 3) := by decide +kernel
theorem dX6_tellDuty_41 : decode cX6_tellDuty 41 = .ok (.aload_n 0, 1) := by decide +kernel
theorem dX6_tellDuty_42 : decode cX6_tellDuty 42 = .ok (.getfield 15, 3) := by decide +kernel
theorem dX6_tellDuty_45 : decode cX6_tellDuty 45 = .ok (.iload 4, 2) := by decide +kernel
theorem dX6_tellDuty_47 : decode cX6_tellDuty 47 = .ok (.iaload, 1) := by decide +kernel
theorem dX6_tellDuty_48 : decode cX6_tellDuty 48 = .ok (.istore 5, 2) := by decide +kernel
theorem dX6_tellDuty_50 : decode cX6_tellDuty 50 = .ok (.iload 5, 2) := by decide +kernel
theorem dX6_tellDuty_52 : decode cX6_tellDuty 52 = .ok (.aload_n 0, 1) := by decide +kernel
theorem dX6_tellDuty_53 : decode cX6_tellDuty 53 = .ok (.getfield 18, 3) := by decide +kernel
theorem dX6_tellDuty_56 : decode cX6_tellDuty 56 = .ok (.iload 4, 2) := by decide +kernel
theorem dX6_tellDuty_58 : decode cX6_tellDuty 58 = .ok (.iaload, 1) := by decide +kernel
theorem dX6_tellDuty_59 : decode cX6_tellDuty 59 = .ok (.if_icmp .gt 31, 3) := by decide +kernel
theorem dX6_tellDuty_62 : decode cX6_tellDuty 62 = .ok (.iload 5, 2) := by decide +kernel
theorem dX6_tellDuty_64 : decode cX6_tellDuty 64 = .ok (.iload_n 2, 1) := by decide +kernel
theorem dX6_tellDuty_65 : decode cX6_tellDuty 65 = .ok (.if_icmp .ge 25, 3) := by decide +kernel
theorem dX6_tellDuty_68 : decode cX6_tellDuty 68 = .ok (.aload_n 3, 1) := by decide +kernel
theorem dX6_tellDuty_69 : decode cX6_tellDuty 69 = .ok (.iload 5, 2) := by decide +kernel
theorem dX6_tellDuty_71 : decode cX6_tellDuty 71 = .ok (.dup2, 1) := by decide +kernel
theorem dX6_tellDuty_72 : decode cX6_tellDuty 72 = .ok (.iaload, 1) := by decide +kernel
theorem dX6_tellDuty_73 : decode cX6_tellDuty 73 = .ok (.iconst 1, 1) := by decide +kernel
theorem dX6_tellDuty_74 : decode cX6_tellDuty 74 = .ok (.aload_n 0, 1) := by decide +kernel
theorem dX6_tellDuty_75 : decode cX6_tellDuty 75 = .ok (.getfield 9, 3) := by decide +kernel
theorem dX6_tellDuty_78 : decode cX6_tellDuty 78 = .ok (.iload 4, 2) := by decide +kernel
theorem dX6_tellDuty_80 : decode cX6_tellDuty 80 = .ok (.iaload, 1) := by decide +kernel
theorem dX6_tellDuty_81 : decode cX6_tellDuty 81 = .ok (.ishl, 1) := by decide +kernel
theorem dX6_tellDuty_82 : decode cX6_tellDuty 82 = .ok (.ior, 1) := by decide +kernel
theorem dX6_tellDuty_83 : decode cX6_tellDuty 83 = .ok (.iastore, 1) := by decide +kernel
theorem dX6_tellDuty_84 : decode cX6_tellDuty 84 = .ok (.iinc 5 1, 3) := by decide +kernel
theorem dX6_tellDuty_87 : decode cX6_tellDuty 87 = .ok (.goto (-37), 3) := by decide +kernel
theorem dX6_tellDuty_90 : decode cX6_tellDuty 90 = .ok (.iinc 4 1, 3) := by decide +kernel
theorem dX6_tellDuty_93 : decode cX6_tellDuty 93 = .ok (.goto (-70), 3) := by decide +kernel
theorem dX6_tellDuty_96 : decode cX6_tellDuty 96 = .ok (.return_, 1) := by decide +kernel
theorem dX7_acres_0 : decode cX7_acres 0 = .ok (.aload_n 0, 1) := by decide +kernel
theorem dX7_acres_1 : decode cX7_acres 1 = .ok (.getfield 30, 3) := by decide +kernel
theorem dX7_acres_4 : decode cX7_acres 4 = .ok (.getfield 107, 3) := by decide +kernel
theorem dX7_acres_7 : decode cX7_acres 7 = .ok (.iload_n 1, 1) := by decide +kernel
theorem dX7_acres_8 : decode cX7_acres 8 = .ok (.iaload, 1) := by decide +kernel
theorem dX7_acres_9 : decode cX7_acres 9 = .ok (.iconst 2, 1) := by decide +kernel
theorem dX7_acres_10 : decode cX7_acres 10 = .ok (.if_icmp .eq 11, 3) := by decide +kernel
theorem dX7_acres_13 : decode cX7_acres 13 = .ok (.aload_n 0, 1) := by decide +kernel
theorem dX7_acres_14 : decode cX7_acres 14 = .ok (.iload_n 1, 1) := by decide +kernel
theorem dX7_acres_15 : decode cX7_acres 15 = .ok (.invokevirtual 122, 3) := by decide +kernel
theorem dX7_acres_18 : decode cX7_acres 18 = .ok (.ifCond .eq 7, 3) := by decide +kernel
theorem dX7_acres_21 : decode cX7_acres 21 = .ok (.iconst 0, 1) := by decide +kernel
theorem dX7_acres_22 : decode cX7_acres 22 = .ok (.goto 9, 3) := by decide +kernel
theorem dX7_acres_25 : decode cX7_acres 25 = .ok (.aload_n 0, 1) := by decide +kernel
theorem dX7_acres_26 : decode cX7_acres 26 = .ok (.getfield 21, 3) := by decide +kernel
theorem dX7_acres_29 : decode cX7_acres 29 = .ok (.iload_n 1, 1) := by decide +kernel
theorem dX7_acres_30 : decode cX7_acres 30 = .ok (.iaload, 1) := by decide +kernel
theorem dX7_acres_31 : decode cX7_acres 31 = .ok (.ireturn, 1) := by decide +kernel
theorem dX7_begin_0 : decode cX7_begin 0 = .ok (.aload_n 0, 1) := by decide +kernel
theorem dX7_begin_1 : decode cX7_begin 1 = .ok (.aload_n 1, 1) := by decide +kernel
theorem dX7_begin_2 : decode cX7_begin 2 = .ok (.putfield 30, 3) := by decide +kernel
theorem dX7_begin_5 : decode cX7_begin 5 = .ok (.aload_n 0, 1) := by decide +kernel
theorem dX7_begin_6 : decode cX7_begin 6 = .ok (.aload_n 1, 1) := by decide +kernel
theorem dX7_begin_7 : decode cX7_begin 7 = .ok (.getfield 34, 3) := by decide +kernel
theorem dX7_begin_10 : decode cX7_begin 10 = .ok (.putfield 40, 3) := by decide +kernel
theorem dX7_begin_13 : decode cX7_begin 13 = .ok (.aload_n 0, 1) := by decide +kernel
theorem dX7_begin_14 : decode cX7_begin 14 = .ok (.iconst (-1), 1) := by decide +kernel
theorem dX7_begin_15 : decode cX7_begin 15 = .ok (.putfield 41, 3) := by decide +kernel
theorem dX7_begin_18 : decode cX7_begin 18 = .ok (.aload_n 0, 1) := by decide +kernel
theorem dX7_begin_19 : decode cX7_begin 19 = .ok (.bipush (-4), 2) := by decide +kernel
theorem dX7_begin_21 : decode cX7_begin 21 = .ok (.putfield 44, 3) := by decide +kernel
theorem dX7_begin_24 : decode cX7_begin 24 = .ok (.aload_n 0, 1) := by decide +kernel
theorem dX7_begin_25 : decode cX7_begin 25 = .ok (.iconst 0, 1) := by decide +kernel
theorem dX7_begin_26 : decode cX7_begin 26 = .ok (.putfield 47, 3) := by decide +kernel
theorem dX7_begin_29 : decode cX7_begin 29 = .ok (.aload_n 0, 1) := by decide +kernel
theorem dX7_begin_30 : decode cX7_begin 30 = .ok (.aload_n 1, 1) := by decide +kernel
theorem dX7_begin_31 : decode cX7_begin 31 = .ok (.invokevirtual 50, 3) := by decide +kernel
theorem dX7_begin_34 : decode cX7_begin 34 = .ok (.putfield 54, 3) := by decide +kernel
theorem dX7_begin_37 : decode cX7_begin 37 = .ok (.iconst 0, 1) := by decide +kernel
theorem dX7_begin_38 : decode cX7_begin 38 = .ok (.istore_n 2, 1) := by decide +kernel
theorem dX7_begin_39 : decode cX7_begin 39 = .ok (.iload_n 2, 1) := by decide +kernel
theorem dX7_begin_40 : decode cX7_begin 40 = .ok (.bipush 6, 2) := by decide +kernel
theorem dX7_begin_42 : decode cX7_begin 42 = .ok (.if_icmp .ge 43, 3) := by decide +kernel
theorem dX7_begin_45 : decode cX7_begin 45 = .ok (.aload_n 0, 1) := by decide +kernel
theorem dX7_begin_46 : decode cX7_begin 46 = .ok (.getfield 9, 3) := by decide +kernel
theorem dX7_begin_49 : decode cX7_begin 49 = .ok (.iload_n 2, 1) := by decide +kernel
theorem dX7_begin_50 : decode cX7_begin 50 = .ok (.aload_n 1, 1) := by decide +kernel
theorem dX7_begin_51 : decode cX7_begin 51 = .ok (.getfield 56, 3) := by decide +kernel
theorem dX7_begin_54 : decode cX7_begin 54 = .ok (.iload_n 2, 1) := by decide +kernel
theorem dX7_begin_55 : decode cX7_begin 55 = .ok (.iaload, 1) := by decide +kernel
theorem dX7_begin_56 : decode cX7_begin 56 = .ok (.iastore, 1) := by decide +kernel
theorem dX7_begin_57 : decode cX7_begin 57 = .ok (.aload_n 0, 1) := by decide +kernel
theorem dX7_begin_58 : decode cX7_begin 58 = .ok (.getfield 15, 3) := by decide +kernel
theorem dX7_begin_61 : decode cX7_begin 61 = .ok (.iload_n 2, 1) := by decide +kernel
theorem dX7_begin_62 : decode cX7_begin 62 = .ok (.bipush (-4), 2) := by decide +kernel
theorem dX7_begin_64 : decode cX7_begin 64 = .ok (.iastore, 1) := by decide +kernel
theorem dX7_begin_65 : decode cX7_begin 65 = .ok (.aload_n 0, 1) := by decide +kernel
theorem dX7_begin_66 : decode cX7_begin 66 = .ok (.getfield 18, 3) := by decide +kernel
theorem dX7_begin_69 : decode cX7_begin 69 = .ok (.iload_n 2, 1) := by decide +kernel
theorem dX7_begin_70 : decode cX7_begin 70 = .ok (.iconst 0, 1) := by decide +kernel
theorem dX7_begin_71 : decode cX7_begin 71 = .ok (.iastore, 1) := by decide +kernel
theorem dX7_begin_72 : decode cX7_begin 72 = .ok (.aload_n 0, 1) := by decide +kernel
theorem dX7_begin_73 : decode cX7_begin 73 = .ok (.getfield 21, 3) := by decide +kernel
theorem dX7_begin_76 : decode cX7_begin 76 = .ok (.iload_n 2, 1) := by decide +kernel
theorem dX7_begin_77 : decode cX7_begin 77 = .ok (.iconst 0, 1) := by decide +kernel
theorem dX7_begin_78 : decode cX7_begin 78 = .ok (.iastore, 1) := by decide +kernel
theorem dX7_begin_79 : decode cX7_begin 79 = .ok (.iinc 2 1, 3) := by decide +kernel
theorem dX7_begin_82 : decode cX7_begin 82 = .ok (.goto (-43), 3) := by decide +kernel
theorem dX7_begin_85 : decode cX7_begin 85 = .ok (.return_, 1) := by decide +kernel
theorem dX7_bringUp_0 : decode cX7_bringUp 0 = .ok (.iload_n 1, 1) := by decide +kernel
theorem dX7_bringUp_1 : decode cX7_bringUp 1 = .ok (.invokestatic 89, 3) := by decide +kernel
theorem dX7_bringUp_4 : decode cX7_bringUp 4 = .ok (.istore_n 3, 1) := by decide +kernel
theorem dX7_bringUp_5 : decode cX7_bringUp 5 = .ok (.iload_n 3, 1) := by decide +kernel
theorem dX7_bringUp_6 : decode cX7_bringUp 6 = .ok (.ifCond .le 9, 3) := by decide +kernel
theorem dX7_bringUp_9 : decode cX7_bringUp 9 = .ok (.iload_n 2, 1) := by decide +kernel
theorem dX7_bringUp_10 : decode cX7_bringUp 10 = .ok (.iload_n 3, 1) := by decide +kernel
theorem dX7_bringUp_11 : decode cX7_bringUp 11 = .ok (.idiv, 1) := by decide +kernel
theorem dX7_bringUp_12 : decode cX7_bringUp 12 = .ok (.goto 4, 3) := by decide +kernel
theorem dX7_bringUp_15 : decode cX7_bringUp 15 = .ok (.iconst 0, 1) := by decide +kernel
theorem dX7_bringUp_16 : decode cX7_bringUp 16 = .ok (.istore 4, 2) := by decide +kernel
theorem dX7_bringUp_18 : decode cX7_bringUp 18 = .ok (.iconst 0, 1) := by decide +kernel
theorem dX7_bringUp_19 : decode cX7_bringUp 19 = .ok (.istore 5, 2) := by decide +kernel
theorem dX7_bringUp_21 : decode cX7_bringUp 21 = .ok (.iload 5, 2) := by decide +kernel
theorem dX7_bringUp_23 : decode cX7_bringUp 23 = .ok (.aload_n 0, 1) := by decide +kernel
theorem dX7_bringUp_24 : decode cX7_bringUp 24 = .ok (.getfield 30, 3) := by decide +kernel
theorem dX7_bringUp_27 : decode cX7_bringUp 27 = .ok (.getfield 100, 3) := by decide +kernel
theorem dX7_bringUp_30 : decode cX7_bringUp 30 = .ok (.if_icmp .ge 58, 3) := by decide +kernel
theorem dX7_bringUp_33 : decode cX7_bringUp 33 = .ok (.iload 5, 2) := by decide +kernel
theorem dX7_bringUp_35 : decode cX7_bringUp 35 = .ok (.iload_n 1, 1) := by decide +kernel
theorem dX7_bringUp_36 : decode cX7_bringUp 36 = .ok (.invokestatic 103, 3) := by decide +kernel
theorem dX7_bringUp_39 : decode cX7_bringUp 39 = .ok (.ifCond .eq 43, 3) := by decide +kernel
theorem dX7_bringUp_42 : decode cX7_bringUp 42 = .ok (.aload_n 0, 1) := by decide +kernel
theorem dX7_bringUp_43 : decode cX7_bringUp 43 = .ok (.getfield 9, 3) := by decide +kernel
theorem dX7_bringUp_46 : decode cX7_bringUp 46 = .ok (.iload 5, 2) := by decide +kernel
theorem dX7_bringUp_48 : decode cX7_bringUp 48 = .ok (.dup2, 1) := by decide +kernel
theorem dX7_bringUp_49 : decode cX7_bringUp 49 = .ok (.iaload, 1) := by decide +kernel
theorem dX7_bringUp_50 : decode cX7_bringUp 50 = .ok (.aload_n 0, 1) := by decide +kernel
theorem dX7_bringUp_51 : decode cX7_bringUp 51 = .ok (.getfield 27, 3) := by decide +kernel
theorem dX7_bringUp_54 : decode cX7_bringUp 54 = .ok (.iload 5, 2) := by decide +kernel
theorem dX7_bringUp_56 : decode cX7_bringUp 56 = .ok (.iaload, 1) := by decide +kernel
theorem dX7_bringUp_57 : decode cX7_bringUp 57 = .ok (.isub, 1) := by decide +kernel
theorem dX7_bringUp_58 : decode cX7_bringUp 58 = .ok (.iastore, 1) := by decide +kernel
theorem dX7_bringUp_59 : decode cX7_bringUp 59 = .ok (.aload_n 0, 1) := by decide +kernel
theorem dX7_bringUp_60 : decode cX7_bringUp 60 = .ok (.getfield 18, 3) := by decide +kernel
theorem dX7_bringUp_63 : decode cX7_bringUp 63 = .ok (.iload 5, 2) := by decide +kernel
theorem dX7_bringUp_65 : decode cX7_bringUp 65 = .ok (.dup2, 1) := by decide +kernel
theorem dX7_bringUp_66 : decode cX7_bringUp 66 = .ok (.iaload, 1) := by decide +kernel
theorem dX7_bringUp_67 : decode cX7_bringUp 67 = .ok (.iconst 1, 1) := by decide +kernel
theorem dX7_bringUp_68 : decode cX7_bringUp 68 = .ok (.iadd, 1) := by decide +kernel
theorem dX7_bringUp_69 : decode cX7_bringUp 69 = .ok (.iastore, 1) := by decide +kernel
theorem dX7_bringUp_70 : decode cX7_bringUp 70 = .ok (.aload_n 0, 1) := by decide +kernel
theorem dX7_bringUp_71 : decode cX7_bringUp 71 = .ok (.getfield 21, 3) := by decide +kernel
theorem dX7_bringUp_74 : decode cX7_bringUp 74 = .ok (.iload 5, 2) := by decide +kernel
theorem dX7_bringUp_76 : decode cX7_bringUp 76 = .ok (.dup2, 1) := by decide +kernel
theorem dX7_bringUp_77 : decode cX7_bringUp 77 = .ok (.iaload, 1) := by decide +kernel
theorem dX7_bringUp_78 : decode cX7_bringUp 78 = .ok (.iload 4, 2) := by decide +kernel
theorem dX7_bringUp_80 : decode cX7_bringUp 80 = .ok (.iadd, 1) := by decide +kernel
theorem dX7_bringUp_81 : decode cX7_bringUp 81 = .ok (.iastore, 1) := by decide +kernel
theorem dX7_bringUp_82 : decode cX7_bringUp 82 = .ok (.iinc 5 1, 3) := by decide +kernel
theorem dX7_bringUp_85 : decode cX7_bringUp 85 = .ok (.goto (-64), 3) := by decide +kernel
theorem dX7_bringUp_88 : decode cX7_bringUp 88 = .ok (.return_, 1) := by decide +kernel
theorem dX7_drawnAt_0 : decode cX7_drawnAt 0 = .ok (.aload_n 0, 1) := by decide +kernel
theorem dX7_drawnAt_1 : decode cX7_drawnAt 1 = .ok (.getfield 41, 3) := by decide +kernel
theorem dX7_drawnAt_4 : decode cX7_drawnAt 4 = .ok (.iconst (-1), 1) := by decide +kernel
theorem dX7_drawnAt_5 : decode cX7_drawnAt 5 = .ok (.if_icmp .ne 5, 3) := by decide +kernel
theorem dX7_drawnAt_8 : decode cX7_drawnAt 8 = .ok (.iconst 0, 1) := by decide +kernel
theorem dX7_drawnAt_9 : decode cX7_drawnAt 9 = .ok (.ireturn, 1) := by decide +kernel
theorem dX7_drawnAt_10 : decode cX7_drawnAt 10 = .ok (.ldc2_w 114, 3) := by decide +kernel
theorem dX7_drawnAt_13 : decode cX7_drawnAt 13 = .ok (.aload_n 0, 1) := by decide +kernel
theorem dX7_drawnAt_14 : decode cX7_drawnAt 14 = .ok (.getfield 41, 3) := by decide +kernel
theorem dX7_drawnAt_17 : decode cX7_drawnAt 17 = .ok (.i2l, 1) := by decide +kernel
theorem dX7_drawnAt_18 : decode cX7_drawnAt 18 = .ok (.lmul, 1) := by decide +kernel
theorem dX7_drawnAt_19 : decode cX7_drawnAt 19 = .ok (.ldc2_w 116, 3) := by decide +kernel
theorem dX7_drawnAt_22 : decode cX7_drawnAt 22 = .ok (.iload_n 1, 1) := by decide +kernel
theorem dX7_drawnAt_23 : decode cX7_drawnAt 23 = .ok (.i2l, 1) := by decide +kernel
theorem dX7_drawnAt_24 : decode cX7_drawnAt 24 = .ok (.lmul, 1) := by decide +kernel
theorem dX7_drawnAt_25 : decode cX7_drawnAt 25 = .ok (.ladd, 1) := by decide +kernel
theorem dX7_drawnAt_26 : decode cX7_drawnAt 26 = .ok (.lconst 1, 1) := by decide +kernel
theorem dX7_drawnAt_27 : decode cX7_drawnAt 27 = .ok (.ladd, 1) := by decide +kernel
theorem dX7_drawnAt_28 : decode cX7_drawnAt 28 = .ok (.lstore_n 2, 1) := by decide +kernel
theorem dX7_drawnAt_29 : decode cX7_drawnAt 29 = .ok (.lload_n 2, 1) := by decide +kernel
theorem dX7_drawnAt_30 : decode cX7_drawnAt 30 = .ok (.lload_n 2, 1) := by decide +kernel
theorem dX7_drawnAt_31 : decode cX7_drawnAt 31 = .ok (.lmul, 1) := by decide +kernel
theorem dX7_drawnAt_32 : decode cX7_drawnAt 32 = .ok (.ldc2_w 118, 3) := by decide +kernel
theorem dX7_drawnAt_35 : decode cX7_drawnAt 35 = .ok (.lrem, 1) := by decide +kernel
theorem dX7_drawnAt_36 : decode cX7_drawnAt 36 = .ok (.ldc2_w 120, 3) := by decide +kernel
theorem dX7_drawnAt_39 : decode cX7_drawnAt 39 = .ok (.lrem, 1) := by decide +kernel
theorem dX7_drawnAt_40 : decode cX7_drawnAt 40 = .ok (.l2i, 1) := by decide +kernel
theorem dX7_drawnAt_41 : decode cX7_drawnAt 41 = .ok (.ireturn, 1) := by decide +kernel
theorem dX7_first_0 : decode cX7_first 0 = .ok (.iconst 0, 1) := by decide +kernel
theorem dX7_first_1 : decode cX7_first 1 = .ok (.istore_n 2, 1) := by decide +kernel
theorem dX7_first_2 : decode cX7_first 2 = .ok (.iconst 1, 1) := by decide +kernel
theorem dX7_first_3 : decode cX7_first 3 = .ok (.istore_n 3, 1) := by decide +kernel
theorem dX7_first_4 : decode cX7_first 4 = .ok (.iload_n 3, 1) := by decide +kernel
theorem dX7_first_5 : decode cX7_first 5 = .ok (.aload_n 0, 1) := by decide +kernel
theorem dX7_first_6 : decode cX7_first 6 = .ok (.getfield 30, 3) := by decide +kernel
theorem dX7_first_9 : decode cX7_first 9 = .ok (.getfield 100, 3) := by decide +kernel
theorem dX7_first_12 : decode cX7_first 12 = .ok (.if_icmp .ge 26, 3) := by decide +kernel
theorem dX7_first_15 : decode cX7_first 15 = .ok (.aload_n 0, 1) := by decide +kernel
theorem dX7_first_16 : decode cX7_first 16 = .ok (.iload_n 3, 1) := by decide +kernel
theorem dX7_first_17 : decode cX7_first 17 = .ok (.iload_n 1, 1) := by decide +kernel
theorem dX7_first_18 : decode cX7_first 18 = .ok (.invokevirtual 126, 3) := by decide +kernel
theorem dX7_first_21 : decode cX7_first 21 = .ok (.aload_n 0, 1) := by decide +kernel
theorem dX7_first_22 : decode cX7_first 22 = .ok (.iload_n 2, 1) := by decide +kernel
theorem dX7_first_23 : decode cX7_first 23 = .ok (.iload_n 1, 1) := by decide +kernel
theorem dX7_first_24 : decode cX7_first 24 = .ok (.invokevirtual 126, 3) := by decide +kernel
theorem dX7_first_27 : decode cX7_first 27 = .ok (.if_icmp .le 5, 3) := by decide +kernel
theorem dX7_first_30 : decode cX7_first 30 = .ok (.iload_n 3, 1) := by decide +kernel
theorem dX7_first_31 : decode cX7_first 31 = .ok (.istore_n 2, 1) := by decide +kernel
theorem dX7_first_32 : decode cX7_first 32 = .ok (.iinc 3 1, 3) := by decide +kernel
theorem dX7_first_35 : decode cX7_first 35 = .ok (.goto (-31), 3) := by decide +kernel
theorem dX7_first_38 : decode cX7_first 38 = .ok (.iload_n 2, 1) := by decide +kernel
theorem dX7_first_39 : decode cX7_first 39 = .ok (.ireturn, 1) := by decide +kernel
theorem dX7_follow_0 : decode cX7_follow 0 = .ok (.aload_n 0, 1) := by decide +kernel
theorem dX7_follow_1 : decode cX7_follow 1 = .ok (.aload_n 1, 1) := by decide +kernel
theorem dX7_follow_2 : decode cX7_follow 2 = .ok (.getfield 30, 3) := by decide +kernel
theorem dX7_follow_5 : decode cX7_follow 5 = .ok (.putfield 30, 3) := by decide +kernel
theorem dX7_follow_8 : decode cX7_follow 8 = .ok (.aload_n 0, 1) := by decide +kernel
theorem dX7_follow_9 : decode cX7_follow 9 = .ok (.aload_n 1, 1) := by decide +kernel
theorem dX7_follow_10 : decode cX7_follow 10 = .ok (.getfield 40, 3) := by decide +kernel
theorem dX7_follow_13 : decode cX7_follow 13 = .ok (.putfield 40, 3) := by decide +kernel
theorem dX7_follow_16 : decode cX7_follow 16 = .ok (.aload_n 0, 1) := by decide +kernel
theorem dX7_follow_17 : decode cX7_follow 17 = .ok (.aload_n 1, 1) := by decide +kernel
theorem dX7_follow_18 : decode cX7_follow 18 = .ok (.getfield 41, 3) := by decide +kernel
theorem dX7_follow_21 : decode cX7_follow 21 = .ok (.putfield 41, 3) := by decide +kernel
theorem dX7_follow_24 : decode cX7_follow 24 = .ok (.aload_n 0, 1) := by decide +kernel
theorem dX7_follow_25 : decode cX7_follow 25 = .ok (.aload_n 1, 1) := by decide +kernel
theorem dX7_follow_26 : decode cX7_follow 26 = .ok (.getfield 44, 3) := by decide +kernel
theorem dX7_follow_29 : decode cX7_follow 29 = .ok (.putfield 44, 3) := by decide +kernel
theorem dX7_follow_32 : decode cX7_follow 32 = .ok (.aload_n 0, 1) := by decide +kernel
theorem dX7_follow_33 : decode cX7_follow 33 = .ok (.aload_n 1, 1) := by decide +kernel
theorem dX7_follow_34 : decode cX7_follow 34 = .ok (.getfield 47, 3) := by decide +kernel
theorem dX7_follow_37 : decode cX7_follow 37 = .ok (.putfield 47, 3) := by decide +kernel
theorem dX7_follow_40 : decode cX7_follow 40 = .ok (.aload_n 0, 1) := by decide +kernel
theorem dX7_follow_41 : decode cX7_follow 41 = .ok (.aload_n 1, 1) := by decide +kernel
theorem dX7_follow_42 : decode cX7_follow 42 = .ok (.getfield 54, 3) := by decide +kernel
theorem dX7_follow_45 : decode cX7_follow 45 = .ok (.putfield 54, 3) := by decide +kernel
theorem dX7_follow_48 : decode cX7_follow 48 = .ok (.aload_n 1, 1) := by decide +kernel
theorem dX7_follow_49 : decode cX7_follow 49 = .ok (.getfield 9, 3) := by decide +kernel
theorem dX7_follow_52 : decode cX7_follow 52 = .ok (.iconst 0, 1) := by decide +kernel
theorem dX7_follow_53 : decode cX7_follow 53 = .ok (.aload_n 0, 1) := by decide +kernel
theorem dX7_follow_54 : decode cX7_follow 54 = .ok (.getfield 9, 3) := by decide +kernel
theorem dX7_follow_57 : decode cX7_follow 57 = .ok (.iconst 0, 1) := by decide +kernel
theorem dX7_follow_58 : decode cX7_follow 58 = .ok (.bipush 6, 2) := by decide +kernel
theorem dX7_follow_60 : decode cX7_follow 60 = .ok (.invokestatic 59, 3) := by decide +kernel
theorem dX7_follow_63 : decode cX7_follow 63 = .ok (.aload_n 1, 1) := by decide +kernel
theorem dX7_follow_64 : decode cX7_follow 64 = .ok (.getfield 15, 3) := by decide +kernel
theorem dX7_follow_67 : decode cX7_follow 67 = .ok (.iconst 0, 1) := by decide +kernel
theorem dX7_follow_68 : decode cX7_follow 68 = .ok (.aload_n 0, 1) := by decide +kernel
theorem dX7_follow_69 : decode cX7_follow 69 = .ok (.getfield 15, 3) := by decide +kernel
theorem dX7_follow_72 : decode cX7_follow 72 = .ok (.iconst 0, 1) := by decide +kernel
theorem dX7_follow_73 : decode cX7_follow 73 = .ok (.bipush 6, 2) := by decide +kernel
theorem dX7_follow_75 : decode cX7_follow 75 = .ok (.invokestatic 59, 3) := by decide +kernel
theorem dX7_follow_78 : decode cX7_follow 78 = .ok (.aload_n 1, 1) := by decide +kernel
theorem dX7_follow_79 : decode cX7_follow 79 = .ok (.getfield 18, 3) := by decide +kernel
theorem dX7_follow_82 : decode cX7_follow 82 = .ok (.iconst 0, 1) := by decide +kernel
theorem dX7_follow_83 : decode cX7_follow 83 = .ok (.aload_n 0, 1) := by decide +kernel
theorem dX7_follow_84 : decode cX7_follow 84 = .ok (.getfield 18, 3) := by decide +kernel
theorem dX7_follow_87 : decode cX7_follow 87 = .ok (.iconst 0, 1) := by decide +kernel
theorem dX7_follow_88 : decode cX7_follow 88 = .ok (.bipush 6, 2) := by decide +kernel
theorem dX7_follow_90 : decode cX7_follow 90 = .ok (.invokestatic 59, 3) := by decide +kernel
theorem dX7_follow_93 : decode cX7_follow 93 = .ok (.aload_n 1, 1) := by decide +kernel
theorem dX7_follow_94 : decode cX7_follow 94 = .ok (.getfield 21, 3) := by decide +kernel
theorem dX7_follow_97 : decode cX7_follow 97 = .ok (.iconst 0, 1) := by decide +kernel
theorem dX7_follow_98 : decode cX7_follow 98 = .ok (.aload_n 0, 1) := by decide +kernel
theorem dX7_follow_99 : decode cX7_follow 99 = .ok (.getfield 21, 3) := by decide +kernel
theorem dX7_follow_102 : decode cX7_follow 102 = .ok (.iconst 0, 1) := by decide +kernel
theorem dX7_follow_103 : decode cX7_follow 103 = .ok (.bipush 6, 2) := by decide +kernel
theorem dX7_follow_105 : decode cX7_follow 105 = .ok (.invokestatic 59, 3) := by decide +kernel
theorem dX7_follow_108 : decode cX7_follow 108 = .ok (.return_, 1) := by decide +kernel
theorem dX7_go_0 : decode cX7_go 0 = .ok (.iconst 0, 1) := by decide +kernel
theorem dX7_go_1 : decode cX7_go 1 = .ok (.istore_n 2, 1) := by decide +kernel
theorem dX7_go_2 : decode cX7_go 2 = .ok (.iload_n 2, 1) := by decide +kernel
theorem dX7_go_3 : decode cX7_go 3 = .ok (.aload_n 0, 1) := by decide +kernel
theorem dX7_go_4 : decode cX7_go 4 = .ok (.getfield 30, 3) := by decide +kernel
theorem dX7_go_7 : decode cX7_go 7 = .ok (.getfield 65, 3) := by decide +kernel
theorem dX7_go_10 : decode cX7_go 10 = .ok (.if_icmp .ge 23, 3) := by decide +kernel
theorem dX7_go_13 : decode cX7_go 13 = .ok (.aload_n 0, 1) := by decide +kernel
theorem dX7_go_14 : decode cX7_go 14 = .ok (.getfield 24, 3) := by decide +kernel
theorem dX7_go_17 : decode cX7_go 17 = .ok (.iload_n 2, 1) := by decide +kernel
theorem dX7_go_18 : decode cX7_go 18 = .ok (.aload_n 0, 1) := by decide +kernel
theorem dX7_go_19 : decode cX7_go 19 = .ok (.iload_n 2, 1) := by decide +kernel
theorem dX7_go_20 : decode cX7_go 20 = .ok (.aload_n 1, 1) := by decide +kernel
theorem dX7_go_21 : decode cX7_go 21 = .ok (.iload_n 2, 1) := by decide +kernel
theorem dX7_go_22 : decode cX7_go 22 = .ok (.iaload, 1) := by decide +kernel
theorem dX7_go_23 : decode cX7_go 23 = .ok (.invokevirtual 68, 3) := by decide +kernel
theorem dX7_go_26 : decode cX7_go 26 = .ok (.iastore, 1) := by decide +kernel
theorem dX7_go_27 : decode cX7_go 27 = .ok (.iinc 2 1, 3) := by decide +kernel
theorem dX7_go_30 : decode cX7_go 30 = .ok (.goto (-28), 3) := by decide +kernel
theorem dX7_go_33 : decode cX7_go 33 = .ok (.return_, 1) := by decide +kernel
theorem dX7_hasStumbled_0 : decode cX7_hasStumbled 0 = .ok (.iload_n 1, 1) := by decide +kernel
theorem dX7_hasStumbled_1 : decode cX7_hasStumbled 1 = .ok (.aload_n 0, 1) := by decide +kernel
theorem dX7_hasStumbled_2 : decode cX7_hasStumbled 2 = .ok (.getfield 47, 3) := by decide +kernel
theorem dX7_hasStumbled_5 : decode cX7_hasStumbled 5 = .ok (.invokestatic 103, 3) := by decide +kernel
theorem dX7_hasStumbled_8 : decode cX7_hasStumbled 8 = .ok (.ireturn, 1) := by decide +kernel
theorem dX7_init_0 : decode cX7_init 0 = .ok (.aload_n 0, 1) := by decide +kernel
theorem dX7_init_1 : decode cX7_init 1 = .ok (.invokespecial 3, 3) := by decide +kernel
theorem dX7_init_4 : decode cX7_init 4 = .ok (.aload_n 0, 1) := by decide +kernel
theorem dX7_init_5 : decode cX7_init 5 = .ok (.bipush 6, 2) := by decide +kernel
theorem dX7_init_7 : decode cX7_init 7 = .ok (.newarray .int, 2) := by decide +kernel
theorem dX7_init_9 : decode cX7_init 9 = .ok (.putfield 9, 3) := by decide +kernel
theorem dX7_init_12 : decode cX7_init 12 = .ok (.aload_n 0, 1) := by decide +kernel
theorem dX7_init_13 : decode cX7_init 13 = .ok (.bipush 6, 2) := by decide +kernel
theorem dX7_init_15 : decode cX7_init 15 = .ok (.newarray .int, 2) := by decide +kernel
theorem dX7_init_17 : decode cX7_init 17 = .ok (.putfield 15, 3) := by decide +kernel
theorem dX7_init_20 : decode cX7_init 20 = .ok (.aload_n 0, 1) := by decide +kernel
theorem dX7_init_21 : decode cX7_init 21 = .ok (.bipush 6, 2) := by decide +kernel
theorem dX7_init_23 : decode cX7_init 23 = .ok (.newarray .int, 2) := by decide +kernel
theorem dX7_init_25 : decode cX7_init 25 = .ok (.putfield 18, 3) := by decide +kernel
theorem dX7_init_28 : decode cX7_init 28 = .ok (.aload_n 0, 1) := by decide +kernel
theorem dX7_init_29 : decode cX7_init 29 = .ok (.bipush 6, 2) := by decide +kernel
theorem dX7_init_31 : decode cX7_init 31 = .ok (.newarray .int, 2) := by decide +kernel
theorem dX7_init_33 : decode cX7_init 33 = .ok (.putfield 21, 3) := by decide +kernel
theorem dX7_init_36 : decode cX7_init 36 = .ok (.aload_n 0, 1) := by decide +kernel
theorem dX7_init_37 : decode cX7_init 37 = .ok (.bipush 120, 2) := by decide +kernel
theorem dX7_init_39 : decode cX7_init 39 = .ok (.newarray .int, 2) := by decide +kernel
theorem dX7_init_41 : decode cX7_init 41 = .ok (.putfield 24, 3) := by decide +kernel
theorem dX7_init_44 : decode cX7_init 44 = .ok (.aload_n 0, 1) := by decide +kernel
theorem dX7_init_45 : decode cX7_init 45 = .ok (.bipush 6, 2) := by decide +kernel
theorem dX7_init_47 : decode cX7_init 47 = .ok (.newarray .int, 2) := by decide +kernel
theorem dX7_init_49 : decode cX7_init 49 = .ok (.putfield 27, 3) := by decide +kernel
theorem dX7_init_52 : decode cX7_init 52 = .ok (.aload_n 0, 1) := by decide +kernel
theorem dX7_init_53 : decode cX7_init 53 = .ok (.aload_n 1, 1) := by decide +kernel
theorem dX7_init_54 : decode cX7_init 54 = .ok (.putfield 30, 3) := by decide +kernel
theorem dX7_init_57 : decode cX7_init 57 = .ok (.return_, 1) := by decide +kernel
theorem dX7_merit_0 : decode cX7_merit 0 = .ok (.iload_n 2, 1) := by decide +kernel
theorem dX7_merit_1 : decode cX7_merit 1 = .ok (.lookupswitch 40 #[(0, 27), (1, 33)], 27) := by decide +kernel
theorem dX7_merit_28 : decode cX7_merit 28 = .ok (.aload_n 0, 1) := by decide +kernel
theorem dX7_merit_29 : decode cX7_merit 29 = .ok (.iload_n 1, 1) := by decide +kernel
theorem dX7_merit_30 : decode cX7_merit 30 = .ok (.invokevirtual 129, 3) := by decide +kernel
theorem dX7_merit_33 : decode cX7_merit 33 = .ok (.ireturn, 1) := by decide +kernel
theorem dX7_merit_34 : decode cX7_merit 34 = .ok (.aload_n 0, 1) := by decide +kernel
theorem dX7_merit_35 : decode cX7_merit 35 = .ok (.getfield 18, 3) := by decide +kernel
theorem dX7_merit_38 : decode cX7_merit 38 = .ok (.iload_n 1, 1) := by decide +kernel
theorem dX7_merit_39 : decode cX7_merit 39 = .ok (.iaload, 1) := by decide +kernel
theorem dX7_merit_40 : decode cX7_merit 40 = .ok (.ireturn, 1) := by decide +kernel
theorem dX7_merit_41 : decode cX7_merit 41 = .ok (.aload_n 0, 1) := by decide +kernel
theorem dX7_merit_42 : decode cX7_merit 42 = .ok (.getfield 30, 3) := by decide +kernel
theorem dX7_merit_45 : decode cX7_merit 45 = .ok (.getfield 56, 3) := by decide +kernel
theorem dX7_merit_48 : decode cX7_merit 48 = .ok (.iload_n 1, 1) := by decide +kernel
theorem dX7_merit_49 : decode cX7_merit 49 = .ok (.iaload, 1) := by decide +kernel
theorem dX7_merit_50 : decode cX7_merit 50 = .ok (.aload_n 0, 1) := by decide +kernel
theorem dX7_merit_51 : decode cX7_merit 51 = .ok (.getfield 9, 3) := by decide +kernel
theorem dX7_merit_54 : decode cX7_merit 54 = .ok (.iload_n 1, 1) := by decide +kernel
theorem dX7_merit_55 : decode cX7_merit 55 = .ok (.iaload, 1) := by decide +kernel
theorem dX7_merit_56 : decode cX7_merit 56 = .ok (.isub, 1) := by decide +kernel
theorem dX7_merit_57 : decode cX7_merit 57 = .ok (.ireturn, 1) := by decide +kernel
theorem dX7_setCosts_0 : decode cX7_setCosts 0 = .ok (.iload_n 1, 1) := by decide +kernel
theorem dX7_setCosts_1 : decode cX7_setCosts 1 = .ok (.invokestatic 89, 3) := by decide +kernel
theorem dX7_setCosts_4 : decode cX7_setCosts 4 = .ok (.istore_n 3, 1) := by decide +kernel
theorem dX7_setCosts_5 : decode cX7_setCosts 5 = .ok (.iload_n 1, 1) := by decide +kernel
theorem dX7_setCosts_6 : decode cX7_setCosts 6 = .ok (.aload_n 0, 1) := by decide +kernel
theorem dX7_setCosts_7 : decode cX7_setCosts 7 = .ok (.getfield 54, 3) := by decide +kernel
theorem dX7_setCosts_10 : decode cX7_setCosts 10 = .ok (.iand, 1) := by decide +kernel
theorem dX7_setCosts_11 : decode cX7_setCosts 11 = .ok (.invokestatic 89, 3) := by decide +kernel
theorem dX7_setCosts_14 : decode cX7_setCosts 14 = .ok (.istore 4, 2) := by decide +kernel
theorem dX7_setCosts_16 : decode cX7_setCosts 16 = .ok (.iconst 0, 1) := by decide +kernel
theorem dX7_setCosts_17 : decode cX7_setCosts 17 = .ok (.istore 5, 2) := by decide +kernel
theorem dX7_setCosts_19 : decode cX7_setCosts 19 = .ok (.iload 5, 2) := by decide +kernel
theorem dX7_setCosts_21 : decode cX7_setCosts 21 = .ok (.aload_n 0, 1) := by decide +kernel
theorem dX7_setCosts_22 : decode cX7_setCosts 22 = .ok (.getfield 30, 3) := by decide +kernel
theorem dX7_setCosts_25 : decode cX7_setCosts 25 = .ok (.getfield 100, 3) := by decide +kernel
theorem dX7_setCosts_28 : decode cX7_setCosts 28 = .ok (.if_icmp .ge 42, 3) := by decide +kernel
theorem dX7_setCosts_31 : decode cX7_setCosts 31 = .ok (.iload 5, 2) := by decide +kernel
theorem dX7_setCosts_33 : decode cX7_setCosts 33 = .ok (.iload_n 1, 1) := by decide +kernel
theorem dX7_setCosts_34 : decode cX7_setCosts 34 = .ok (.invokestatic 103, 3) := by decide +kernel
theorem dX7_setCosts_37 : decode cX7_setCosts 37 = .ok (.ifCond .eq 27, 3) := by decide +kernel
theorem dX7_setCosts_40 : decode cX7_setCosts 40 = .ok (.aload_n 0, 1) := by decide +kernel
theorem dX7_setCosts_41 : decode cX7_setCosts 41 = .ok (.getfield 27, 3) := by decide +kernel
theorem dX7_setCosts_44 : decode cX7_setCosts 44 = .ok (.iload 5, 2) := by decide +kernel
theorem dX7_setCosts_46 : decode cX7_setCosts 46 = .ok (.iload_n 2, 1) := by decide +kernel
theorem dX7_setCosts_47 : decode cX7_setCosts 47 = .ok (.aload_n 0, 1) := by decide +kernel
theorem dX7_setCosts_48 : decode cX7_setCosts 48 = .ok (.getfield 30, 3) := by decide +kernel
theorem dX7_setCosts_51 : decode cX7_setCosts 51 = .ok (.getfield 107, 3) := by decide +kernel
theorem dX7_setCosts_54 : decode cX7_setCosts 54 = .ok (.iload 5, 2) := by decide +kernel
theorem dX7_setCosts_56 : decode cX7_setCosts 56 = .ok (.iaload, 1) := by decide +kernel
theorem dX7_setCosts_57 : decode cX7_setCosts 57 = .ok (.iload_n 3, 1) := by decide +kernel
theorem dX7_setCosts_58 : decode cX7_setCosts 58 = .ok (.iload 4, 2) := by decide +kernel
theorem dX7_setCosts_60 : decode cX7_setCosts 60 = .ok (.invokestatic 110, 3) := by decide +kernel
theorem dX7_setCosts_63 : decode cX7_setCosts 63 = .ok (.iastore, 1) := by decide +kernel
theorem dX7_setCosts_64 : decode cX7_setCosts 64 = .ok (.iinc 5 1, 3) := by decide +kernel
theorem dX7_setCosts_67 : decode cX7_setCosts 67 = .ok (.goto (-48), 3) := by decide +kernel
theorem dX7_setCosts_70 : decode cX7_setCosts 70 = .ok (.return_, 1) := by decide +kernel
theorem dX7_step_0 : decode cX7_step 0 = .ok (.aload_n 0, 1) := by decide +kernel
theorem dX7_step_1 : decode cX7_step 1 = .ok (.getfield 44, 3) := by decide +kernel
theorem dX7_step_4 : decode cX7_step 4 = .ok (.bipush (-4), 2) := by decide +kernel
theorem dX7_step_6 : decode cX7_step 6 = .ok (.if_icmp .eq 5, 3) := by decide +kernel
theorem dX7_step_9 : decode cX7_step 9 = .ok (.iconst 0, 1) := by decide +kernel
theorem dX7_step_10 : decode cX7_step 10 = .ok (.ireturn, 1) := by decide +kernel
theorem dX7_step_11 : decode cX7_step 11 = .ok (.iload_n 2, 1) := by decide +kernel
theorem dX7_step_12 : decode cX7_step 12 = .ok (.aload_n 0, 1) := by decide +kernel
theorem dX7_step_13 : decode cX7_step 13 = .ok (.getfield 47, 3) := by decide +kernel
theorem dX7_step_16 : decode cX7_step 16 = .ok (.iconst (-1), 1) := by decide +kernel
theorem dX7_step_17 : decode cX7_step 17 = .ok (.ixor, 1) := by decide +kernel
theorem dX7_step_18 : decode cX7_step 18 = .ok (.iand, 1) := by decide +kernel
theorem dX7_step_19 : decode cX7_step 19 = .ok (.istore_n 3, 1) := by decide +kernel
theorem dX7_step_20 : decode cX7_step 20 = .ok (.aload_n 0, 1) := by decide +kernel
theorem dX7_step_21 : decode cX7_step 21 = .ok (.iload_n 3, 1) := by decide +kernel
theorem dX7_step_22 : decode cX7_step 22 = .ok (.iconst 1, 1) := by decide +kernel
theorem dX7_step_23 : decode cX7_step 23 = .ok (.aload_n 0, 1) := by decide +kernel
theorem dX7_step_24 : decode cX7_step 24 = .ok (.getfield 30, 3) := by decide +kernel
theorem dX7_step_27 : decode cX7_step 27 = .ok (.iload_n 1, 1) := by decide +kernel
theorem dX7_step_28 : decode cX7_step 28 = .ok (.invokevirtual 72, 3) := by decide +kernel
theorem dX7_step_31 : decode cX7_step 31 = .ok (.iadd, 1) := by decide +kernel
theorem dX7_step_32 : decode cX7_step 32 = .ok (.aload_n 0, 1) := by decide +kernel
theorem dX7_step_33 : decode cX7_step 33 = .ok (.getfield 30, 3) := by decide +kernel
theorem dX7_step_36 : decode cX7_step 36 = .ok (.getfield 76, 3) := by decide +kernel
theorem dX7_step_39 : decode cX7_step 39 = .ok (.iadd, 1) := by decide +kernel
theorem dX7_step_40 : decode cX7_step 40 = .ok (.aload_n 0, 1) := by decide +kernel
theorem dX7_step_41 : decode cX7_step 41 = .ok (.iload_n 1, 1) := by decide +kernel
theorem dX7_step_42 : decode cX7_step 42 = .ok (.invokevirtual 79, 3) := by decide +kernel
theorem dX7_step_45 : decode cX7_step 45 = .ok (.iadd, 1) := by decide +kernel
theorem dX7_step_46 : decode cX7_step 46 = .ok (.invokevirtual 82, 3) := by decide +kernel
theorem dX7_step_49 : decode cX7_step 49 = .ok (.iload_n 3, 1) := by decide +kernel
theorem dX7_step_50 : decode cX7_step 50 = .ok (.aload_n 0, 1) := by decide +kernel
theorem dX7_step_51 : decode cX7_step 51 = .ok (.iload_n 3, 1) := by decide +kernel
theorem dX7_step_52 : decode cX7_step 52 = .ok (.iload_n 1, 1) := by decide +kernel
theorem dX7_step_53 : decode cX7_step 53 = .ok (.invokevirtual 86, 3) := by decide +kernel
theorem dX7_step_56 : decode cX7_step 56 = .ok (.iconst (-1), 1) := by decide +kernel
theorem dX7_step_57 : decode cX7_step 57 = .ok (.ixor, 1) := by decide +kernel
theorem dX7_step_58 : decode cX7_step 58 = .ok (.iand, 1) := by decide +kernel
theorem dX7_step_59 : decode cX7_step 59 = .ok (.istore 4, 2) := by decide +kernel
theorem dX7_step_61 : decode cX7_step 61 = .ok (.iload 4, 2) := by decide +kernel
theorem dX7_step_63 : decode cX7_step 63 = .ok (.invokestatic 89, 3) := by decide +kernel
theorem dX7_step_66 : decode cX7_step 66 = .ok (.aload_n 0, 1) := by decide +kernel
theorem dX7_step_67 : decode cX7_step 67 = .ok (.getfield 40, 3) := by decide +kernel
theorem dX7_step_70 : decode cX7_step 70 = .ok (.if_icmp .ge 10, 3) := by decide +kernel
theorem dX7_step_73 : decode cX7_step 73 = .ok (.aload_n 0, 1) := by decide +kernel
theorem dX7_step_74 : decode cX7_step 74 = .ok (.iload_n 1, 1) := by decide +kernel
theorem dX7_step_75 : decode cX7_step 75 = .ok (.putfield 44, 3) := by decide +kernel
theorem dX7_step_78 : decode cX7_step 78 = .ok (.iconst 0, 1) := by decide +kernel
theorem dX7_step_79 : decode cX7_step 79 = .ok (.ireturn, 1) := by decide +kernel
theorem dX7_step_80 : decode cX7_step 80 = .ok (.aload_n 0, 1) := by decide +kernel
theorem dX7_step_81 : decode cX7_step 81 = .ok (.iload 4, 2) := by decide +kernel
theorem dX7_step_83 : decode cX7_step 83 = .ok (.bipush 60, 2) := by decide +kernel
theorem dX7_step_85 : decode cX7_step 85 = .ok (.aload_n 0, 1) := by decide +kernel
theorem dX7_step_86 : decode cX7_step 86 = .ok (.getfield 30, 3) := by decide +kernel
theorem dX7_step_89 : decode cX7_step 89 = .ok (.iload_n 1, 1) := by decide +kernel
theorem dX7_step_90 : decode cX7_step 90 = .ok (.invokevirtual 94, 3) := by decide +kernel
theorem dX7_step_93 : decode cX7_step 93 = .ok (.imul, 1) := by decide +kernel
theorem dX7_step_94 : decode cX7_step 94 = .ok (.invokevirtual 97, 3) := by decide +kernel
theorem dX7_step_97 : decode cX7_step 97 = .ok (.iload 4, 2) := by decide +kernel
theorem dX7_step_99 : decode cX7_step 99 = .ok (.ireturn, 1) := by decide +kernel
theorem dX7_stumbling_0 : decode cX7_stumbling 0 = .ok (.iconst 0, 1) := by decide +kernel
theorem dX7_stumbling_1 : decode cX7_stumbling 1 = .ok (.istore_n 3, 1) := by decide +kernel
theorem dX7_stumbling_2 : decode cX7_stumbling 2 = .ok (.iconst 0, 1) := by decide +kernel
theorem dX7_stumbling_3 : decode cX7_stumbling 3 = .ok (.istore 4, 2) := by decide +kernel
theorem dX7_stumbling_5 : decode cX7_stumbling 5 = .ok (.iload 4, 2) := by decide +kernel
theorem dX7_stumbling_7 : decode cX7_stumbling 7 = .ok (.aload_n 0, 1) := by decide +kernel
theorem dX7_stumbling_8 : decode cX7_stumbling 8 = .ok (.getfield 30, 3) := by decide +kernel
theorem dX7_stumbling_11 : decode cX7_stumbling 11 = .ok (.getfield 100, 3) := by decide +kernel
theorem dX7_stumbling_14 : decode cX7_stumbling 14 = .ok (.if_icmp .ge 50, 3) := by decide +kernel
theorem dX7_stumbling_17 : decode cX7_stumbling 17 = .ok (.iload 4, 2) := by decide +kernel
theorem dX7_stumbling_19 : decode cX7_stumbling 19 = .ok (.iload_n 1, 1) := by decide +kernel
theorem dX7_stumbling_20 : decode cX7_stumbling 20 = .ok (.invokestatic 103, 3) := by decide +kernel
theorem dX7_stumbling_23 : decode cX7_stumbling 23 = .ok (.ifCond .eq 35, 3) := by decide +kernel
theorem dX7_stumbling_26 : decode cX7_stumbling 26 = .ok (.aload_n 0, 1) := by decide +kernel
theorem dX7_stumbling_27 : decode cX7_stumbling 27 = .ok (.getfield 9, 3) := by decide +kernel
theorem dX7_stumbling_30 : decode cX7_stumbling 30 = .ok (.iload 4, 2) := by decide +kernel
theorem dX7_stumbling_32 : decode cX7_stumbling 32 = .ok (.iaload, 1) := by decide +kernel
theorem dX7_stumbling_33 : decode cX7_stumbling 33 = .ok (.aload_n 0, 1) := by decide +kernel
theorem dX7_stumbling_34 : decode cX7_stumbling 34 = .ok (.getfield 27, 3) := by decide +kernel
theorem dX7_stumbling_37 : decode cX7_stumbling 37 = .ok (.iload 4, 2) := by decide +kernel
theorem dX7_stumbling_39 : decode cX7_stumbling 39 = .ok (.iaload, 1) := by decide +kernel
theorem dX7_stumbling_40 : decode cX7_stumbling 40 = .ok (.if_icmp .ge 18, 3) := by decide +kernel
theorem dX7_stumbling_43 : decode cX7_stumbling 43 = .ok (.iload_n 3, 1) := by decide +kernel
theorem dX7_stumbling_44 : decode cX7_stumbling 44 = .ok (.iconst 1, 1) := by decide +kernel
theorem dX7_stumbling_45 : decode cX7_stumbling 45 = .ok (.iload 4, 2) := by decide +kernel
theorem dX7_stumbling_47 : decode cX7_stumbling 47 = .ok (.ishl, 1) := by decide +kernel
theorem dX7_stumbling_48 : decode cX7_stumbling 48 = .ok (.ior, 1) := by decide +kernel
theorem dX7_stumbling_49 : decode cX7_stumbling 49 = .ok (.istore_n 3, 1) := by decide +kernel
theorem dX7_stumbling_50 : decode cX7_stumbling 50 = .ok (.aload_n 0, 1) := by decide +kernel
theorem dX7_stumbling_51 : decode cX7_stumbling 51 = .ok (.getfield 15, 3) := by decide +kernel
theorem dX7_stumbling_54 : decode cX7_stumbling 54 = .ok (.iload 4, 2) := by decide +kernel
theorem dX7_stumbling_56 : decode cX7_stumbling 56 = .ok (.iload_n 2, 1) := by decide +kernel
theorem dX7_stumbling_57 : decode cX7_stumbling 57 = .ok (.iastore, 1) := by decide +kernel
theorem dX7_stumbling_58 : decode cX7_stumbling 58 = .ok (.iinc 4 1, 3) := by decide +kernel
theorem dX7_stumbling_61 : decode cX7_stumbling 61 = .ok (.goto (-56), 3) := by decide +kernel
theorem dX7_stumbling_64 : decode cX7_stumbling 64 = .ok (.aload_n 0, 1) := by decide +kernel
theorem dX7_stumbling_65 : decode cX7_stumbling 65 = .ok (.dup, 1) := by decide +kernel
theorem dX7_stumbling_66 : decode cX7_stumbling 66 = .ok (.getfield 47, 3) := by decide +kernel
theorem dX7_stumbling_69 : decode cX7_stumbling 69 = .ok (.iload_n 3, 1) := by decide +kernel
theorem dX7_stumbling_70 : decode cX7_stumbling 70 = .ok (.ior, 1) := by decide +kernel
theorem dX7_stumbling_71 : decode cX7_stumbling 71 = .ok (.putfield 47, 3) := by decide +kernel
theorem dX7_stumbling_74 : decode cX7_stumbling 74 = .ok (.iload_n 3, 1) := by decide +kernel
theorem dX7_stumbling_75 : decode cX7_stumbling 75 = .ok (.ireturn, 1) := by decide +kernel
