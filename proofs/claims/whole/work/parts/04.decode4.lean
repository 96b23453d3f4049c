theorem dX8_safe_0 : decode cX8_safe 0 = .ok (.iconst 0, 1) := by decide +kernel
theorem dX8_safe_1 : decode cX8_safe 1 = .ok (.istore_n 1, 1) := by decide +kernel
theorem dX8_safe_2 : decode cX8_safe 2 = .ok (.iload_n 1, 1) := by decide +kernel
theorem dX8_safe_3 : decode cX8_safe 3 = .ok (.aload_n 0, 1) := by decide +kernel
theorem dX8_safe_4 : decode cX8_safe 4 = .ok (.getfield 23, 3) := by decide +kernel
theorem dX8_safe_7 : decode cX8_safe 7 = .ok (.getfield 170, 3) := by decide +kernel
theorem dX8_safe_10 : decode cX8_safe 10 = .ok (.if_icmp .ge 28, 3) := by decide +kernel
theorem dX8_safe_13 : decode cX8_safe 13 = .ok (.aload_n 0, 1) := by decide +kernel
theorem dX8_safe_14 : decode cX8_safe 14 = .ok (.iload_n 1, 1) := by decide +kernel
theorem dX8_safe_15 : decode cX8_safe 15 = .ok (.invokevirtual 224, 3) := by decide +kernel
theorem dX8_safe_18 : decode cX8_safe 18 = .ok (.aload_n 0, 1) := by decide +kernel
theorem dX8_safe_19 : decode cX8_safe 19 = .ok (.getfield 71, 3) := by decide +kernel
theorem dX8_safe_22 : decode cX8_safe 22 = .ok (.getfield 167, 3) := by decide +kernel
theorem dX8_safe_25 : decode cX8_safe 25 = .ok (.bipush (-4), 2) := by decide +kernel
theorem dX8_safe_27 : decode cX8_safe 27 = .ok (.if_icmp .eq 5, 3) := by decide +kernel
theorem dX8_safe_30 : decode cX8_safe 30 = .ok (.iload_n 1, 1) := by decide +kernel
theorem dX8_safe_31 : decode cX8_safe 31 = .ok (.ireturn, 1) := by decide +kernel
theorem dX8_safe_32 : decode cX8_safe 32 = .ok (.iinc 1 1, 3) := by decide +kernel
theorem dX8_safe_35 : decode cX8_safe 35 = .ok (.goto (-33), 3) := by decide +kernel
theorem dX8_safe_38 : decode cX8_safe 38 = .ok (.bipush (-4), 2) := by decide +kernel
theorem dX8_safe_40 : decode cX8_safe 40 = .ok (.ireturn, 1) := by decide +kernel
theorem dX8_settle_0 : decode cX8_settle 0 = .ok (.aload_n 0, 1) := by decide +kernel
theorem dX8_settle_1 : decode cX8_settle 1 = .ok (.getfield 33, 3) := by decide +kernel
theorem dX8_settle_4 : decode cX8_settle 4 = .ok (.iconst 0, 1) := by decide +kernel
theorem dX8_settle_5 : decode cX8_settle 5 = .ok (.aload_n 0, 1) := by decide +kernel
theorem dX8_settle_6 : decode cX8_settle 6 = .ok (.getfield 23, 3) := by decide +kernel
theorem dX8_settle_9 : decode cX8_settle 9 = .ok (.getfield 292, 3) := by decide +kernel
theorem dX8_settle_12 : decode cX8_settle 12 = .ok (.aload_n 0, 1) := by decide +kernel
theorem dX8_settle_13 : decode cX8_settle 13 = .ok (.getfield 56, 3) := by decide +kernel
theorem dX8_settle_16 : decode cX8_settle 16 = .ok (.invokevirtual 305, 3) := by decide +kernel
theorem dX8_settle_19 : decode cX8_settle 19 = .ok (.aload_n 0, 1) := by decide +kernel
theorem dX8_settle_20 : decode cX8_settle 20 = .ok (.getfield 67, 3) := by decide +kernel
theorem dX8_settle_23 : decode cX8_settle 23 = .ok (.aload_n 0, 1) := by decide +kernel
theorem dX8_settle_24 : decode cX8_settle 24 = .ok (.getfield 23, 3) := by decide +kernel
theorem dX8_settle_27 : decode cX8_settle 27 = .ok (.invokevirtual 253, 3) := by decide +kernel
theorem dX8_settle_30 : decode cX8_settle 30 = .ok (.aload_n 0, 1) := by decide +kernel
theorem dX8_settle_31 : decode cX8_settle 31 = .ok (.getfield 67, 3) := by decide +kernel
theorem dX8_settle_34 : decode cX8_settle 34 = .ok (.aload_n 0, 1) := by decide +kernel
theorem dX8_settle_35 : decode cX8_settle 35 = .ok (.getfield 56, 3) := by decide +kernel
theorem dX8_settle_38 : decode cX8_settle 38 = .ok (.invokevirtual 256, 3) := by decide +kernel
theorem dX8_settle_41 : decode cX8_settle 41 = .ok (.return_, 1) := by decide +kernel
theorem dX8_share_0 : decode cX8_share 0 = .ok (.aload_n 0, 1) := by decide +kernel
theorem dX8_share_1 : decode cX8_share 1 = .ok (.getfield 23, 3) := by decide +kernel
theorem dX8_share_4 : decode cX8_share 4 = .ok (.iload_n 1, 1) := by decide +kernel
theorem dX8_share_5 : decode cX8_share 5 = .ok (.invokevirtual 146, 3) := by decide +kernel
theorem dX8_share_8 : decode cX8_share 8 = .ok (.ifCond .eq 12, 3) := by decide +kernel
theorem dX8_share_11 : decode cX8_share 11 = .ok (.iload_n 2, 1) := by decide +kernel
theorem dX8_share_12 : decode cX8_share 12 = .ok (.iconst 0, 1) := by decide +kernel
theorem dX8_share_13 : decode cX8_share 13 = .ok (.iconst 1, 1) := by decide +kernel
theorem dX8_share_14 : decode cX8_share 14 = .ok (.invokestatic 121, 3) := by decide +kernel
theorem dX8_share_17 : decode cX8_share 17 = .ok (.ifCond .ne 5, 3) := by decide +kernel
theorem dX8_share_20 : decode cX8_share 20 = .ok (.iconst (-1), 1) := by decide +kernel
theorem dX8_share_21 : decode cX8_share 21 = .ok (.ireturn, 1) := by decide +kernel
theorem dX8_share_22 : decode cX8_share 22 = .ok (.iconst 0, 1) := by decide +kernel
theorem dX8_share_23 : decode cX8_share 23 = .ok (.istore_n 3, 1) := by decide +kernel
theorem dX8_share_24 : decode cX8_share 24 = .ok (.iconst 0, 1) := by decide +kernel
theorem dX8_share_25 : decode cX8_share 25 = .ok (.istore 4, 2) := by decide +kernel
theorem dX8_share_27 : decode cX8_share 27 = .ok (.iload 4, 2) := by decide +kernel
theorem dX8_share_29 : decode cX8_share 29 = .ok (.aload_n 0, 1) := by decide +kernel
theorem dX8_share_30 : decode cX8_share 30 = .ok (.getfield 23, 3) := by decide +kernel
theorem dX8_share_33 : decode cX8_share 33 = .ok (.getfield 170, 3) := by decide +kernel
theorem dX8_share_36 : decode cX8_share 36 = .ok (.if_icmp .ge 21, 3) := by decide +kernel
theorem dX8_share_39 : decode cX8_share 39 = .ok (.iload_n 3, 1) := by decide +kernel
theorem dX8_share_40 : decode cX8_share 40 = .ok (.aload_n 0, 1) := by decide +kernel
theorem dX8_share_41 : decode cX8_share 41 = .ok (.getfield 67, 3) := by decide +kernel
theorem dX8_share_44 : decode cX8_share 44 = .ok (.iload 4, 2) := by decide +kernel
theorem dX8_share_46 : decode cX8_share 46 = .ok (.invokevirtual 158, 3) := by decide +kernel
theorem dX8_share_49 : decode cX8_share 49 = .ok (.iadd, 1) := by decide +kernel
theorem dX8_share_50 : decode cX8_share 50 = .ok (.istore_n 3, 1) := by decide +kernel
theorem dX8_share_51 : decode cX8_share 51 = .ok (.iinc 4 1, 3) := by decide +kernel
theorem dX8_share_54 : decode cX8_share 54 = .ok (.goto (-27), 3) := by decide +kernel
theorem dX8_share_57 : decode cX8_share 57 = .ok (.aload_n 0, 1) := by decide +kernel
theorem dX8_share_58 : decode cX8_share 58 = .ok (.getfield 67, 3) := by decide +kernel
theorem dX8_share_61 : decode cX8_share 61 = .ok (.iload_n 1, 1) := by decide +kernel
theorem dX8_share_62 : decode cX8_share 62 = .ok (.invokevirtual 158, 3) := by decide +kernel
theorem dX8_share_65 : decode cX8_share 65 = .ok (.iload_n 3, 1) := by decide +kernel
theorem dX8_share_66 : decode cX8_share 66 = .ok (.iload_n 2, 1) := by decide +kernel
theorem dX8_share_67 : decode cX8_share 67 = .ok (.invokestatic 173, 3) := by decide +kernel
theorem dX8_share_70 : decode cX8_share 70 = .ok (.ireturn, 1) := by decide +kernel
theorem dX8_son_0 : decode cX8_son 0 = .ok (.aload_n 0, 1) := by decide +kernel
theorem dX8_son_1 : decode cX8_son 1 = .ok (.getfield 23, 3) := by decide +kernel
theorem dX8_son_4 : decode cX8_son 4 = .ok (.iload_n 1, 1) := by decide +kernel
theorem dX8_son_5 : decode cX8_son 5 = .ok (.invokevirtual 146, 3) := by decide +kernel
theorem dX8_son_8 : decode cX8_son 8 = .ok (.ifCond .eq 13, 3) := by decide +kernel
theorem dX8_son_11 : decode cX8_son 11 = .ok (.iload_n 2, 1) := by decide +kernel
theorem dX8_son_12 : decode cX8_son 12 = .ok (.iconst 0, 1) := by decide +kernel
theorem dX8_son_13 : decode cX8_son 13 = .ok (.bipush 99, 2) := by decide +kernel
theorem dX8_son_15 : decode cX8_son 15 = .ok (.invokestatic 121, 3) := by decide +kernel
theorem dX8_son_18 : decode cX8_son 18 = .ok (.ifCond .ne 5, 3) := by decide +kernel
theorem dX8_son_21 : decode cX8_son 21 = .ok (.iconst (-1), 1) := by decide +kernel
theorem dX8_son_22 : decode cX8_son 22 = .ok (.ireturn, 1) := by decide +kernel
theorem dX8_son_23 : decode cX8_son 23 = .ok (.aload_n 0, 1) := by decide +kernel
theorem dX8_son_24 : decode cX8_son 24 = .ok (.getfield 86, 3) := by decide +kernel
theorem dX8_son_27 : decode cX8_son 27 = .ok (.iconst (-1), 1) := by decide +kernel
theorem dX8_son_28 : decode cX8_son 28 = .ok (.iconst 0, 1) := by decide +kernel
theorem dX8_son_29 : decode cX8_son 29 = .ok (.invokevirtual 235, 3) := by decide +kernel
theorem dX8_son_32 : decode cX8_son 32 = .ok (.aload_n 0, 1) := by decide +kernel
theorem dX8_son_33 : decode cX8_son 33 = .ok (.getfield 86, 3) := by decide +kernel
theorem dX8_son_36 : decode cX8_son 36 = .ok (.getfield 238, 3) := by decide +kernel
theorem dX8_son_39 : decode cX8_son 39 = .ok (.istore_n 3, 1) := by decide +kernel
theorem dX8_son_40 : decode cX8_son 40 = .ok (.aload_n 0, 1) := by decide +kernel
theorem dX8_son_41 : decode cX8_son 41 = .ok (.getfield 86, 3) := by decide +kernel
theorem dX8_son_44 : decode cX8_son 44 = .ok (.iload_n 1, 1) := by decide +kernel
theorem dX8_son_45 : decode cX8_son 45 = .ok (.iload_n 2, 1) := by decide +kernel
theorem dX8_son_46 : decode cX8_son 46 = .ok (.invokevirtual 235, 3) := by decide +kernel
theorem dX8_son_49 : decode cX8_son 49 = .ok (.aload_n 0, 1) := by decide +kernel
theorem dX8_son_50 : decode cX8_son 50 = .ok (.getfield 86, 3) := by decide +kernel
theorem dX8_son_53 : decode cX8_son 53 = .ok (.getfield 238, 3) := by decide +kernel
theorem dX8_son_56 : decode cX8_son 56 = .ok (.iload_n 3, 1) := by decide +kernel
theorem dX8_son_57 : decode cX8_son 57 = .ok (.isub, 1) := by decide +kernel
theorem dX8_son_58 : decode cX8_son 58 = .ok (.ireturn, 1) := by decide +kernel
theorem dX8_stands_0 : decode cX8_stands 0 = .ok (.aload_n 0, 1) := by decide +kernel
theorem dX8_stands_1 : decode cX8_stands 1 = .ok (.getfield 67, 3) := by decide +kernel
theorem dX8_stands_4 : decode cX8_stands 4 = .ok (.getfield 167, 3) := by decide +kernel
theorem dX8_stands_7 : decode cX8_stands 7 = .ok (.ireturn, 1) := by decide +kernel
theorem dX8_toll_0 : decode cX8_toll 0 = .ok (.iload_n 0, 1) := by decide +kernel
theorem dX8_toll_1 : decode cX8_toll 1 = .ok (.istore 4, 2) := by decide +kernel
theorem dX8_toll_3 : decode cX8_toll 3 = .ok (.iload_n 1, 1) := by decide +kernel
theorem dX8_toll_4 : decode cX8_toll 4 = .ok (.iconst 1, 1) := by decide +kernel
theorem dX8_toll_5 : decode cX8_toll 5 = .ok (.if_icmp .ne 11, 3) := by decide +kernel
theorem dX8_toll_8 : decode cX8_toll 8 = .ok (.iconst 2, 1) := by decide +kernel
theorem dX8_toll_9 : decode cX8_toll 9 = .ok (.iload_n 0, 1) := by decide +kernel
theorem dX8_toll_10 : decode cX8_toll 10 = .ok (.imul, 1) := by decide +kernel
theorem dX8_toll_11 : decode cX8_toll 11 = .ok (.istore 4, 2) := by decide +kernel
theorem dX8_toll_13 : decode cX8_toll 13 = .ok (.goto 18, 3) := by decide +kernel
theorem dX8_toll_16 : decode cX8_toll 16 = .ok (.iload_n 1, 1) := by decide +kernel
theorem dX8_toll_17 : decode cX8_toll 17 = .ok (.iconst 3, 1) := by decide +kernel
theorem dX8_toll_18 : decode cX8_toll 18 = .ok (.if_icmp .ne 13, 3) := by decide +kernel
theorem dX8_toll_21 : decode cX8_toll 21 = .ok (.iload_n 3, 1) := by decide +kernel
theorem dX8_toll_22 : decode cX8_toll 22 = .ok (.iconst 1, 1) := by decide +kernel
theorem dX8_toll_23 : decode cX8_toll 23 = .ok (.if_icmp .le 8, 3) := by decide +kernel
theorem dX8_toll_26 : decode cX8_toll 26 = .ok (.iload_n 0, 1) := by decide +kernel
theorem dX8_toll_27 : decode cX8_toll 27 = .ok (.iconst 1, 1) := by decide +kernel
theorem dX8_toll_28 : decode cX8_toll 28 = .ok (.isub, 1) := by decide +kernel
theorem dX8_toll_29 : decode cX8_toll 29 = .ok (.istore 4, 2) := by decide +kernel
theorem dX8_toll_31 : decode cX8_toll 31 = .ok (.iload_n 2, 1) := by decide +kernel
theorem dX8_toll_32 : decode cX8_toll 32 = .ok (.iconst 1, 1) := by decide +kernel
theorem dX8_toll_33 : decode cX8_toll 33 = .ok (.if_icmp .le 10, 3) := by decide +kernel
theorem dX8_toll_36 : decode cX8_toll 36 = .ok (.iload 4, 2) := by decide +kernel
theorem dX8_toll_38 : decode cX8_toll 38 = .ok (.iload_n 2, 1) := by decide +kernel
theorem dX8_toll_39 : decode cX8_toll 39 = .ok (.idiv, 1) := by decide +kernel
theorem dX8_toll_40 : decode cX8_toll 40 = .ok (.goto 5, 3) := by decide +kernel
theorem dX8_toll_43 : decode cX8_toll 43 = .ok (.iload 4, 2) := by decide +kernel
theorem dX8_toll_45 : decode cX8_toll 45 = .ok (.istore 5, 2) := by decide +kernel
theorem dX8_toll_47 : decode cX8_toll 47 = .ok (.iload 5, 2) := by decide +kernel
theorem dX8_toll_49 : decode cX8_toll 49 = .ok (.iconst 1, 1) := by decide +kernel
theorem dX8_toll_50 : decode cX8_toll 50 = .ok (.if_icmp .ge 7, 3) := by decide +kernel
theorem dX8_toll_53 : decode cX8_toll 53 = .ok (.iconst 1, 1) := by decide +kernel
theorem dX8_toll_54 : decode cX8_toll 54 = .ok (.goto 5, 3) := by decide +kernel
theorem dX8_toll_57 : decode cX8_toll 57 = .ok (.iload 5, 2) := by decide +kernel
theorem dX8_toll_59 : decode cX8_toll 59 = .ok (.ireturn, 1) := by decide +kernel
theorem dX8_turn_0 : decode cX8_turn 0 = .ok (.aload_n 0, 1) := by decide +kernel
theorem dX8_turn_1 : decode cX8_turn 1 = .ok (.getfield 33, 3) := by decide +kernel
theorem dX8_turn_4 : decode cX8_turn 4 = .ok (.iload_n 1, 1) := by decide +kernel
theorem dX8_turn_5 : decode cX8_turn 5 = .ok (.invokevirtual 177, 3) := by decide +kernel
theorem dX8_turn_8 : decode cX8_turn 8 = .ok (.ifCond .ne 5, 3) := by decide +kernel
theorem dX8_turn_11 : decode cX8_turn 11 = .ok (.iconst (-1), 1) := by decide +kernel
theorem dX8_turn_12 : decode cX8_turn 12 = .ok (.ireturn, 1) := by decide +kernel
theorem dX8_turn_13 : decode cX8_turn 13 = .ok (.iload_n 2, 1) := by decide +kernel
theorem dX8_turn_14 : decode cX8_turn 14 = .ok (.tableswitch 56 0 2 #[26, 36, 46], 26) := by decide +kernel
theorem dX8_turn_40 : decode cX8_turn 40 = .ok (.aload_n 0, 1) := by decide +kernel
theorem dX8_turn_41 : decode cX8_turn 41 = .ok (.getfield 33, 3) := by decide +kernel
theorem dX8_turn_44 : decode cX8_turn 44 = .ok (.getfield 180, 3) := by decide +kernel
theorem dX8_turn_47 : decode cX8_turn 47 = .ok (.iload_n 1, 1) := by decide +kernel
theorem dX8_turn_48 : decode cX8_turn 48 = .ok (.iaload, 1) := by decide +kernel
theorem dX8_turn_49 : decode cX8_turn 49 = .ok (.ireturn, 1) := by decide +kernel
theorem dX8_turn_50 : decode cX8_turn 50 = .ok (.aload_n 0, 1) := by decide +kernel
theorem dX8_turn_51 : decode cX8_turn 51 = .ok (.getfield 33, 3) := by decide +kernel
theorem dX8_turn_54 : decode cX8_turn 54 = .ok (.getfield 183, 3) := by decide +kernel
theorem dX8_turn_57 : decode cX8_turn 57 = .ok (.iload_n 1, 1) := by decide +kernel
theorem dX8_turn_58 : decode cX8_turn 58 = .ok (.iaload, 1) := by decide +kernel
theorem dX8_turn_59 : decode cX8_turn 59 = .ok (.ireturn, 1) := by decide +kernel
theorem dX8_turn_60 : decode cX8_turn 60 = .ok (.aload_n 0, 1) := by decide +kernel
theorem dX8_turn_61 : decode cX8_turn 61 = .ok (.getfield 33, 3) := by decide +kernel
theorem dX8_turn_64 : decode cX8_turn 64 = .ok (.getfield 186, 3) := by decide +kernel
theorem dX8_turn_67 : decode cX8_turn 67 = .ok (.iload_n 1, 1) := by decide +kernel
theorem dX8_turn_68 : decode cX8_turn 68 = .ok (.iaload, 1) := by decide +kernel
theorem dX8_turn_69 : decode cX8_turn 69 = .ok (.ireturn, 1) := by decide +kernel
theorem dX8_turn_70 : decode cX8_turn 70 = .ok (.iconst (-1), 1) := by decide +kernel
theorem dX8_turn_71 : decode cX8_turn 71 = .ok (.ireturn, 1) := by decide +kernel
theorem dX8_undo_0 : decode cX8_undo 0 = .ok (.aload_n 0, 1) := by decide +kernel
theorem dX8_undo_1 : decode cX8_undo 1 = .ok (.getfield 42, 3) := by decide +kernel
theorem dX8_undo_4 : decode cX8_undo 4 = .ok (.aload_n 0, 1) := by decide +kernel
theorem dX8_undo_5 : decode cX8_undo 5 = .ok (.getfield 33, 3) := by decide +kernel
theorem dX8_undo_8 : decode cX8_undo 8 = .ok (.invokevirtual 209, 3) := by decide +kernel
theorem dX8_undo_11 : decode cX8_undo 11 = .ok (.ifCond .ne 6, 3) := by decide +kernel
theorem dX8_undo_14 : decode cX8_undo 14 = .ok (.bipush (-2), 2) := by decide +kernel
theorem dX8_undo_16 : decode cX8_undo 16 = .ok (.ireturn, 1) := by decide +kernel
theorem dX8_undo_17 : decode cX8_undo 17 = .ok (.aload_n 0, 1) := by decide +kernel
theorem dX8_undo_18 : decode cX8_undo 18 = .ok (.invokevirtual 200, 3) := by decide +kernel
theorem dX8_undo_21 : decode cX8_undo 21 = .ok (.aload_n 0, 1) := by decide +kernel
theorem dX8_undo_22 : decode cX8_undo 22 = .ok (.getfield 42, 3) := by decide +kernel
theorem dX8_undo_25 : decode cX8_undo 25 = .ok (.getfield 213, 3) := by decide +kernel
theorem dX8_undo_28 : decode cX8_undo 28 = .ok (.ireturn, 1) := by decide +kernel
theorem dX8_walkWithout_0 : decode cX8_walkWithout 0 = .ok (.aload_n 0, 1) := by decide +kernel
theorem dX8_walkWithout_1 : decode cX8_walkWithout 1 = .ok (.getfield 71, 3) := by decide +kernel
theorem dX8_walkWithout_4 : decode cX8_walkWithout 4 = .ok (.aload_n 0, 1) := by decide +kernel
theorem dX8_walkWithout_5 : decode cX8_walkWithout 5 = .ok (.getfield 23, 3) := by decide +kernel
theorem dX8_walkWithout_8 : decode cX8_walkWithout 8 = .ok (.invokevirtual 253, 3) := by decide +kernel
theorem dX8_walkWithout_11 : decode cX8_walkWithout 11 = .ok (.aload_n 0, 1) := by decide +kernel
theorem dX8_walkWithout_12 : decode cX8_walkWithout 12 = .ok (.getfield 71, 3) := by decide +kernel
theorem dX8_walkWithout_15 : decode cX8_walkWithout 15 = .ok (.getfield 155, 3) := by decide +kernel
theorem dX8_walkWithout_18 : decode cX8_walkWithout 18 = .ok (.iload_n 1, 1) := by decide +kernel
theorem dX8_walkWithout_19 : decode cX8_walkWithout 19 = .ok (.iconst 0, 1) := by decide +kernel
theorem dX8_walkWithout_20 : decode cX8_walkWithout 20 = .ok (.iastore, 1) := by decide +kernel
theorem dX8_walkWithout_21 : decode cX8_walkWithout 21 = .ok (.aload_n 0, 1) := by decide +kernel
theorem dX8_walkWithout_22 : decode cX8_walkWithout 22 = .ok (.getfield 71, 3) := by decide +kernel
theorem dX8_walkWithout_25 : decode cX8_walkWithout 25 = .ok (.aload_n 0, 1) := by decide +kernel
theorem dX8_walkWithout_26 : decode cX8_walkWithout 26 = .ok (.getfield 56, 3) := by decide +kernel
theorem dX8_walkWithout_29 : decode cX8_walkWithout 29 = .ok (.invokevirtual 256, 3) := by decide +kernel
theorem dX8_walkWithout_32 : decode cX8_walkWithout 32 = .ok (.return_, 1) := by decide +kernel
theorem dX8_wipe_0 : decode cX8_wipe 0 = .ok (.aload_n 0, 1) := by decide +kernel
theorem dX8_wipe_1 : decode cX8_wipe 1 = .ok (.getfield 115, 3) := by decide +kernel
theorem dX8_wipe_4 : decode cX8_wipe 4 = .ok (.istore_n 1, 1) := by decide +kernel
theorem dX8_wipe_5 : decode cX8_wipe 5 = .ok (.aload_n 0, 1) := by decide +kernel
theorem dX8_wipe_6 : decode cX8_wipe 6 = .ok (.iconst 0, 1) := by decide +kernel
theorem dX8_wipe_7 : decode cX8_wipe 7 = .ok (.putfield 115, 3) := by decide +kernel
theorem dX8_wipe_10 : decode cX8_wipe 10 = .ok (.iload_n 1, 1) := by decide +kernel
theorem dX8_wipe_11 : decode cX8_wipe 11 = .ok (.ireturn, 1) := by decide +kernel
theorem dX8_within_0 : decode cX8_within 0 = .ok (.iload_n 0, 1) := by decide +kernel
theorem dX8_within_1 : decode cX8_within 1 = .ok (.iload_n 1, 1) := by decide +kernel
theorem dX8_within_2 : decode cX8_within 2 = .ok (.if_icmp .lt 12, 3) := by decide +kernel
theorem dX8_within_5 : decode cX8_within 5 = .ok (.iload_n 0, 1) := by decide +kernel
theorem dX8_within_6 : decode cX8_within 6 = .ok (.iload_n 2, 1) := by decide +kernel
theorem dX8_within_7 : decode cX8_within 7 = .ok (.if_icmp .gt 7, 3) := by decide +kernel
theorem dX8_within_10 : decode cX8_within 10 = .ok (.iconst 1, 1) := by decide +kernel
theorem dX8_within_11 : decode cX8_within 11 = .ok (.goto 4, 3) := by decide +kernel
theorem dX8_within_14 : decode cX8_within 14 = .ok (.iconst 0, 1) := by decide +kernel
theorem dX8_within_15 : decode cX8_within 15 = .ok (.ireturn, 1) := by decide +kernel
theorem dX8_write_0 : decode cX8_write 0 = .ok (.iload_n 1, 1) := by decide +kernel
theorem dX8_write_1 : decode cX8_write 1 = .ok (.bipush 32, 2) := by decide +kernel
theorem dX8_write_3 : decode cX8_write 3 = .ok (.bipush 126, 2) := by decide +kernel
theorem dX8_write_5 : decode cX8_write 5 = .ok (.invokestatic 121, 3) := by decide +kernel
theorem dX8_write_8 : decode cX8_write 8 = .ok (.ifCond .ne 5, 3) := by decide +kernel
theorem dX8_write_11 : decode cX8_write 11 = .ok (.iconst (-1), 1) := by decide +kernel
theorem dX8_write_12 : decode cX8_write 12 = .ok (.ireturn, 1) := by decide +kernel
theorem dX8_write_13 : decode cX8_write 13 = .ok (.aload_n 0, 1) := by decide +kernel
theorem dX8_write_14 : decode cX8_write 14 = .ok (.getfield 115, 3) := by decide +kernel
theorem dX8_write_17 : decode cX8_write 17 = .ok (.sipush 200, 3) := by decide +kernel
theorem dX8_write_20 : decode cX8_write 20 = .ok (.if_icmp .lt 6, 3) := by decide +kernel
theorem dX8_write_23 : decode cX8_write 23 = .ok (.bipush (-3), 2) := by decide +kernel
theorem dX8_write_25 : decode cX8_write 25 = .ok (.ireturn, 1) := by decide +kernel
theorem dX8_write_26 : decode cX8_write 26 = .ok (.aload_n 0, 1) := by decide +kernel
theorem dX8_write_27 : decode cX8_write 27 = .ok (.getfield 9, 3) := by decide +kernel
theorem dX8_write_30 : decode cX8_write 30 = .ok (.aload_n 0, 1) := by decide +kernel
theorem dX8_write_31 : decode cX8_write 31 = .ok (.getfield 115, 3) := by decide +kernel
theorem dX8_write_34 : decode cX8_write 34 = .ok (.iload_n 1, 1) := by decide +kernel
theorem dX8_write_35 : decode cX8_write 35 = .ok (.i2c, 1) := by decide +kernel
theorem dX8_write_36 : decode cX8_write 36 = .ok (.castore, 1) := by decide +kernel
theorem dX8_write_37 : decode cX8_write 37 = .ok (.aload_n 0, 1) := by decide +kernel
theorem dX8_write_38 : decode cX8_write 38 = .ok (.dup, 1) := by decide +kernel
theorem dX8_write_39 : decode cX8_write 39 = .ok (.getfield 115, 3) := by decide +kernel
theorem dX8_write_42 : decode cX8_write 42 = .ok (.iconst 1, 1) := by decide +kernel
theorem dX8_write_43 : decode cX8_write 43 = .ok (.iadd, 1) := by decide +kernel
theorem dX8_write_44 : decode cX8_write 44 = .ok (.putfield 115, 3) := by decide +kernel
theorem dX8_write_47 : decode cX8_write 47 = .ok (.aload_n 0, 1) := by decide +kernel
theorem dX8_write_48 : decode cX8_write 48 = .ok (.getfield 115, 3) := by decide +kernel
theorem dX8_write_51 : decode cX8_write 51 = .ok (.ireturn, 1) := by decide +kernel
theorem dX8_yard_0 : decode cX8_yard 0 = .ok (.aload_n 0, 1) := by decide +kernel
theorem dX8_yard_1 : decode cX8_yard 1 = .ok (.getfield 23, 3) := by decide +kernel
theorem dX8_yard_4 : decode cX8_yard 4 = .ok (.iload_n 1, 1) := by decide +kernel
theorem dX8_yard_5 : decode cX8_yard 5 = .ok (.invokevirtual 129, 3) := by decide +kernel
theorem dX8_yard_8 : decode cX8_yard 8 = .ok (.ifCond .ne 5, 3) := by decide +kernel
theorem dX8_yard_11 : decode cX8_yard 11 = .ok (.iconst (-1), 1) := by decide +kernel
theorem dX8_yard_12 : decode cX8_yard 12 = .ok (.ireturn, 1) := by decide +kernel
theorem dX8_yard_13 : decode cX8_yard 13 = .ok (.iload_n 2, 1) := by decide +kernel
theorem dX8_yard_14 : decode cX8_yard 14 = .ok (.tableswitch 79 0 4 #[34, 44, 53, 62, 69], 34) := by decide +kernel
theorem dX8_yard_48 : decode cX8_yard 48 = .ok (.aload_n 0, 1) := by decide +kernel
theorem dX8_yard_49 : decode cX8_yard 49 = .ok (.getfield 23, 3) := by decide +kernel
theorem dX8_yard_52 : decode cX8_yard 52 = .ok (.getfield 133, 3) := by decide +kernel
theorem dX8_yard_55 : decode cX8_yard 55 = .ok (.iload_n 1, 1) := by decide +kernel
theorem dX8_yard_56 : decode cX8_yard 56 = .ok (.iaload, 1) := by decide +kernel
theorem dX8_yard_57 : decode cX8_yard 57 = .ok (.ireturn, 1) := by decide +kernel
theorem dX8_yard_58 : decode cX8_yard 58 = .ok (.aload_n 0, 1) := by decide +kernel
theorem dX8_yard_59 : decode cX8_yard 59 = .ok (.getfield 23, 3) := by decide +kernel
theorem dX8_yard_62 : decode cX8_yard 62 = .ok (.iload_n 1, 1) := by decide +kernel
theorem dX8_yard_63 : decode cX8_yard 63 = .ok (.invokevirtual 136, 3) := by decide +kernel
theorem dX8_yard_66 : decode cX8_yard 66 = .ok (.ireturn, 1) := by decide +kernel
theorem dX8_yard_67 : decode cX8_yard 67 = .ok (.aload_n 0, 1) := by decide +kernel
theorem dX8_yard_68 : decode cX8_yard 68 = .ok (.getfield 23, 3) := by decide +kernel
theorem dX8_yard_71 : decode cX8_yard 71 = .ok (.iload_n 1, 1) := by decide +kernel
theorem dX8_yard_72 : decode cX8_yard 72 = .ok (.invokevirtual 140, 3) := by decide +kernel
theorem dX8_yard_75 : decode cX8_yard 75 = .ok (.ireturn, 1) := by decide +kernel
theorem dX8_yard_76 : decode cX8_yard 76 = .ok (.aload_n 0, 1) := by decide +kernel
theorem dX8_yard_77 : decode cX8_yard 77 = .ok (.getfield 56, 3) := by decide +kernel
theorem dX8_yard_80 : decode cX8_yard 80 = .ok (.iload_n 1, 1) := by decide +kernel
theorem dX8_yard_81 : decode cX8_yard 81 = .ok (.iaload, 1) := by decide +kernel
theorem dX8_yard_82 : decode cX8_yard 82 = .ok (.ireturn, 1) := by decide +kernel
theorem dX8_yard_83 : decode cX8_yard 83 = .ok (.aload_n 0, 1) := by decide +kernel
theorem dX8_yard_84 : decode cX8_yard 84 = .ok (.getfield 67, 3) := by decide +kernel
theorem dX8_yard_87 : decode cX8_yard 87 = .ok (.getfield 143, 3) := by decide +kernel
theorem dX8_yard_90 : decode cX8_yard 90 = .ok (.iload_n 1, 1) := by decide +kernel
theorem dX8_yard_91 : decode cX8_yard 91 = .ok (.iaload, 1) := by decide +kernel
theorem dX8_yard_92 : decode cX8_yard 92 = .ok (.ireturn, 1) := by decide +kernel
theorem dX8_yard_93 : decode cX8_yard 93 = .ok (.iconst (-1), 1) := by decide +kernel
theorem dX8_yard_94 : decode cX8_yard 94 = .ok (.ireturn, 1) := by decide +kernel
theorem dX9_adds_0 : decode cX9_adds 0 = .ok (.aload_n 0, 1) := by decide +kernel
theorem dX9_adds_1 : decode cX9_adds 1 = .ok (.iconst 0, 1) := by decide +kernel
theorem dX9_adds_2 : decode cX9_adds 2 = .ok (.iaload, 1) := by decide +kernel
theorem dX9_adds_3 : decode cX9_adds 3 = .ok (.istore 4, 2) := by decide +kernel
theorem dX9_adds_5 : decode cX9_adds 5 = .ok (.aload_n 0, 1) := by decide +kernel
theorem dX9_adds_6 : decode cX9_adds 6 = .ok (.iconst 1, 1) := by decide +kernel
theorem dX9_adds_7 : decode cX9_adds 7 = .ok (.iload 4, 2) := by decide +kernel
theorem dX9_adds_9 : decode cX9_adds 9 = .ok (.iadd, 1) := by decide +kernel
theorem dX9_adds_10 : decode cX9_adds 10 = .ok (.iload_n 1, 1) := by decide +kernel
theorem dX9_adds_11 : decode cX9_adds 11 = .ok (.iastore, 1) := by decide +kernel
theorem dX9_adds_12 : decode cX9_adds 12 = .ok (.aload_n 0, 1) := by decide +kernel
theorem dX9_adds_13 : decode cX9_adds 13 = .ok (.bipush 11, 2) := by decide +kernel
theorem dX9_adds_15 : decode cX9_adds 15 = .ok (.iload 4, 2) := by decide +kernel
theorem dX9_adds_17 : decode cX9_adds 17 = .ok (.iadd, 1) := by decide +kernel
theorem dX9_adds_18 : decode cX9_adds 18 = .ok (.iload_n 2, 1) := by decide +kernel
theorem dX9_adds_19 : decode cX9_adds 19 = .ok (.iastore, 1) := by decide +kernel
theorem dX9_adds_20 : decode cX9_adds 20 = .ok (.aload_n 0, 1) := by decide +kernel
theorem dX9_adds_21 : decode cX9_adds 21 = .ok (.bipush 21, 2) := by decide +kernel
theorem dX9_adds_23 : decode cX9_adds 23 = .ok (.iload 4, 2) := by decide +kernel
theorem dX9_adds_25 : decode cX9_adds 25 = .ok (.iadd, 1) := by decide +kernel
theorem dX9_adds_26 : decode cX9_adds 26 = .ok (.iload_n 3, 1) := by decide +kernel
theorem dX9_adds_27 : decode cX9_adds 27 = .ok (.iastore, 1) := by decide +kernel
theorem dX9_adds_28 : decode cX9_adds 28 = .ok (.aload_n 0, 1) := by decide +kernel
theorem dX9_adds_29 : decode cX9_adds 29 = .ok (.iconst 0, 1) := by decide +kernel
theorem dX9_adds_30 : decode cX9_adds 30 = .ok (.dup2, 1) := by decide +kernel
theorem dX9_adds_31 : decode cX9_adds 31 = .ok (.iaload, 1) := by decide +kernel
theorem dX9_adds_32 : decode cX9_adds 32 = .ok (.iconst 1, 1) := by decide +kernel
theorem dX9_adds_33 : decode cX9_adds 33 = .ok (.iadd, 1) := by decide +kernel
theorem dX9_adds_34 : decode cX9_adds 34 = .ok (.iastore, 1) := by decide +kernel
theorem dX9_adds_35 : decode cX9_adds 35 = .ok (.return_, 1) := by decide +kernel
theorem dX9_areSo_0 : decode cX9_areSo 0 = .ok (.aload_n 0, 1) := by decide +kernel
theorem dX9_areSo_1 : decode cX9_areSo 1 = .ok (.invokevirtual 214, 3) := by decide +kernel
theorem dX9_areSo_4 : decode cX9_areSo 4 = .ok (.aload_n 0, 1) := by decide +kernel
theorem dX9_areSo_5 : decode cX9_areSo 5 = .ok (.iload_n 1, 1) := by decide +kernel
theorem dX9_areSo_6 : decode cX9_areSo 6 = .ok (.putfield 152, 3) := by decide +kernel
theorem dX9_areSo_9 : decode cX9_areSo 9 = .ok (.aload_n 0, 1) := by decide +kernel
theorem dX9_areSo_10 : decode cX9_areSo 10 = .ok (.invokevirtual 217, 3) := by decide +kernel
theorem dX9_areSo_13 : decode cX9_areSo 13 = .ok (.iconst 1, 1) := by decide +kernel
theorem dX9_areSo_14 : decode cX9_areSo 14 = .ok (.istore_n 2, 1) := by decide +kernel
theorem dX9_areSo_15 : decode cX9_areSo 15 = .ok (.iconst 0, 1) := by decide +kernel
theorem dX9_areSo_16 : decode cX9_areSo 16 = .ok (.istore_n 3, 1) := by decide +kernel
theorem dX9_areSo_17 : decode cX9_areSo 17 = .ok (.iload_n 3, 1) := by decide +kernel
theorem dX9_areSo_18 : decode cX9_areSo 18 = .ok (.aload_n 0, 1) := by decide +kernel
theorem dX9_areSo_19 : decode cX9_areSo 19 = .ok (.getfield 139, 3) := by decide +kernel
theorem dX9_areSo_22 : decode cX9_areSo 22 = .ok (.if_icmp .ge 48, 3) := by decide +kernel
theorem dX9_areSo_25 : decode cX9_areSo 25 = .ok (.iload_n 2, 1) := by decide +kernel
theorem dX9_areSo_26 : decode cX9_areSo 26 = .ok (.ifCond .eq 36, 3) := by decide +kernel
theorem dX9_areSo_29 : decode cX9_areSo 29 = .ok (.aload_n 0, 1) := by decide +kernel
theorem dX9_areSo_30 : decode cX9_areSo 30 = .ok (.getfield 55, 3) := by decide +kernel
theorem dX9_areSo_33 : decode cX9_areSo 33 = .ok (.aload_n 0, 1) := by decide +kernel
theorem dX9_areSo_34 : decode cX9_areSo 34 = .ok (.getfield 31, 3) := by decide +kernel
theorem dX9_areSo_37 : decode cX9_areSo 37 = .ok (.iconst 2, 1) := by decide +kernel
theorem dX9_areSo_38 : decode cX9_areSo 38 = .ok (.iload_n 3, 1) := by decide +kernel
theorem dX9_areSo_39 : decode cX9_areSo 39 = .ok (.imul, 1) := by decide +kernel
theorem dX9_areSo_40 : decode cX9_areSo 40 = .ok (.iaload, 1) := by decide +kernel
theorem dX9_areSo_41 : decode cX9_areSo 41 = .ok (.iaload, 1) := by decide +kernel
theorem dX9_areSo_42 : decode cX9_areSo 42 = .ok (.invokestatic 174, 3) := by decide +kernel
theorem dX9_areSo_45 : decode cX9_areSo 45 = .ok (.aload_n 0, 1) := by decide +kernel
theorem dX9_areSo_46 : decode cX9_areSo 46 = .ok (.getfield 31, 3) := by decide +kernel
theorem dX9_areSo_49 : decode cX9_areSo 49 = .ok (.iconst 2, 1) := by decide +kernel
theorem dX9_areSo_50 : decode cX9_areSo 50 = .ok (.iload_n 3, 1) := by decide +kernel
theorem dX9_areSo_51 : decode cX9_areSo 51 = .ok (.imul, 1) := by decide +kernel
theorem dX9_areSo_52 : decode cX9_areSo 52 = .ok (.iconst 1, 1) := by decide +kernel
theorem dX9_areSo_53 : decode cX9_areSo 53 = .ok (.iadd, 1) := by decide +kernel
theorem dX9_areSo_54 : decode cX9_areSo 54 = .ok (.iaload, 1) := by decide +kernel
theorem dX9_areSo_55 : decode cX9_areSo 55 = .ok (.if_icmp .ne 7, 3) := by decide +kernel
theorem dX9_areSo_58 : decode cX9_areSo 58 = .ok (.iconst 1, 1) := by decide +kernel
theorem dX9_areSo_59 : decode cX9_areSo 59 = .ok (.goto 4, 3) := by decide +kernel
theorem dX9_areSo_62 : decode cX9_areSo 62 = .ok (.iconst 0, 1) := by decide +kernel
theorem dX9_areSo_63 : decode cX9_areSo 63 = .ok (.istore_n 2, 1) := by decide +kernel
theorem dX9_areSo_64 : decode cX9_areSo 64 = .ok (.iinc 3 1, 3) := by decide +kernel
theorem dX9_areSo_67 : decode cX9_areSo 67 = .ok (.goto (-50), 3) := by decide +kernel
theorem dX9_areSo_70 : decode cX9_areSo 70 = .ok (.iload_n 2, 1) := by decide +kernel
theorem dX9_areSo_71 : decode cX9_areSo 71 = .ok (.ireturn, 1) := by decide +kernel
theorem dX9_asItIs_0 : decode cX9_asItIs 0 = .ok (.iconst 0, 1) := by decide +kernel
theorem dX9_asItIs_1 : decode cX9_asItIs 1 = .ok (.istore_n 1, 1) := by decide +kernel
theorem dX9_asItIs_2 : decode cX9_asItIs 2 = .ok (.iload_n 1, 1) := by decide +kernel
theorem dX9_asItIs_3 : decode cX9_asItIs 3 = .ok (.bipush 34, 2) := by decide +kernel
theorem dX9_asItIs_5 : decode cX9_asItIs 5 = .ok (.if_icmp .ge 21, 3) := by decide +kernel
theorem dX9_asItIs_8 : decode cX9_asItIs 8 = .ok (.aload_n 0, 1) := by decide +kernel
theorem dX9_asItIs_9 : decode cX9_asItIs 9 = .ok (.getfield 37, 3) := by decide +kernel
theorem dX9_asItIs_12 : decode cX9_asItIs 12 = .ok (.iload_n 1, 1) := by decide +kernel
theorem dX9_asItIs_13 : decode cX9_asItIs 13 = .ok (.aload_n 0, 1) := by decide +kernel
theorem dX9_asItIs_14 : decode cX9_asItIs 14 = .ok (.getfield 7, 3) := by decide +kernel
theorem dX9_asItIs_17 : decode cX9_asItIs 17 = .ok (.iload_n 1, 1) := by decide +kernel
theorem dX9_asItIs_18 : decode cX9_asItIs 18 = .ok (.iaload, 1) := by decide +kernel
theorem dX9_asItIs_19 : decode cX9_asItIs 19 = .ok (.iastore, 1) := by decide +kernel
theorem dX9_asItIs_20 : decode cX9_asItIs 20 = .ok (.iinc 1 1, 3) := by decide +kernel
theorem dX9_asItIs_23 : decode cX9_asItIs 23 = .ok (.goto (-21), 3) := by decide +kernel
theorem dX9_asItIs_26 : decode cX9_asItIs 26 = .ok (.iconst 0, 1) := by decide +kernel
theorem dX9_asItIs_27 : decode cX9_asItIs 27 = .ok (.istore_n 1, 1) := by decide +kernel
theorem dX9_asItIs_28 : decode cX9_asItIs 28 = .ok (.iload_n 1, 1) := by decide +kernel
theorem dX9_asItIs_29 : decode cX9_asItIs 29 = .ok (.bipush 31, 2) := by decide +kernel
theorem dX9_asItIs_31 : decode cX9_asItIs 31 = .ok (.if_icmp .ge 21, 3) := by decide +kernel
theorem dX9_asItIs_34 : decode cX9_asItIs 34 = .ok (.aload_n 0, 1) := by decide +kernel
theorem dX9_asItIs_35 : decode cX9_asItIs 35 = .ok (.getfield 40, 3) := by decide +kernel
theorem dX9_asItIs_38 : decode cX9_asItIs 38 = .ok (.iload_n 1, 1) := by decide +kernel
theorem dX9_asItIs_39 : decode cX9_asItIs 39 = .ok (.aload_n 0, 1) := by decide +kernel
theorem dX9_asItIs_40 : decode cX9_asItIs 40 = .ok (.getfield 16, 3) := by decide +kernel
theorem dX9_asItIs_43 : decode cX9_asItIs 43 = .ok (.iload_n 1, 1) := by decide +kernel
theorem dX9_asItIs_44 : decode cX9_asItIs 44 = .ok (.iaload, 1) := by decide +kernel
theorem dX9_asItIs_45 : decode cX9_asItIs 45 = .ok (.iastore, 1) := by decide +kernel
theorem dX9_asItIs_46 : decode cX9_asItIs 46 = .ok (.iinc 1 1, 3) := by decide +kernel
theorem dX9_asItIs_49 : decode cX9_asItIs 49 = .ok (.goto (-21), 3) := by decide +kernel
theorem dX9_asItIs_52 : decode cX9_asItIs 52 = .ok (.aload_n 0, 1) := by decide +kernel
theorem dX9_asItIs_53 : decode cX9_asItIs 53 = .ok (.iconst (-1), 1) := by decide +kernel
theorem dX9_asItIs_54 : decode cX9_asItIs 54 = .ok (.putfield 152, 3) := by decide +kernel
theorem dX9_asItIs_57 : decode cX9_asItIs 57 = .ok (.aload_n 0, 1) := by decide +kernel
theorem dX9_asItIs_58 : decode cX9_asItIs 58 = .ok (.iconst (-1), 1) := by decide +kernel
theorem dX9_asItIs_59 : decode cX9_asItIs 59 = .ok (.putfield 155, 3) := by decide +kernel
theorem dX9_asItIs_62 : decode cX9_asItIs 62 = .ok (.return_, 1) := by decide +kernel
theorem dX9_back_0 : decode cX9_back 0 = .ok (.aload_n 0, 1) := by decide +kernel
theorem dX9_back_1 : decode cX9_back 1 = .ok (.getfield 145, 3) := by decide +kernel
theorem dX9_back_4 : decode cX9_back 4 = .ok (.ifCond .ne 6, 3) := by decide +kernel
theorem dX9_back_7 : decode cX9_back 7 = .ok (.bipush (-2), 2) := by decide +kernel
theorem dX9_back_9 : decode cX9_back 9 = .ok (.ireturn, 1) := by decide +kernel
theorem dX9_back_10 : decode cX9_back 10 = .ok (.aload_n 0, 1) := by decide +kernel
theorem dX9_back_11 : decode cX9_back 11 = .ok (.dup, 1) := by decide +kernel
theorem dX9_back_12 : decode cX9_back 12 = .ok (.getfield 145, 3) := by decide +kernel
theorem dX9_back_15 : decode cX9_back 15 = .ok (.iconst 1, 1) := by decide +kernel
theorem dX9_back_16 : decode cX9_back 16 = .ok (.isub, 1) := by decide +kernel
theorem dX9_back_17 : decode cX9_back 17 = .ok (.putfield 145, 3) := by decide +kernel
theorem dX9_back_20 : decode cX9_back 20 = .ok (.aload_n 0, 1) := by decide +kernel
theorem dX9_back_21 : decode cX9_back 21 = .ok (.getfield 25, 3) := by decide +kernel
theorem dX9_back_24 : decode cX9_back 24 = .ok (.bipush 31, 2) := by decide +kernel
theorem dX9_back_26 : decode cX9_back 26 = .ok (.aload_n 0, 1) := by decide +kernel
theorem dX9_back_27 : decode cX9_back 27 = .ok (.getfield 145, 3) := by decide +kernel
theorem dX9_back_30 : decode cX9_back 30 = .ok (.imul, 1) := by decide +kernel
theorem dX9_back_31 : decode cX9_back 31 = .ok (.aload_n 0, 1) := by decide +kernel
theorem dX9_back_32 : decode cX9_back 32 = .ok (.getfield 16, 3) := by decide +kernel
theorem dX9_back_35 : decode cX9_back 35 = .ok (.iconst 0, 1) := by decide +kernel
theorem dX9_back_36 : decode cX9_back 36 = .ok (.invokestatic 235, 3) := by decide +kernel
theorem dX9_back_39 : decode cX9_back 39 = .ok (.aload_n 0, 1) := by decide +kernel
theorem dX9_back_40 : decode cX9_back 40 = .ok (.iconst 0, 1) := by decide +kernel
theorem dX9_back_41 : decode cX9_back 41 = .ok (.putfield 142, 3) := by decide +kernel
theorem dX9_back_44 : decode cX9_back 44 = .ok (.aload_n 0, 1) := by decide +kernel
theorem dX9_back_45 : decode cX9_back 45 = .ok (.getfield 145, 3) := by decide +kernel
theorem dX9_back_48 : decode cX9_back 48 = .ok (.ireturn, 1) := by decide +kernel
theorem dX9_bear_0 : decode cX9_bear 0 = .ok (.aload_n 0, 1) := by decide +kernel
theorem dX9_bear_1 : decode cX9_bear 1 = .ok (.iload_n 1, 1) := by decide +kernel
theorem dX9_bear_2 : decode cX9_bear 2 = .ok (.invokevirtual 220, 3) := by decide +kernel
theorem dX9_bear_5 : decode cX9_bear 5 = .ok (.ifCond .eq 28, 3) := by decide +kernel
theorem dX9_bear_8 : decode cX9_bear 8 = .ok (.iload_n 2, 1) := by decide +kernel
theorem dX9_bear_9 : decode cX9_bear 9 = .ok (.i2l, 1) := by decide +kernel
theorem dX9_bear_10 : decode cX9_bear 10 = .ok (.lconst 0, 1) := by decide +kernel
theorem dX9_bear_11 : decode cX9_bear 11 = .ok (.ldc2_w 239, 3) := by decide +kernel
theorem dX9_bear_14 : decode cX9_bear 14 = .ok (.invokestatic 87, 3) := by decide +kernel
theorem dX9_bear_17 : decode cX9_bear 17 = .ok (.ifCond .eq 16, 3) := by decide +kernel
theorem dX9_bear_20 : decode cX9_bear 20 = .ok (.iload_n 3, 1) := by decide +kernel
theorem dX9_bear_21 : decode cX9_bear 21 = .ok (.i2l, 1) := by decide +kernel
theorem dX9_bear_22 : decode cX9_bear 22 = .ok (.iload_n 2, 1) := by decide +kernel
theorem dX9_bear_23 : decode cX9_bear 23 = .ok (.i2l, 1) := by decide +kernel
theorem dX9_bear_24 : decode cX9_bear 24 = .ok (.ldc2_w 239, 3) := by decide +kernel
theorem dX9_bear_27 : decode cX9_bear 27 = .ok (.invokestatic 87, 3) := by decide +kernel
theorem dX9_bear_30 : decode cX9_bear 30 = .ok (.ifCond .ne 5, 3) := by decide +kernel
theorem dX9_bear_33 : decode cX9_bear 33 = .ok (.iconst (-1), 1) := by decide +kernel
theorem dX9_bear_34 : decode cX9_bear 34 = .ok (.ireturn, 1) := by decide +kernel
theorem dX9_bear_35 : decode cX9_bear 35 = .ok (.aload_n 0, 1) := by decide +kernel
theorem dX9_bear_36 : decode cX9_bear 36 = .ok (.getfield 16, 3) := by decide +kernel
theorem dX9_bear_39 : decode cX9_bear 39 = .ok (.iconst 0, 1) := by decide +kernel
theorem dX9_bear_40 : decode cX9_bear 40 = .ok (.iaload, 1) := by decide +kernel
theorem dX9_bear_41 : decode cX9_bear 41 = .ok (.bipush 9, 2) := by decide +kernel
theorem dX9_bear_43 : decode cX9_bear 43 = .ok (.if_icmp .ne 6, 3) := by decide +kernel
theorem dX9_bear_46 : decode cX9_bear 46 = .ok (.bipush (-3), 2) := by decide +kernel
theorem dX9_bear_48 : decode cX9_bear 48 = .ok (.ireturn, 1) := by decide +kernel
theorem dX9_bear_49 : decode cX9_bear 49 = .ok (.aload_n 0, 1) := by decide +kernel
theorem dX9_bear_50 : decode cX9_bear 50 = .ok (.invokevirtual 241, 3) := by decide +kernel
theorem dX9_bear_53 : decode cX9_bear 53 = .ok (.aload_n 0, 1) := by decide +kernel
theorem dX9_bear_54 : decode cX9_bear 54 = .ok (.getfield 16, 3) := by decide +kernel
theorem dX9_bear_57 : decode cX9_bear 57 = .ok (.iload_n 1, 1) := by decide +kernel
theorem dX9_bear_58 : decode cX9_bear 58 = .ok (.iload_n 2, 1) := by decide +kernel
theorem dX9_bear_59 : decode cX9_bear 59 = .ok (.iload_n 3, 1) := by decide +kernel
theorem dX9_bear_60 : decode cX9_bear 60 = .ok (.invokestatic 244, 3) := by decide +kernel
theorem dX9_bear_63 : decode cX9_bear 63 = .ok (.aload_n 0, 1) := by decide +kernel
theorem dX9_bear_64 : decode cX9_bear 64 = .ok (.getfield 16, 3) := by decide +kernel
theorem dX9_bear_67 : decode cX9_bear 67 = .ok (.iconst 0, 1) := by decide +kernel
theorem dX9_bear_68 : decode cX9_bear 68 = .ok (.iaload, 1) := by decide +kernel
theorem dX9_bear_69 : decode cX9_bear 69 = .ok (.ireturn, 1) := by decide +kernel
theorem dX9_bearer_0 : decode cX9_bearer 0 = .ok (.aload_n 0, 1) := by decide +kernel
theorem dX9_bearer_1 : decode cX9_bearer 1 = .ok (.iload_n 1, 1) := by decide +kernel
theorem dX9_bearer_2 : decode cX9_bearer 2 = .ok (.invokevirtual 220, 3) := by decide +kernel
theorem dX9_bearer_5 : decode cX9_bearer 5 = .ok (.ifCond .eq 15, 3) := by decide +kernel
theorem dX9_bearer_8 : decode cX9_bearer 8 = .ok (.iload_n 2, 1) := by decide +kernel
theorem dX9_bearer_9 : decode cX9_bearer 9 = .ok (.i2l, 1) := by decide +kernel
theorem dX9_bearer_10 : decode cX9_bearer 10 = .ok (.lconst 0, 1) := by decide +kernel
theorem dX9_bearer_11 : decode cX9_bearer 11 = .ok (.ldc2_w 223, 3) := by decide +kernel
theorem dX9_bearer_14 : decode cX9_bearer 14 = .ok (.invokestatic 87, 3) := by decide +kernel
theorem dX9_bearer_17 : decode cX9_bearer 17 = .ok (.ifCond .ne 5, 3) := by decide +kernel
theorem dX9_bearer_20 : decode cX9_bearer 20 = .ok (.iconst (-1), 1) := by decide +kernel
theorem dX9_bearer_21 : decode cX9_bearer 21 = .ok (.ireturn, 1) := by decide +kernel
theorem dX9_bearer_22 : decode cX9_bearer 22 = .ok (.aload_n 0, 1) := by decide +kernel
theorem dX9_bearer_23 : decode cX9_bearer 23 = .ok (.invokevirtual 214, 3) := by decide +kernel
theorem dX9_bearer_26 : decode cX9_bearer 26 = .ok (.aload_n 0, 1) := by decide +kernel
theorem dX9_bearer_27 : decode cX9_bearer 27 = .ok (.invokevirtual 217, 3) := by decide +kernel
theorem dX9_bearer_30 : decode cX9_bearer 30 = .ok (.iload_n 2, 1) := by decide +kernel
theorem dX9_bearer_31 : decode cX9_bearer 31 = .ok (.tableswitch 88 0 4 #[33, 43, 53, 60, 67], 33) := by decide +kernel
theorem dX9_bearer_64 : decode cX9_bearer 64 = .ok (.aload_n 0, 1) := by decide +kernel
theorem dX9_bearer_65 : decode cX9_bearer 65 = .ok (.getfield 7, 3) := by decide +kernel
theorem dX9_bearer_68 : decode cX9_bearer 68 = .ok (.bipush 22, 2) := by decide +kernel
theorem dX9_bearer_70 : decode cX9_bearer 70 = .ok (.iload_n 1, 1) := by decide +kernel
theorem dX9_bearer_71 : decode cX9_bearer 71 = .ok (.iadd, 1) := by decide +kernel
theorem dX9_bearer_72 : decode cX9_bearer 72 = .ok (.iaload, 1) := by decide +kernel
theorem dX9_bearer_73 : decode cX9_bearer 73 = .ok (.ireturn, 1) := by decide +kernel
theorem dX9_bearer_74 : decode cX9_bearer 74 = .ok (.aload_n 0, 1) := by decide +kernel
theorem dX9_bearer_75 : decode cX9_bearer 75 = .ok (.getfield 7, 3) := by decide +kernel
theorem dX9_bearer_78 : decode cX9_bearer 78 = .ok (.bipush 28, 2) := by decide +kernel
theorem dX9_bearer_80 : decode cX9_bearer 80 = .ok (.iload_n 1, 1) := by decide +kernel
theorem dX9_bearer_81 : decode cX9_bearer 81 = .ok (.iadd, 1) := by decide +kernel
theorem dX9_bearer_82 : decode cX9_bearer 82 = .ok (.iaload, 1) := by decide +kernel
theorem dX9_bearer_83 : decode cX9_bearer 83 = .ok (.ireturn, 1) := by decide +kernel
theorem dX9_bearer_84 : decode cX9_bearer 84 = .ok (.aload_n 0, 1) := by decide +kernel
theorem dX9_bearer_85 : decode cX9_bearer 85 = .ok (.getfield 43, 3) := by decide +kernel
theorem dX9_bearer_88 : decode cX9_bearer 88 = .ok (.iload_n 1, 1) := by decide +kernel
theorem dX9_bearer_89 : decode cX9_bearer 89 = .ok (.iaload, 1) := by decide +kernel
theorem dX9_bearer_90 : decode cX9_bearer 90 = .ok (.ireturn, 1) := by decide +kernel
theorem dX9_bearer_91 : decode cX9_bearer 91 = .ok (.aload_n 0, 1) := by decide +kernel
theorem dX9_bearer_92 : decode cX9_bearer 92 = .ok (.getfield 46, 3) := by decide +kernel
theorem dX9_bearer_95 : decode cX9_bearer 95 = .ok (.iload_n 1, 1) := by decide +kernel
theorem dX9_bearer_96 : decode cX9_bearer 96 = .ok (.iaload, 1) := by decide +kernel
theorem dX9_bearer_97 : decode cX9_bearer 97 = .ok (.ireturn, 1) := by decide +kernel
theorem dX9_bearer_98 : decode cX9_bearer 98 = .ok (.aload_n 0, 1) := by decide +kernel
theorem dX9_bearer_99 : decode cX9_bearer 99 = .ok (.getfield 49, 3) := by decide +kernel
theorem dX9_bearer_102 : decode cX9_bearer 102 = .ok (.iload_n 1, 1) := by decide +kernel
theorem dX9_bearer_103 : decode cX9_bearer 103 = .ok (.iaload, 1) := by decide +kernel
theorem dX9_bearer_104 : decode cX9_bearer 104 = .ok (.ifCond .ge 8, 3) := by decide +kernel
theorem dX9_bearer_107 : decode cX9_bearer 107 = .ok (.bipush (-4), 2) := by decide +kernel
theorem dX9_bearer_109 : decode cX9_bearer 109 = .ok (.goto 9, 3) := by decide +kernel
theorem dX9_bearer_112 : decode cX9_bearer 112 = .ok (.aload_n 0, 1) := by decide +kernel
theorem dX9_bearer_113 : decode cX9_bearer 113 = .ok (.getfield 49, 3) := by decide +kernel
theorem dX9_bearer_116 : decode cX9_bearer 116 = .ok (.iload_n 1, 1) := by decide +kernel
theorem dX9_bearer_117 : decode cX9_bearer 117 = .ok (.iaload, 1) := by decide +kernel
theorem dX9_bearer_118 : decode cX9_bearer 118 = .ok (.ireturn, 1) := by decide +kernel
theorem dX9_bearer_119 : decode cX9_bearer 119 = .ok (.aload_n 0, 1) := by decide +kernel
theorem dX9_bearer_120 : decode cX9_bearer 120 = .ok (.getfield 52, 3) := by decide +kernel
theorem dX9_bearer_123 : decode cX9_bearer 123 = .ok (.iload_n 1, 1) := by decide +kernel
theorem dX9_bearer_124 : decode cX9_bearer 124 = .ok (.iaload, 1) := by decide +kernel
theorem dX9_bearer_125 : decode cX9_bearer 125 = .ok (.ireturn, 1) := by decide +kernel
theorem dX9_bears_0 : decode cX9_bears 0 = .ok (.iconst 0, 1) := by decide +kernel
theorem dX9_bears_1 : decode cX9_bears 1 = .ok (.istore 4, 2) := by decide +kernel
theorem dX9_bears_3 : decode cX9_bears 3 = .ok (.iconst 0, 1) := by decide +kernel
theorem dX9_bears_4 : decode cX9_bears 4 = .ok (.istore 5, 2) := by decide +kernel
theorem dX9_bears_6 : decode cX9_bears 6 = .ok (.iload 5, 2) := by decide +kernel
theorem dX9_bears_8 : decode cX9_bears 8 = .ok (.aload_n 0, 1) := by decide +kernel
theorem dX9_bears_9 : decode cX9_bears 9 = .ok (.getfield 37, 3) := by decide +kernel
theorem dX9_bears_12 : decode cX9_bears 12 = .ok (.iconst 1, 1) := by decide +kernel
theorem dX9_bears_13 : decode cX9_bears 13 = .ok (.iaload, 1) := by decide +kernel
theorem dX9_bears_14 : decode cX9_bears 14 = .ok (.if_icmp .ge 87, 3) := by decide +kernel
theorem dX9_bears_17 : decode cX9_bears 17 = .ok (.iload_n 2, 1) := by decide +kernel
theorem dX9_bears_18 : decode cX9_bears 18 = .ok (.iload 5, 2) := by decide +kernel
theorem dX9_bears_20 : decode cX9_bears 20 = .ok (.invokestatic 166, 3) := by decide +kernel
theorem dX9_bears_23 : decode cX9_bears 23 = .ok (.ifCond .eq 72, 3) := by decide +kernel
theorem dX9_bears_26 : decode cX9_bears 26 = .ok (.aload_n 0, 1) := by decide +kernel
theorem dX9_bears_27 : decode cX9_bears 27 = .ok (.getfield 43, 3) := by decide +kernel
theorem dX9_bears_30 : decode cX9_bears 30 = .ok (.iload 5, 2) := by decide +kernel
theorem dX9_bears_32 : decode cX9_bears 32 = .ok (.iaload, 1) := by decide +kernel
theorem dX9_bears_33 : decode cX9_bears 33 = .ok (.aload_n 0, 1) := by decide +kernel
theorem dX9_bears_34 : decode cX9_bears 34 = .ok (.getfield 37, 3) := by decide +kernel
theorem dX9_bears_37 : decode cX9_bears 37 = .ok (.iload 5, 2) := by decide +kernel
theorem dX9_bears_39 : decode cX9_bears 39 = .ok (.iload_n 2, 1) := by decide +kernel
theorem dX9_bears_40 : decode cX9_bears 40 = .ok (.iload_n 3, 1) := by decide +kernel
theorem dX9_bears_41 : decode cX9_bears 41 = .ok (.invokestatic 178, 3) := by decide +kernel
theorem dX9_bears_44 : decode cX9_bears 44 = .ok (.if_icmp .lt 7, 3) := by decide +kernel
theorem dX9_bears_47 : decode cX9_bears 47 = .ok (.iconst 1, 1) := by decide +kernel
theorem dX9_bears_48 : decode cX9_bears 48 = .ok (.goto 4, 3) := by decide +kernel
theorem dX9_bears_51 : decode cX9_bears 51 = .ok (.iconst 0, 1) := by decide +kernel
theorem dX9_bears_52 : decode cX9_bears 52 = .ok (.istore 6, 2) := by decide +kernel
theorem dX9_bears_54 : decode cX9_bears 54 = .ok (.iload 4, 2) := by decide +kernel
theorem dX9_bears_56 : decode cX9_bears 56 = .ok (.iload 6, 2) := by decide +kernel
theorem dX9_bears_58 : decode cX9_bears 58 = .ok (.ifCond .eq 10, 3) := by decide +kernel
theorem dX9_bears_61 : decode cX9_bears 61 = .ok (.iconst 1, 1) := by decide +kernel
theorem dX9_bears_62 : decode cX9_bears 62 = .ok (.iload 5, 2) := by decide +kernel
theorem dX9_bears_64 : decode cX9_bears 64 = .ok (.ishl, 1) := by decide +kernel
theorem dX9_bears_65 : decode cX9_bears 65 = .ok (.goto 4, 3) := by decide +kernel
theorem dX9_bears_68 : decode cX9_bears 68 = .ok (.iconst 0, 1) := by decide +kernel
theorem dX9_bears_69 : decode cX9_bears 69 = .ok (.ior, 1) := by decide +kernel
theorem dX9_bears_70 : decode cX9_bears 70 = .ok (.istore 4, 2) := by decide +kernel
theorem dX9_bears_72 : decode cX9_bears 72 = .ok (.aload_n 0, 1) := by decide +kernel
theorem dX9_bears_73 : decode cX9_bears 73 = .ok (.getfield 49, 3) := by decide +kernel
theorem dX9_bears_76 : decode cX9_bears 76 = .ok (.iload 5, 2) := by decide +kernel
theorem dX9_bears_78 : decode cX9_bears 78 = .ok (.iload 6, 2) := by decide +kernel
theorem dX9_bears_80 : decode cX9_bears 80 = .ok (.ifCond .eq 13, 3) := by decide +kernel
theorem dX9_bears_83 : decode cX9_bears 83 = .ok (.aload_n 0, 1) := by decide +kernel
theorem dX9_bears_84 : decode cX9_bears 84 = .ok (.getfield 49, 3) := by decide +kernel
theorem dX9_bears_87 : decode cX9_bears 87 = .ok (.iload 5, 2) := by decide +kernel
theorem dX9_bears_89 : decode cX9_bears 89 = .ok (.iaload, 1) := by decide +kernel
theorem dX9_bears_90 : decode cX9_bears 90 = .ok (.goto 4, 3) := by decide +kernel
theorem dX9_bears_93 : decode cX9_bears 93 = .ok (.iload_n 1, 1) := by decide +kernel
theorem dX9_bears_94 : decode cX9_bears 94 = .ok (.iastore, 1) := by decide +kernel
theorem dX9_bears_95 : decode cX9_bears 95 = .ok (.iinc 5 1, 3) := by decide +kernel
theorem dX9_bears_98 : decode cX9_bears 98 = .ok (.goto (-92), 3) := by decide +kernel
theorem dX9_bears_101 : decode cX9_bears 101 = .ok (.iload 4, 2) := by decide +kernel
theorem dX9_bears_103 : decode cX9_bears 103 = .ok (.ireturn, 1) := by decide +kernel
theorem dX9_begins_0 : decode cX9_begins 0 = .ok (.iconst 0, 1) := by decide +kernel
theorem dX9_begins_1 : decode cX9_begins 1 = .ok (.istore_n 1, 1) := by decide +kernel
theorem dX9_begins_2 : decode cX9_begins 2 = .ok (.iload_n 1, 1) := by decide +kernel
theorem dX9_begins_3 : decode cX9_begins 3 = .ok (.bipush 34, 2) := by decide +kernel
theorem dX9_begins_5 : decode cX9_begins 5 = .ok (.if_icmp .ge 21, 3) := by decide +kernel
theorem dX9_begins_8 : decode cX9_begins 8 = .ok (.aload_n 0, 1) := by decide +kernel
theorem dX9_begins_9 : decode cX9_begins 9 = .ok (.getfield 7, 3) := by decide +kernel
theorem dX9_begins_12 : decode cX9_begins 12 = .ok (.iload_n 1, 1) := by decide +kernel
theorem dX9_begins_13 : decode cX9_begins 13 = .ok (.aload_n 0, 1) := by decide +kernel
theorem dX9_begins_14 : decode cX9_begins 14 = .ok (.getfield 13, 3) := by decide +kernel
theorem dX9_begins_17 : decode cX9_begins 17 = .ok (.iload_n 1, 1) := by decide +kernel
theorem dX9_begins_18 : decode cX9_begins 18 = .ok (.iaload, 1) := by decide +kernel
theorem dX9_begins_19 : decode cX9_begins 19 = .ok (.iastore, 1) := by decide +kernel
theorem dX9_begins_20 : decode cX9_begins 20 = .ok (.iinc 1 1, 3) := by decide +kernel
theorem dX9_begins_23 : decode cX9_begins 23 = .ok (.goto (-21), 3) := by decide +kernel
theorem dX9_begins_26 : decode cX9_begins 26 = .ok (.iconst 0, 1) := by decide +kernel
theorem dX9_begins_27 : decode cX9_begins 27 = .ok (.istore_n 1, 1) := by decide +kernel
theorem dX9_begins_28 : decode cX9_begins 28 = .ok (.iload_n 1, 1) := by decide +kernel
theorem dX9_begins_29 : decode cX9_begins 29 = .ok (.bipush 31, 2) := by decide +kernel
theorem dX9_begins_31 : decode cX9_begins 31 = .ok (.if_icmp .ge 21, 3) := by decide +kernel
theorem dX9_begins_34 : decode cX9_begins 34 = .ok (.aload_n 0, 1) := by decide +kernel
theorem dX9_begins_35 : decode cX9_begins 35 = .ok (.getfield 16, 3) := by decide +kernel
theorem dX9_begins_38 : decode cX9_begins 38 = .ok (.iload_n 1, 1) := by decide +kernel
theorem dX9_begins_39 : decode cX9_begins 39 = .ok (.aload_n 0, 1) := by decide +kernel
theorem dX9_begins_40 : decode cX9_begins 40 = .ok (.getfield 19, 3) := by decide +kernel
theorem dX9_begins_43 : decode cX9_begins 43 = .ok (.iload_n 1, 1) := by decide +kernel
theorem dX9_begins_44 : decode cX9_begins 44 = .ok (.iaload, 1) := by decide +kernel
theorem dX9_begins_45 : decode cX9_begins 45 = .ok (.iastore, 1) := by decide +kernel
theorem dX9_begins_46 : decode cX9_begins 46 = .ok (.iinc 1 1, 3) := by decide +kernel
theorem dX9_begins_49 : decode cX9_begins 49 = .ok (.goto (-21), 3) := by decide +kernel
theorem dX9_begins_52 : decode cX9_begins 52 = .ok (.aload_n 0, 1) := by decide +kernel
theorem dX9_begins_53 : decode cX9_begins 53 = .ok (.iconst 0, 1) := by decide +kernel
theorem dX9_begins_54 : decode cX9_begins 54 = .ok (.putfield 139, 3) := by decide +kernel
theorem dX9_begins_57 : decode cX9_begins 57 = .ok (.aload_n 0, 1) := by decide +kernel
theorem dX9_begins_58 : decode cX9_begins 58 = .ok (.iconst 0, 1) := by decide +kernel
theorem dX9_begins_59 : decode cX9_begins 59 = .ok (.putfield 142, 3) := by decide +kernel
theorem dX9_begins_62 : decode cX9_begins 62 = .ok (.aload_n 0, 1) := by decide +kernel
theorem dX9_begins_63 : decode cX9_begins 63 = .ok (.iconst 0, 1) := by decide +kernel
theorem dX9_begins_64 : decode cX9_begins 64 = .ok (.putfield 145, 3) := by decide +kernel
theorem dX9_begins_67 : decode cX9_begins 67 = .ok (.return_, 1) := by decide +kernel
theorem dX9_best_0 : decode cX9_best 0 = .ok (.aload_n 0, 1) := by decide +kernel
theorem dX9_best_1 : decode cX9_best 1 = .ok (.iload_n 1, 1) := by decide +kernel
theorem dX9_best_2 : decode cX9_best 2 = .ok (.invokevirtual 220, 3) := by decide +kernel
theorem dX9_best_5 : decode cX9_best 5 = .ok (.ifCond .eq 10, 3) := by decide +kernel
theorem dX9_best_8 : decode cX9_best 8 = .ok (.iload_n 2, 1) := by decide +kernel
theorem dX9_best_9 : decode cX9_best 9 = .ok (.invokestatic 225, 3) := by decide +kernel
theorem dX9_best_12 : decode cX9_best 12 = .ok (.ifCond .ne 5, 3) := by decide +kernel
theorem dX9_best_15 : decode cX9_best 15 = .ok (.iconst (-1), 1) := by decide +kernel
theorem dX9_best_16 : decode cX9_best 16 = .ok (.ireturn, 1) := by decide +kernel
theorem dX9_best_17 : decode cX9_best 17 = .ok (.aload_n 0, 1) := by decide +kernel
theorem dX9_best_18 : decode cX9_best 18 = .ok (.invokevirtual 214, 3) := by decide +kernel
theorem dX9_best_21 : decode cX9_best 21 = .ok (.aload_n 0, 1) := by decide +kernel
theorem dX9_best_22 : decode cX9_best 22 = .ok (.invokevirtual 217, 3) := by decide +kernel
theorem dX9_best_25 : decode cX9_best 25 = .ok (.aload_n 0, 1) := by decide +kernel
theorem dX9_best_26 : decode cX9_best 26 = .ok (.getfield 46, 3) := by decide +kernel
theorem dX9_best_29 : decode cX9_best 29 = .ok (.iload_n 1, 1) := by decide +kernel
theorem dX9_best_30 : decode cX9_best 30 = .ok (.iaload, 1) := by decide +kernel
theorem dX9_best_31 : decode cX9_best 31 = .ok (.istore_n 3, 1) := by decide +kernel
theorem dX9_best_32 : decode cX9_best 32 = .ok (.bipush (-4), 2) := by decide +kernel
theorem dX9_best_34 : decode cX9_best 34 = .ok (.istore 4, 2) := by decide +kernel
theorem dX9_best_36 : decode cX9_best 36 = .ok (.aload_n 0, 1) := by decide +kernel
theorem dX9_best_37 : decode cX9_best 37 = .ok (.getfield 7, 3) := by decide +kernel
theorem dX9_best_40 : decode cX9_best 40 = .ok (.invokestatic 116, 3) := by decide +kernel
theorem dX9_best_43 : decode cX9_best 43 = .ok (.istore 5, 2) := by decide +kernel
theorem dX9_best_45 : decode cX9_best 45 = .ok (.iconst 0, 1) := by decide +kernel
theorem dX9_best_46 : decode cX9_best 46 = .ok (.istore 6, 2) := by decide +kernel
theorem dX9_best_48 : decode cX9_best 48 = .ok (.iload 6, 2) := by decide +kernel
theorem dX9_best_50 : decode cX9_best 50 = .ok (.iload 5, 2) := by decide +kernel
theorem dX9_best_52 : decode cX9_best 52 = .ok (.if_icmp .ge 93, 3) := by decide +kernel
theorem dX9_best_55 : decode cX9_best 55 = .ok (.iload 6, 2) := by decide +kernel
theorem dX9_best_57 : decode cX9_best 57 = .ok (.istore 7, 2) := by decide +kernel
theorem dX9_best_59 : decode cX9_best 59 = .ok (.iload 7, 2) := by decide +kernel
theorem dX9_best_61 : decode cX9_best 61 = .ok (.iload 5, 2) := by decide +kernel
theorem dX9_best_63 : decode cX9_best 63 = .ok (.if_icmp .ge 76, 3) := by decide +kernel
theorem dX9_best_66 : decode cX9_best 66 = .ok (.aload_n 0, 1) := by decide +kernel
theorem dX9_best_67 : decode cX9_best 67 = .ok (.invokevirtual 214, 3) := by decide +kernel
theorem dX9_best_70 : decode cX9_best 70 = .ok (.aload_n 0, 1) := by decide +kernel
theorem dX9_best_71 : decode cX9_best 71 = .ok (.getfield 40, 3) := by decide +kernel
theorem dX9_best_74 : decode cX9_best 74 = .ok (.iload_n 1, 1) := by decide +kernel
theorem dX9_best_75 : decode cX9_best 75 = .ok (.iload 6, 2) := by decide +kernel
theorem dX9_best_77 : decode cX9_best 77 = .ok (.iload 7, 2) := by decide +kernel
theorem dX9_best_79 : decode cX9_best 79 = .ok (.invokestatic 244, 3) := by decide +kernel
theorem dX9_best_82 : decode cX9_best 82 = .ok (.aload_n 0, 1) := by decide +kernel
theorem dX9_best_83 : decode cX9_best 83 = .ok (.invokevirtual 217, 3) := by decide +kernel
theorem dX9_best_86 : decode cX9_best 86 = .ok (.aload_n 0, 1) := by decide +kernel
theorem dX9_best_87 : decode cX9_best 87 = .ok (.getfield 46, 3) := by decide +kernel
theorem dX9_best_90 : decode cX9_best 90 = .ok (.iload_n 1, 1) := by decide +kernel
theorem dX9_best_91 : decode cX9_best 91 = .ok (.iaload, 1) := by decide +kernel
theorem dX9_best_92 : decode cX9_best 92 = .ok (.iload_n 3, 1) := by decide +kernel
theorem dX9_best_93 : decode cX9_best 93 = .ok (.if_icmp .le 15, 3) := by decide +kernel
theorem dX9_best_96 : decode cX9_best 96 = .ok (.sipush 200, 3) := by decide +kernel
theorem dX9_best_99 : decode cX9_best 99 = .ok (.iload 6, 2) := by decide +kernel
theorem dX9_best_101 : decode cX9_best 101 = .ok (.imul, 1) := by decide +kernel
theorem dX9_best_102 : decode cX9_best 102 = .ok (.iload 7, 2) := by decide +kernel
theorem dX9_best_104 : decode cX9_best 104 = .ok (.iadd, 1) := by decide +kernel
theorem dX9_best_105 : decode cX9_best 105 = .ok (.goto 5, 3) := by decide +kernel
theorem dX9_best_108 : decode cX9_best 108 = .ok (.iload 4, 2) := by decide +kernel
theorem dX9_best_110 : decode cX9_best 110 = .ok (.istore 4, 2) := by decide +kernel
theorem dX9_best_112 : decode cX9_best 112 = .ok (.aload_n 0, 1) := by decide +kernel
theorem dX9_best_113 : decode cX9_best 113 = .ok (.getfield 46, 3) := by decide +kernel
theorem dX9_best_116 : decode cX9_best 116 = .ok (.iload_n 1, 1) := by decide +kernel
theorem dX9_best_117 : decode cX9_best 117 = .ok (.iaload, 1) := by decide +kernel
theorem dX9_best_118 : decode cX9_best 118 = .ok (.iload_n 3, 1) := by decide +kernel
theorem dX9_best_119 : decode cX9_best 119 = .ok (.if_icmp .le 12, 3) := by decide +kernel
theorem dX9_best_122 : decode cX9_best 122 = .ok (.aload_n 0, 1) := by decide +kernel
theorem dX9_best_123 : decode cX9_best 123 = .ok (.getfield 46, 3) := by decide +kernel
theorem dX9_best_126 : decode cX9_best 126 = .ok (.iload_n 1, 1) := by decide +kernel
theorem dX9_best_127 : decode cX9_best 127 = .ok (.iaload, 1) := by decide +kernel
theorem dX9_best_128 : decode cX9_best 128 = .ok (.goto 4, 3) := by decide +kernel
theorem dX9_best_131 : decode cX9_best 131 = .ok (.iload_n 3, 1) := by decide +kernel
theorem dX9_best_132 : decode cX9_best 132 = .ok (.istore_n 3, 1) := by decide +kernel
theorem dX9_best_133 : decode cX9_best 133 = .ok (.iinc 7 1, 3) := by decide +kernel
theorem dX9_best_136 : decode cX9_best 136 = .ok (.goto (-77), 3) := by decide +kernel
theorem dX9_best_139 : decode cX9_best 139 = .ok (.iinc 6 1, 3) := by decide +kernel
theorem dX9_best_142 : decode cX9_best 142 = .ok (.goto (-94), 3) := by decide +kernel
theorem dX9_best_145 : decode cX9_best 145 = .ok (.iload 4, 2) := by decide +kernel
theorem dX9_best_147 : decode cX9_best 147 = .ok (.bipush (-4), 2) := by decide +kernel
theorem dX9_best_149 : decode cX9_best 149 = .ok (.if_icmp .eq 7, 3) := by decide +kernel
theorem dX9_best_152 : decode cX9_best 152 = .ok (.iload_n 2, 1) := by decide +kernel
theorem dX9_best_153 : decode cX9_best 153 = .ok (.ifCond .ne 8, 3) := by decide +kernel
theorem dX9_best_156 : decode cX9_best 156 = .ok (.iload 4, 2) := by decide +kernel
theorem dX9_best_158 : decode cX9_best 158 = .ok (.goto 4, 3) := by decide +kernel
theorem dX9_best_161 : decode cX9_best 161 = .ok (.iload_n 3, 1) := by decide +kernel
theorem dX9_best_162 : decode cX9_best 162 = .ok (.ireturn, 1) := by decide +kernel
theorem dX9_bits_0 : decode cX9_bits 0 = .ok (.iconst 0, 1) := by decide +kernel
theorem dX9_bits_1 : decode cX9_bits 1 = .ok (.istore_n 1, 1) := by decide +kernel
theorem dX9_bits_2 : decode cX9_bits 2 = .ok (.iload_n 0, 1) := by decide +kernel
theorem dX9_bits_3 : decode cX9_bits 3 = .ok (.istore_n 2, 1) := by decide +kernel
theorem dX9_bits_4 : decode cX9_bits 4 = .ok (.iload_n 2, 1) := by decide +kernel
theorem dX9_bits_5 : decode cX9_bits 5 = .ok (.ifCond .eq 15, 3) := by decide +kernel
theorem dX9_bits_8 : decode cX9_bits 8 = .ok (.iinc 1 1, 3) := by decide +kernel
theorem dX9_bits_11 : decode cX9_bits 11 = .ok (.iload_n 2, 1) := by decide +kernel
theorem dX9_bits_12 : decode cX9_bits 12 = .ok (.iload_n 2, 1) := by decide +kernel
theorem dX9_bits_13 : decode cX9_bits 13 = .ok (.iconst 1, 1) := by decide +kernel
theorem dX9_bits_14 : decode cX9_bits 14 = .ok (.isub, 1) := by decide +kernel
theorem dX9_bits_15 : decode cX9_bits 15 = .ok (.iand, 1) := by decide +kernel
theorem dX9_bits_16 : decode cX9_bits 16 = .ok (.istore_n 2, 1) := by decide +kernel
theorem dX9_bits_17 : decode cX9_bits 17 = .ok (.goto (-13), 3) := by decide +kernel
theorem dX9_bits_20 : decode cX9_bits 20 = .ok (.iload_n 1, 1) := by decide +kernel
theorem dX9_bits_21 : decode cX9_bits 21 = .ok (.ireturn, 1) := by decide +kernel
theorem dX9_cairn_0 : decode cX9_cairn 0 = .ok (.aload_n 0, 1) := by decide +kernel
theorem dX9_cairn_1 : decode cX9_cairn 1 = .ok (.iload_n 1, 1) := by decide +kernel
theorem dX9_cairn_2 : decode cX9_cairn 2 = .ok (.invokevirtual 220, 3) := by decide +kernel
theorem dX9_cairn_5 : decode cX9_cairn 5 = .ok (.ifCond .eq 39, 3) := by decide +kernel
theorem dX9_cairn_8 : decode cX9_cairn 8 = .ok (.iload_n 2, 1) := by decide +kernel
theorem dX9_cairn_9 : decode cX9_cairn 9 = .ok (.i2l, 1) := by decide +kernel
theorem dX9_cairn_10 : decode cX9_cairn 10 = .ok (.lconst 0, 1) := by decide +kernel
theorem dX9_cairn_11 : decode cX9_cairn 11 = .ok (.aload_n 0, 1) := by decide +kernel
theorem dX9_cairn_12 : decode cX9_cairn 12 = .ok (.getfield 7, 3) := by decide +kernel
theorem dX9_cairn_15 : decode cX9_cairn 15 = .ok (.iconst 0, 1) := by decide +kernel
theorem dX9_cairn_16 : decode cX9_cairn 16 = .ok (.iaload, 1) := by decide +kernel
theorem dX9_cairn_17 : decode cX9_cairn 17 = .ok (.iconst 1, 1) := by decide +kernel
theorem dX9_cairn_18 : decode cX9_cairn 18 = .ok (.isub, 1) := by decide +kernel
theorem dX9_cairn_19 : decode cX9_cairn 19 = .ok (.i2l, 1) := by decide +kernel
theorem dX9_cairn_20 : decode cX9_cairn 20 = .ok (.invokestatic 87, 3) := by decide +kernel
theorem dX9_cairn_23 : decode cX9_cairn 23 = .ok (.ifCond .eq 21, 3) := by decide +kernel
theorem dX9_cairn_26 : decode cX9_cairn 26 = .ok (.iload_n 3, 1) := by decide +kernel
theorem dX9_cairn_27 : decode cX9_cairn 27 = .ok (.i2l, 1) := by decide +kernel
theorem dX9_cairn_28 : decode cX9_cairn 28 = .ok (.ldc2_w 262, 3) := by decide +kernel
theorem dX9_cairn_31 : decode cX9_cairn 31 = .ok (.ldc2_w 264, 3) := by decide +kernel
theorem dX9_cairn_34 : decode cX9_cairn 34 = .ok (.invokestatic 87, 3) := by decide +kernel
theorem dX9_cairn_37 : decode cX9_cairn 37 = .ok (.ifCond .eq 7, 3) := by decide +kernel
theorem dX9_cairn_40 : decode cX9_cairn 40 = .ok (.iload_n 3, 1) := by decide +kernel
theorem dX9_cairn_41 : decode cX9_cairn 41 = .ok (.ifCond .ne 5, 3) := by decide +kernel
theorem dX9_cairn_44 : decode cX9_cairn 44 = .ok (.iconst (-1), 1) := by decide +kernel
theorem dX9_cairn_45 : decode cX9_cairn 45 = .ok (.ireturn, 1) := by decide +kernel
theorem dX9_cairn_46 : decode cX9_cairn 46 = .ok (.iload_n 2, 1) := by decide +kernel
theorem dX9_cairn_47 : decode cX9_cairn 47 = .ok (.aload_n 0, 1) := by decide +kernel
theorem dX9_cairn_48 : decode cX9_cairn 48 = .ok (.getfield 7, 3) := by decide +kernel
theorem dX9_cairn_51 : decode cX9_cairn 51 = .ok (.iconst 0, 1) := by decide +kernel
theorem dX9_cairn_52 : decode cX9_cairn 52 = .ok (.iaload, 1) := by decide +kernel
theorem dX9_cairn_53 : decode cX9_cairn 53 = .ok (.iconst 1, 1) := by decide +kernel
theorem dX9_cairn_54 : decode cX9_cairn 54 = .ok (.isub, 1) := by decide +kernel
theorem dX9_cairn_55 : decode cX9_cairn 55 = .ok (.if_icmp .eq 33, 3) := by decide +kernel
theorem dX9_cairn_58 : decode cX9_cairn 58 = .ok (.aload_n 0, 1) := by decide +kernel
theorem dX9_cairn_59 : decode cX9_cairn 59 = .ok (.getfield 7, 3) := by decide +kernel
theorem dX9_cairn_62 : decode cX9_cairn 62 = .ok (.iconst 4, 1) := by decide +kernel
theorem dX9_cairn_63 : decode cX9_cairn 63 = .ok (.iload_n 2, 1) := by decide +kernel
theorem dX9_cairn_64 : decode cX9_cairn 64 = .ok (.iadd, 1) := by decide +kernel
theorem dX9_cairn_65 : decode cX9_cairn 65 = .ok (.iaload, 1) := by decide +kernel
theorem dX9_cairn_66 : decode cX9_cairn 66 = .ok (.iload_n 3, 1) := by decide +kernel
theorem dX9_cairn_67 : decode cX9_cairn 67 = .ok (.iadd, 1) := by decide +kernel
theorem dX9_cairn_68 : decode cX9_cairn 68 = .ok (.iconst 1, 1) := by decide +kernel
theorem dX9_cairn_69 : decode cX9_cairn 69 = .ok (.if_icmp .lt 19, 3) := by decide +kernel
theorem dX9_cairn_72 : decode cX9_cairn 72 = .ok (.aload_n 0, 1) := by decide +kernel
theorem dX9_cairn_73 : decode cX9_cairn 73 = .ok (.getfield 7, 3) := by decide +kernel
theorem dX9_cairn_76 : decode cX9_cairn 76 = .ok (.iconst 4, 1) := by decide +kernel
theorem dX9_cairn_77 : decode cX9_cairn 77 = .ok (.iload_n 2, 1) := by decide +kernel
theorem dX9_cairn_78 : decode cX9_cairn 78 = .ok (.iadd, 1) := by decide +kernel
theorem dX9_cairn_79 : decode cX9_cairn 79 = .ok (.iconst 1, 1) := by decide +kernel
theorem dX9_cairn_80 : decode cX9_cairn 80 = .ok (.iadd, 1) := by decide +kernel
theorem dX9_cairn_81 : decode cX9_cairn 81 = .ok (.iaload, 1) := by decide +kernel
theorem dX9_cairn_82 : decode cX9_cairn 82 = .ok (.iload_n 3, 1) := by decide +kernel
theorem dX9_cairn_83 : decode cX9_cairn 83 = .ok (.isub, 1) := by decide +kernel
theorem dX9_cairn_84 : decode cX9_cairn 84 = .ok (.iconst 1, 1) := by decide +kernel
theorem dX9_cairn_85 : decode cX9_cairn 85 = .ok (.if_icmp .ge 6, 3) := by decide +kernel
theorem dX9_cairn_88 : decode cX9_cairn 88 = .ok (.bipush (-2), 2) := by decide +kernel
theorem dX9_cairn_90 : decode cX9_cairn 90 = .ok (.ireturn, 1) := by decide +kernel
theorem dX9_cairn_91 : decode cX9_cairn 91 = .ok (.aload_n 0, 1) := by decide +kernel
theorem dX9_cairn_92 : decode cX9_cairn 92 = .ok (.invokevirtual 214, 3) := by decide +kernel
theorem dX9_cairn_95 : decode cX9_cairn 95 = .ok (.aload_n 0, 1) := by decide +kernel
theorem dX9_cairn_96 : decode cX9_cairn 96 = .ok (.invokevirtual 217, 3) := by decide +kernel
theorem dX9_cairn_99 : decode cX9_cairn 99 = .ok (.aload_n 0, 1) := by decide +kernel
theorem dX9_cairn_100 : decode cX9_cairn 100 = .ok (.getfield 46, 3) := by decide +kernel
theorem dX9_cairn_103 : decode cX9_cairn 103 = .ok (.iload_n 1, 1) := by decide +kernel
theorem dX9_cairn_104 : decode cX9_cairn 104 = .ok (.iaload, 1) := by decide +kernel
theorem dX9_cairn_105 : decode cX9_cairn 105 = .ok (.istore 4, 2) := by decide +kernel
theorem dX9_cairn_107 : decode cX9_cairn 107 = .ok (.aload_n 0, 1) := by decide +kernel
theorem dX9_cairn_108 : decode cX9_cairn 108 = .ok (.invokevirtual 214, 3) := by decide +kernel
theorem dX9_cairn_111 : decode cX9_cairn 111 = .ok (.aload_n 0, 1) := by decide +kernel
theorem dX9_cairn_112 : decode cX9_cairn 112 = .ok (.getfield 37, 3) := by decide +kernel
theorem dX9_cairn_115 : decode cX9_cairn 115 = .ok (.iconst 4, 1) := by decide +kernel
theorem dX9_cairn_116 : decode cX9_cairn 116 = .ok (.iload_n 2, 1) := by decide +kernel
theorem dX9_cairn_117 : decode cX9_cairn 117 = .ok (.iadd, 1) := by decide +kernel
theorem dX9_cairn_118 : decode cX9_cairn 118 = .ok (.dup2, 1) := by decide +kernel
theorem dX9_cairn_119 : decode cX9_cairn 119 = .ok (.iaload, 1) := by decide +kernel
theorem dX9_cairn_120 : decode cX9_cairn 120 = .ok (.iload_n 3, 1) := by decide +kernel
theorem dX9_cairn_121 : decode cX9_cairn 121 = .ok (.iadd, 1) := by decide +kernel
theorem dX9_cairn_122 : decode cX9_cairn 122 = .ok (.iastore, 1) := by decide +kernel
theorem dX9_cairn_123 : decode cX9_cairn 123 = .ok (.aload_n 0, 1) := by decide +kernel
theorem dX9_cairn_124 : decode cX9_cairn 124 = .ok (.getfield 37, 3) := by decide +kernel
theorem dX9_cairn_127 : decode cX9_cairn 127 = .ok (.iconst 4, 1) := by decide +kernel
theorem dX9_cairn_128 : decode cX9_cairn 128 = .ok (.iload_n 2, 1) := by decide +kernel
theorem dX9_cairn_129 : decode cX9_cairn 129 = .ok (.iadd, 1) := by decide +kernel
theorem dX9_cairn_130 : decode cX9_cairn 130 = .ok (.iconst 1, 1) := by decide +kernel
theorem dX9_cairn_131 : decode cX9_cairn 131 = .ok (.iadd, 1) := by decide +kernel
theorem dX9_cairn_132 : decode cX9_cairn 132 = .ok (.dup2, 1) := by decide +kernel
theorem dX9_cairn_133 : decode cX9_cairn 133 = .ok (.iaload, 1) := by decide +kernel
theorem dX9_cairn_134 : decode cX9_cairn 134 = .ok (.iload_n 3, 1) := by decide +kernel
theorem dX9_cairn_135 : decode cX9_cairn 135 = .ok (.isub, 1) := by decide +kernel
theorem dX9_cairn_136 : decode cX9_cairn 136 = .ok (.iastore, 1) := by decide +kernel
theorem dX9_cairn_137 : decode cX9_cairn 137 = .ok (.aload_n 0, 1) := by decide +kernel
theorem dX9_cairn_138 : decode cX9_cairn 138 = .ok (.invokevirtual 217, 3) := by decide +kernel
theorem dX9_cairn_141 : decode cX9_cairn 141 = .ok (.aload_n 0, 1) := by decide +kernel
theorem dX9_cairn_142 : decode cX9_cairn 142 = .ok (.getfield 46, 3) := by decide +kernel
theorem dX9_cairn_145 : decode cX9_cairn 145 = .ok (.iload_n 1, 1) := by decide +kernel
theorem dX9_cairn_146 : decode cX9_cairn 146 = .ok (.iaload, 1) := by decide +kernel
theorem dX9_cairn_147 : decode cX9_cairn 147 = .ok (.iload 4, 2) := by decide +kernel
theorem dX9_cairn_149 : decode cX9_cairn 149 = .ok (.isub, 1) := by decide +kernel
theorem dX9_cairn_150 : decode cX9_cairn 150 = .ok (.sipush 9999, 3) := by decide +kernel
theorem dX9_cairn_153 : decode cX9_cairn 153 = .ok (.iadd, 1) := by decide +kernel
theorem dX9_cairn_154 : decode cX9_cairn 154 = .ok (.ireturn, 1) := by decide +kernel
theorem dX9_clean_0 : decode cX9_clean 0 = .ok (.iconst 0, 1) := by decide +kernel
theorem dX9_clean_1 : decode cX9_clean 1 = .ok (.istore_n 1, 1) := by decide +kernel
theorem dX9_clean_2 : decode cX9_clean 2 = .ok (.iload_n 1, 1) := by decide +kernel
theorem dX9_clean_3 : decode cX9_clean 3 = .ok (.bipush 34, 2) := by decide +kernel
theorem dX9_clean_5 : decode cX9_clean 5 = .ok (.if_icmp .ge 16, 3) := by decide +kernel
theorem dX9_clean_8 : decode cX9_clean 8 = .ok (.aload_n 0, 1) := by decide +kernel
theorem dX9_clean_9 : decode cX9_clean 9 = .ok (.getfield 13, 3) := by decide +kernel
theorem dX9_clean_12 : decode cX9_clean 12 = .ok (.iload_n 1, 1) := by decide +kernel
theorem dX9_clean_13 : decode cX9_clean 13 = .ok (.iconst 0, 1) := by decide +kernel
theorem dX9_clean_14 : decode cX9_clean 14 = .ok (.iastore, 1) := by decide +kernel
theorem dX9_clean_15 : decode cX9_clean 15 = .ok (.iinc 1 1, 3) := by decide +kernel
theorem dX9_clean_18 : decode cX9_clean 18 = .ok (.goto (-16), 3) := by decide +kernel
theorem dX9_clean_21 : decode cX9_clean 21 = .ok (.iconst 0, 1) := by decide +kernel
theorem dX9_clean_22 : decode cX9_clean 22 = .ok (.istore_n 1, 1) := by decide +kernel
theorem dX9_clean_23 : decode cX9_clean 23 = .ok (.iload_n 1, 1) := by decide +kernel
theorem dX9_clean_24 : decode cX9_clean 24 = .ok (.bipush 31, 2) := by decide +kernel
theorem dX9_clean_26 : decode cX9_clean 26 = .ok (.if_icmp .ge 16, 3) := by decide +kernel
theorem dX9_clean_29 : decode cX9_clean 29 = .ok (.aload_n 0, 1) := by decide +kernel
theorem dX9_clean_30 : decode cX9_clean 30 = .ok (.getfield 19, 3) := by decide +kernel
theorem dX9_clean_33 : decode cX9_clean 33 = .ok (.iload_n 1, 1) := by decide +kernel
theorem dX9_clean_34 : decode cX9_clean 34 = .ok (.iconst 0, 1) := by decide +kernel
theorem dX9_clean_35 : decode cX9_clean 35 = .ok (.iastore, 1) := by decide +kernel
theorem dX9_clean_36 : decode cX9_clean 36 = .ok (.iinc 1 1, 3) := by decide +kernel
theorem dX9_clean_39 : decode cX9_clean 39 = .ok (.goto (-16), 3) := by decide +kernel
theorem dX9_clean_42 : decode cX9_clean 42 = .ok (.aload_n 0, 1) := by decide +kernel
theorem dX9_clean_43 : decode cX9_clean 43 = .ok (.getfield 13, 3) := by decide +kernel
theorem dX9_clean_46 : decode cX9_clean 46 = .ok (.iconst 2, 1) := by decide +kernel
theorem dX9_clean_47 : decode cX9_clean 47 = .ok (.iconst 1, 1) := by decide +kernel
theorem dX9_clean_48 : decode cX9_clean 48 = .ok (.iastore, 1) := by decide +kernel
theorem dX9_clean_49 : decode cX9_clean 49 = .ok (.iconst 0, 1) := by decide +kernel
theorem dX9_clean_50 : decode cX9_clean 50 = .ok (.istore_n 1, 1) := by decide +kernel
theorem dX9_clean_51 : decode cX9_clean 51 = .ok (.iload_n 1, 1) := by decide +kernel
theorem dX9_clean_52 : decode cX9_clean 52 = .ok (.bipush 6, 2) := by decide +kernel
theorem dX9_clean_54 : decode cX9_clean 54 = .ok (.if_icmp .ge 19, 3) := by decide +kernel
theorem dX9_clean_57 : decode cX9_clean 57 = .ok (.aload_n 0, 1) := by decide +kernel
theorem dX9_clean_58 : decode cX9_clean 58 = .ok (.getfield 13, 3) := by decide +kernel
theorem dX9_clean_61 : decode cX9_clean 61 = .ok (.bipush 16, 2) := by decide +kernel
theorem dX9_clean_63 : decode cX9_clean 63 = .ok (.iload_n 1, 1) := by decide +kernel
theorem dX9_clean_64 : decode cX9_clean 64 = .ok (.iadd, 1) := by decide +kernel
theorem dX9_clean_65 : decode cX9_clean 65 = .ok (.iconst 1, 1) := by decide +kernel
theorem dX9_clean_66 : decode cX9_clean 66 = .ok (.iastore, 1) := by decide +kernel
theorem dX9_clean_67 : decode cX9_clean 67 = .ok (.iinc 1 1, 3) := by decide +kernel
theorem dX9_clean_70 : decode cX9_clean 70 = .ok (.goto (-19), 3) := by decide +kernel
theorem dX9_clean_73 : decode cX9_clean 73 = .ok (.return_, 1) := by decide +kernel
theorem dX9_comes_0 : decode cX9_comes 0 = .ok (.aload_n 0, 1) := by decide +kernel
theorem dX9_comes_1 : decode cX9_comes 1 = .ok (.getfield 13, 3) := by decide +kernel
theorem dX9_comes_4 : decode cX9_comes 4 = .ok (.iconst 1, 1) := by decide +kernel
theorem dX9_comes_5 : decode cX9_comes 5 = .ok (.iaload, 1) := by decide +kernel
theorem dX9_comes_6 : decode cX9_comes 6 = .ok (.istore_n 3, 1) := by decide +kernel
theorem dX9_comes_7 : decode cX9_comes 7 = .ok (.aload_n 0, 1) := by decide +kernel
theorem dX9_comes_8 : decode cX9_comes 8 = .ok (.getfield 13, 3) := by decide +kernel
theorem dX9_comes_11 : decode cX9_comes 11 = .ok (.bipush 22, 2) := by decide +kernel
theorem dX9_comes_13 : decode cX9_comes 13 = .ok (.iload_n 3, 1) := by decide +kernel
theorem dX9_comes_14 : decode cX9_comes 14 = .ok (.iadd, 1) := by decide +kernel
theorem dX9_comes_15 : decode cX9_comes 15 = .ok (.iload_n 1, 1) := by decide +kernel
theorem dX9_comes_16 : decode cX9_comes 16 = .ok (.iastore, 1) := by decide +kernel
theorem dX9_comes_17 : decode cX9_comes 17 = .ok (.aload_n 0, 1) := by decide +kernel
theorem dX9_comes_18 : decode cX9_comes 18 = .ok (.getfield 13, 3) := by decide +kernel
theorem dX9_comes_21 : decode cX9_comes 21 = .ok (.bipush 28, 2) := by decide +kernel
theorem dX9_comes_23 : decode cX9_comes 23 = .ok (.iload_n 3, 1) := by decide +kernel
theorem dX9_comes_24 : decode cX9_comes 24 = .ok (.iadd, 1) := by decide +kernel
theorem dX9_comes_25 : decode cX9_comes 25 = .ok (.iload_n 2, 1) := by decide +kernel
theorem dX9_comes_26 : decode cX9_comes 26 = .ok (.iastore, 1) := by decide +kernel
theorem dX9_comes_27 : decode cX9_comes 27 = .ok (.aload_n 0, 1) := by decide +kernel
theorem dX9_comes_28 : decode cX9_comes 28 = .ok (.getfield 13, 3) := by decide +kernel
theorem dX9_comes_31 : decode cX9_comes 31 = .ok (.iconst 1, 1) := by decide +kernel
theorem dX9_comes_32 : decode cX9_comes 32 = .ok (.dup2, 1) := by decide +kernel
theorem dX9_comes_33 : decode cX9_comes 33 = .ok (.iaload, 1) := by decide +kernel
theorem dX9_comes_34 : decode cX9_comes 34 = .ok (.iconst 1, 1) := by decide +kernel
theorem dX9_comes_35 : decode cX9_comes 35 = .ok (.iadd, 1) := by decide +kernel
theorem dX9_comes_36 : decode cX9_comes 36 = .ok (.iastore, 1) := by decide +kernel
theorem dX9_comes_37 : decode cX9_comes 37 = .ok (.return_, 1) := by decide +kernel
