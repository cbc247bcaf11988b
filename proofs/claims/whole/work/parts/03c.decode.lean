theorem dX3_take_166 : decode cX3_take 166 = .ok (.iinc 3 1, 3) := by decide +kernel
theorem dX3_take_169 : decode cX3_take 169 = .ok (.goto (-81), 3) := by decide +kernel
theorem dX3_take_172 : decode cX3_take 172 = .ok (.return_, 1) := by decide +kernel
theorem dX3_addState_0 : decode cX3_addState 0 = .ok (.aload_n 0, 1) := by decide +kernel
theorem dX3_addState_1 : decode cX3_addState 1 = .ok (.getfield 9, 3) := by decide +kernel
theorem dX3_addState_4 : decode cX3_addState 4 = .ok (.iload_n 2, 1) := by decide +kernel
theorem dX3_addState_5 : decode cX3_addState 5 = .ok (.iaload, 1) := by decide +kernel
theorem dX3_addState_6 : decode cX3_addState 6 = .ok (.ifCond .ne 10, 3) := by decide +kernel
theorem dX3_addState_9 : decode cX3_addState 9 = .ok (.aload_n 0, 1) := by decide +kernel
theorem dX3_addState_10 : decode cX3_addState 10 = .ok (.getfield 15, 3) := by decide +kernel
theorem dX3_addState_13 : decode cX3_addState 13 = .ok (.iload_n 2, 1) := by decide +kernel
theorem dX3_addState_14 : decode cX3_addState 14 = .ok (.iload_n 1, 1) := by decide +kernel
theorem dX3_addState_15 : decode cX3_addState 15 = .ok (.iastore, 1) := by decide +kernel
theorem dX3_addState_16 : decode cX3_addState 16 = .ok (.aload_n 0, 1) := by decide +kernel
theorem dX3_addState_17 : decode cX3_addState 17 = .ok (.getfield 9, 3) := by decide +kernel
theorem dX3_addState_20 : decode cX3_addState 20 = .ok (.iload_n 2, 1) := by decide +kernel
theorem dX3_addState_21 : decode cX3_addState 21 = .ok (.dup2, 1) := by decide +kernel
theorem dX3_addState_22 : decode cX3_addState 22 = .ok (.iaload, 1) := by decide +kernel
theorem dX3_addState_23 : decode cX3_addState 23 = .ok (.iconst 1, 1) := by decide +kernel
theorem dX3_addState_24 : decode cX3_addState 24 = .ok (.iadd, 1) := by decide +kernel
theorem dX3_addState_25 : decode cX3_addState 25 = .ok (.iastore, 1) := by decide +kernel
theorem dX3_addState_26 : decode cX3_addState 26 = .ok (.aload_n 0, 1) := by decide +kernel
theorem dX3_addState_27 : decode cX3_addState 27 = .ok (.getfield 18, 3) := by decide +kernel
theorem dX3_addState_30 : decode cX3_addState 30 = .ok (.iload_n 2, 1) := by decide +kernel
theorem dX3_addState_31 : decode cX3_addState 31 = .ok (.dup2, 1) := by decide +kernel
theorem dX3_addState_32 : decode cX3_addState 32 = .ok (.iaload, 1) := by decide +kernel
theorem dX3_addState_33 : decode cX3_addState 33 = .ok (.iload_n 3, 1) := by decide +kernel
theorem dX3_addState_34 : decode cX3_addState 34 = .ok (.iand, 1) := by decide +kernel
theorem dX3_addState_35 : decode cX3_addState 35 = .ok (.iastore, 1) := by decide +kernel
theorem dX3_addState_36 : decode cX3_addState 36 = .ok (.return_, 1) := by decide +kernel
theorem dX3_addMove_0 : decode cX3_addMove 0 = .ok (.aload_n 0, 1) := by decide +kernel
theorem dX3_addMove_1 : decode cX3_addMove 1 = .ok (.getfield 24, 3) := by decide +kernel
theorem dX3_addMove_4 : decode cX3_addMove 4 = .ok (.iload_n 1, 1) := by decide +kernel
theorem dX3_addMove_5 : decode cX3_addMove 5 = .ok (.iconst 1, 1) := by decide +kernel
theorem dX3_addMove_6 : decode cX3_addMove 6 = .ok (.bastore, 1) := by decide +kernel
theorem dX3_addMove_7 : decode cX3_addMove 7 = .ok (.iload_n 2, 1) := by decide +kernel
theorem dX3_addMove_8 : decode cX3_addMove 8 = .ok (.iconst (-1), 1) := by decide +kernel
theorem dX3_addMove_9 : decode cX3_addMove 9 = .ok (.if_icmp .eq 15, 3) := by decide +kernel
theorem dX3_addMove_12 : decode cX3_addMove 12 = .ok (.aload_n 0, 1) := by decide +kernel
theorem dX3_addMove_13 : decode cX3_addMove 13 = .ok (.getfield 21, 3) := by decide +kernel
theorem dX3_addMove_16 : decode cX3_addMove 16 = .ok (.iload_n 1, 1) := by decide +kernel
theorem dX3_addMove_17 : decode cX3_addMove 17 = .ok (.dup2, 1) := by decide +kernel
theorem dX3_addMove_18 : decode cX3_addMove 18 = .ok (.iaload, 1) := by decide +kernel
theorem dX3_addMove_19 : decode cX3_addMove 19 = .ok (.iconst 1, 1) := by decide +kernel
theorem dX3_addMove_20 : decode cX3_addMove 20 = .ok (.iload_n 2, 1) := by decide +kernel
theorem dX3_addMove_21 : decode cX3_addMove 21 = .ok (.ishl, 1) := by decide +kernel
theorem dX3_addMove_22 : decode cX3_addMove 22 = .ok (.ior, 1) := by decide +kernel
theorem dX3_addMove_23 : decode cX3_addMove 23 = .ok (.iastore, 1) := by decide +kernel
theorem dX3_addMove_24 : decode cX3_addMove 24 = .ok (.return_, 1) := by decide +kernel
theorem dX3_largestSize_0 : decode cX3_largestSize 0 = .ok (.iconst 0, 1) := by decide +kernel
theorem dX3_largestSize_1 : decode cX3_largestSize 1 = .ok (.istore_n 2, 1) := by decide +kernel
theorem dX3_largestSize_2 : decode cX3_largestSize 2 = .ok (.iconst 0, 1) := by decide +kernel
theorem dX3_largestSize_3 : decode cX3_largestSize 3 = .ok (.istore_n 3, 1) := by decide +kernel
theorem dX3_largestSize_4 : decode cX3_largestSize 4 = .ok (.iload_n 3, 1) := by decide +kernel
theorem dX3_largestSize_5 : decode cX3_largestSize 5 = .ok (.iload_n 1, 1) := by decide +kernel
theorem dX3_largestSize_6 : decode cX3_largestSize 6 = .ok (.if_icmp .ge 35, 3) := by decide +kernel
theorem dX3_largestSize_9 : decode cX3_largestSize 9 = .ok (.aload_n 0, 1) := by decide +kernel
theorem dX3_largestSize_10 : decode cX3_largestSize 10 = .ok (.getfield 24, 3) := by decide +kernel
theorem dX3_largestSize_13 : decode cX3_largestSize 13 = .ok (.iload_n 3, 1) := by decide +kernel
theorem dX3_largestSize_14 : decode cX3_largestSize 14 = .ok (.baload, 1) := by decide +kernel
theorem dX3_largestSize_15 : decode cX3_largestSize 15 = .ok (.ifCond .eq 20, 3) := by decide +kernel
theorem dX3_largestSize_18 : decode cX3_largestSize 18 = .ok (.aload_n 0, 1) := by decide +kernel
theorem dX3_largestSize_19 : decode cX3_largestSize 19 = .ok (.getfield 9, 3) := by decide +kernel
theorem dX3_largestSize_22 : decode cX3_largestSize 22 = .ok (.iload_n 3, 1) := by decide +kernel
theorem dX3_largestSize_23 : decode cX3_largestSize 23 = .ok (.iaload, 1) := by decide +kernel
theorem dX3_largestSize_24 : decode cX3_largestSize 24 = .ok (.iload_n 2, 1) := by decide +kernel
theorem dX3_largestSize_25 : decode cX3_largestSize 25 = .ok (.if_icmp .le 10, 3) := by decide +kernel
theorem dX3_largestSize_28 : decode cX3_largestSize 28 = .ok (.aload_n 0, 1) := by decide +kernel
theorem dX3_largestSize_29 : decode cX3_largestSize 29 = .ok (.getfield 9, 3) := by decide +kernel
theorem dX3_largestSize_32 : decode cX3_largestSize 32 = .ok (.iload_n 3, 1) := by decide +kernel
theorem dX3_largestSize_33 : decode cX3_largestSize 33 = .ok (.iaload, 1) := by decide +kernel
theorem dX3_largestSize_34 : decode cX3_largestSize 34 = .ok (.istore_n 2, 1) := by decide +kernel
theorem dX3_largestSize_35 : decode cX3_largestSize 35 = .ok (.iinc 3 1, 3) := by decide +kernel
theorem dX3_largestSize_38 : decode cX3_largestSize 38 = .ok (.goto (-34), 3) := by decide +kernel
theorem dX3_largestSize_41 : decode cX3_largestSize 41 = .ok (.iload_n 2, 1) := by decide +kernel
theorem dX3_largestSize_42 : decode cX3_largestSize 42 = .ok (.ireturn, 1) := by decide +kernel
theorem dX4_init_0 : decode cX4_init 0 = .ok (.aload_n 0, 1) := by decide +kernel
theorem dX4_init_1 : decode cX4_init 1 = .ok (.invokespecial 1, 3) := by decide +kernel
theorem dX4_init_4 : decode cX4_init 4 = .ok (.aload_n 0, 1) := by decide +kernel
theorem dX4_init_5 : decode cX4_init 5 = .ok (.new 7, 3) := by decide +kernel
theorem dX4_init_8 : decode cX4_init 8 = .ok (.dup, 1) := by decide +kernel
theorem dX4_init_9 : decode cX4_init 9 = .ok (.invokespecial 9, 3) := by decide +kernel
theorem dX4_init_12 : decode cX4_init 12 = .ok (.putfield 10, 3) := by decide +kernel
theorem dX4_init_15 : decode cX4_init 15 = .ok (.aload_n 0, 1) := by decide +kernel
theorem dX4_init_16 : decode cX4_init 16 = .ok (.bipush 16, 2) := by decide +kernel
theorem dX4_init_18 : decode cX4_init 18 = .ok (.newarray .int, 2) := by decide +kernel
theorem dX4_init_20 : decode cX4_init 20 = .ok (.putfield 16, 3) := by decide +kernel
theorem dX4_init_23 : decode cX4_init 23 = .ok (.aload_n 0, 1) := by decide +kernel
theorem dX4_init_24 : decode cX4_init 24 = .ok (.new 20, 3) := by decide +kernel
theorem dX4_init_27 : decode cX4_init 27 = .ok (.dup, 1) := by decide +kernel
theorem dX4_init_28 : decode cX4_init 28 = .ok (.invokespecial 22, 3) := by decide +kernel
theorem dX4_init_31 : decode cX4_init 31 = .ok (.putfield 23, 3) := by decide +kernel
theorem dX4_init_34 : decode cX4_init 34 = .ok (.aload_n 0, 1) := by decide +kernel
theorem dX4_init_35 : decode cX4_init 35 = .ok (.new 27, 3) := by decide +kernel
theorem dX4_init_38 : decode cX4_init 38 = .ok (.dup, 1) := by decide +kernel
theorem dX4_init_39 : decode cX4_init 39 = .ok (.invokespecial 29, 3) := by decide +kernel
theorem dX4_init_42 : decode cX4_init 42 = .ok (.putfield 30, 3) := by decide +kernel
theorem dX4_init_45 : decode cX4_init 45 = .ok (.aload_n 0, 1) := by decide +kernel
theorem dX4_init_46 : decode cX4_init 46 = .ok (.new 34, 3) := by decide +kernel
theorem dX4_init_49 : decode cX4_init 49 = .ok (.dup, 1) := by decide +kernel
theorem dX4_init_50 : decode cX4_init 50 = .ok (.invokespecial 36, 3) := by decide +kernel
theorem dX4_init_53 : decode cX4_init 53 = .ok (.putfield 37, 3) := by decide +kernel
theorem dX4_init_56 : decode cX4_init 56 = .ok (.aload_n 0, 1) := by decide +kernel
theorem dX4_init_57 : decode cX4_init 57 = .ok (.sipush 200, 3) := by decide +kernel
theorem dX4_init_60 : decode cX4_init 60 = .ok (.newarray .int, 2) := by decide +kernel
theorem dX4_init_62 : decode cX4_init 62 = .ok (.putfield 41, 3) := by decide +kernel
theorem dX4_init_65 : decode cX4_init 65 = .ok (.return_, 1) := by decide +kernel
theorem dX4_state_0 : decode cX4_state 0 = .ok (.iload_n 1, 1) := by decide +kernel
theorem dX4_state_1 : decode cX4_state 1 = .ok (.ifCond .lt 10, 3) := by decide +kernel
theorem dX4_state_4 : decode cX4_state 4 = .ok (.iload_n 1, 1) := by decide +kernel
theorem dX4_state_5 : decode cX4_state 5 = .ok (.sipush 256, 3) := by decide +kernel
theorem dX4_state_8 : decode cX4_state 8 = .ok (.if_icmp .lt 13, 3) := by decide +kernel
theorem dX4_state_11 : decode cX4_state 11 = .ok (.new 44, 3) := by decide +kernel
theorem dX4_state_14 : decode cX4_state 14 = .ok (.dup, 1) := by decide +kernel
theorem dX4_state_15 : decode cX4_state 15 = .ok (.ldc 46, 2) := by decide +kernel
theorem dX4_state_17 : decode cX4_state 17 = .ok (.invokespecial 48, 3) := by decide +kernel
theorem dX4_state_20 : decode cX4_state 20 = .ok (.athrow, 1) := by decide +kernel
theorem dX4_state_21 : decode cX4_state 21 = .ok (.aload_n 0, 1) := by decide +kernel
theorem dX4_state_22 : decode cX4_state 22 = .ok (.getfield 10, 3) := by decide +kernel
theorem dX4_state_25 : decode cX4_state 25 = .ok (.getfield 51, 3) := by decide +kernel
theorem dX4_state_28 : decode cX4_state 28 = .ok (.sipush 200, 3) := by decide +kernel
theorem dX4_state_31 : decode cX4_state 31 = .ok (.if_icmp .lt 13, 3) := by decide +kernel
theorem dX4_state_34 : decode cX4_state 34 = .ok (.new 55, 3) := by decide +kernel
theorem dX4_state_37 : decode cX4_state 37 = .ok (.dup, 1) := by decide +kernel
theorem dX4_state_38 : decode cX4_state 38 = .ok (.ldc 57, 2) := by decide +kernel
theorem dX4_state_40 : decode cX4_state 40 = .ok (.invokespecial 59, 3) := by decide +kernel
theorem dX4_state_43 : decode cX4_state 43 = .ok (.athrow, 1) := by decide +kernel
theorem dX4_state_44 : decode cX4_state 44 = .ok (.aload_n 0, 1) := by decide +kernel
theorem dX4_state_45 : decode cX4_state 45 = .ok (.getfield 10, 3) := by decide +kernel
theorem dX4_state_48 : decode cX4_state 48 = .ok (.iload_n 1, 1) := by decide +kernel
theorem dX4_state_49 : decode cX4_state 49 = .ok (.iload_n 2, 1) := by decide +kernel
theorem dX4_state_50 : decode cX4_state 50 = .ok (.invokevirtual 60, 3) := by decide +kernel
theorem dX4_state_53 : decode cX4_state 53 = .ok (.ireturn, 1) := by decide +kernel
theorem dX4_move_0 : decode cX4_move 0 = .ok (.aload_n 0, 1) := by decide +kernel
theorem dX4_move_1 : decode cX4_move 1 = .ok (.getfield 10, 3) := by decide +kernel
theorem dX4_move_4 : decode cX4_move 4 = .ok (.iload_n 1, 1) := by decide +kernel
theorem dX4_move_5 : decode cX4_move 5 = .ok (.invokevirtual 64, 3) := by decide +kernel
theorem dX4_move_8 : decode cX4_move 8 = .ok (.ifCond .eq 14, 3) := by decide +kernel
theorem dX4_move_11 : decode cX4_move 11 = .ok (.aload_n 0, 1) := by decide +kernel
theorem dX4_move_12 : decode cX4_move 12 = .ok (.getfield 10, 3) := by decide +kernel
theorem dX4_move_15 : decode cX4_move 15 = .ok (.iload_n 2, 1) := by decide +kernel
theorem dX4_move_16 : decode cX4_move 16 = .ok (.invokevirtual 64, 3) := by decide +kernel
theorem dX4_move_19 : decode cX4_move 19 = .ok (.ifCond .ne 13, 3) := by decide +kernel
theorem dX4_move_22 : decode cX4_move 22 = .ok (.new 44, 3) := by decide +kernel
theorem dX4_move_25 : decode cX4_move 25 = .ok (.dup, 1) := by decide +kernel
theorem dX4_move_26 : decode cX4_move 26 = .ok (.ldc 68, 2) := by decide +kernel
theorem dX4_move_28 : decode cX4_move 28 = .ok (.invokespecial 48, 3) := by decide +kernel
theorem dX4_move_31 : decode cX4_move 31 = .ok (.athrow, 1) := by decide +kernel
theorem dX4_move_32 : decode cX4_move 32 = .ok (.iload_n 3, 1) := by decide +kernel
theorem dX4_move_33 : decode cX4_move 33 = .ok (.iconst (-1), 1) := by decide +kernel
theorem dX4_move_34 : decode cX4_move 34 = .ok (.if_icmp .eq 20, 3) := by decide +kernel
theorem dX4_move_37 : decode cX4_move 37 = .ok (.iload_n 3, 1) := by decide +kernel
theorem dX4_move_38 : decode cX4_move 38 = .ok (.invokestatic 70, 3) := by decide +kernel
theorem dX4_move_41 : decode cX4_move 41 = .ok (.ifCond .ne 13, 3) := by decide +kernel
theorem dX4_move_44 : decode cX4_move 44 = .ok (.new 44, 3) := by decide +kernel
theorem dX4_move_47 : decode cX4_move 47 = .ok (.dup, 1) := by decide +kernel
theorem dX4_move_48 : decode cX4_move 48 = .ok (.ldc 73, 2) := by decide +kernel
theorem dX4_move_50 : decode cX4_move 50 = .ok (.invokespecial 48, 3) := by decide +kernel
theorem dX4_move_53 : decode cX4_move 53 = .ok (.athrow, 1) := by decide +kernel
theorem dX4_move_54 : decode cX4_move 54 = .ok (.aload_n 0, 1) := by decide +kernel
theorem dX4_move_55 : decode cX4_move 55 = .ok (.getfield 10, 3) := by decide +kernel
theorem dX4_move_58 : decode cX4_move 58 = .ok (.getfield 75, 3) := by decide +kernel
theorem dX4_move_61 : decode cX4_move 61 = .ok (.sipush 600, 3) := by decide +kernel
theorem dX4_move_64 : decode cX4_move 64 = .ok (.if_icmp .lt 13, 3) := by decide +kernel
theorem dX4_move_67 : decode cX4_move 67 = .ok (.new 55, 3) := by decide +kernel
theorem dX4_move_70 : decode cX4_move 70 = .ok (.dup, 1) := by decide +kernel
theorem dX4_move_71 : decode cX4_move 71 = .ok (.ldc 78, 2) := by decide +kernel
theorem dX4_move_73 : decode cX4_move 73 = .ok (.invokespecial 59, 3) := by decide +kernel
theorem dX4_move_76 : decode cX4_move 76 = .ok (.athrow, 1) := by decide +kernel
theorem dX4_move_77 : decode cX4_move 77 = .ok (.aload_n 0, 1) := by decide +kernel
theorem dX4_move_78 : decode cX4_move 78 = .ok (.getfield 10, 3) := by decide +kernel
theorem dX4_move_81 : decode cX4_move 81 = .ok (.iload_n 1, 1) := by decide +kernel
theorem dX4_move_82 : decode cX4_move 82 = .ok (.iload_n 2, 1) := by decide +kernel
theorem dX4_move_83 : decode cX4_move 83 = .ok (.iload_n 3, 1) := by decide +kernel
theorem dX4_move_84 : decode cX4_move 84 = .ok (.invokevirtual 80, 3) := by decide +kernel
theorem dX4_move_87 : decode cX4_move 87 = .ok (.ireturn, 1) := by decide +kernel
theorem dX4_label_0 : decode cX4_label 0 = .ok (.iload_n 1, 1) := by decide +kernel
theorem dX4_label_1 : decode cX4_label 1 = .ok (.invokestatic 70, 3) := by decide +kernel
theorem dX4_label_4 : decode cX4_label 4 = .ok (.ifCond .ne 13, 3) := by decide +kernel
theorem dX4_label_7 : decode cX4_label 7 = .ok (.new 84, 3) := by decide +kernel
theorem dX4_label_10 : decode cX4_label 10 = .ok (.dup, 1) := by decide +kernel
theorem dX4_label_11 : decode cX4_label 11 = .ok (.ldc 73, 2) := by decide +kernel
theorem dX4_label_13 : decode cX4_label 13 = .ok (.invokespecial 86, 3) := by decide +kernel
theorem dX4_label_16 : decode cX4_label 16 = .ok (.athrow, 1) := by decide +kernel
theorem dX4_label_17 : decode cX4_label 17 = .ok (.iload_n 2, 1) := by decide +kernel
theorem dX4_label_18 : decode cX4_label 18 = .ok (.ifCond .eq 23, 3) := by decide +kernel
theorem dX4_label_21 : decode cX4_label 21 = .ok (.iload_n 2, 1) := by decide +kernel
theorem dX4_label_22 : decode cX4_label 22 = .ok (.iconst 1, 1) := by decide +kernel
theorem dX4_label_23 : decode cX4_label 23 = .ok (.if_icmp .eq 18, 3) := by decide +kernel
theorem dX4_label_26 : decode cX4_label 26 = .ok (.iload_n 2, 1) := by decide +kernel
theorem dX4_label_27 : decode cX4_label 27 = .ok (.iconst 2, 1) := by decide +kernel
theorem dX4_label_28 : decode cX4_label 28 = .ok (.if_icmp .eq 13, 3) := by decide +kernel
theorem dX4_label_31 : decode cX4_label 31 = .ok (.new 44, 3) := by decide +kernel
theorem dX4_label_34 : decode cX4_label 34 = .ok (.dup, 1) := by decide +kernel
theorem dX4_label_35 : decode cX4_label 35 = .ok (.ldc 87, 2) := by decide +kernel
theorem dX4_label_37 : decode cX4_label 37 = .ok (.invokespecial 48, 3) := by decide +kernel
theorem dX4_label_40 : decode cX4_label 40 = .ok (.athrow, 1) := by decide +kernel
theorem dX4_label_41 : decode cX4_label 41 = .ok (.aload_n 0, 1) := by decide +kernel
theorem dX4_label_42 : decode cX4_label 42 = .ok (.getfield 16, 3) := by decide +kernel
theorem dX4_label_45 : decode cX4_label 45 = .ok (.iload_n 1, 1) := by decide +kernel
theorem dX4_label_46 : decode cX4_label 46 = .ok (.iaload, 1) := by decide +kernel
theorem dX4_label_47 : decode cX4_label 47 = .ok (.istore_n 3, 1) := by decide +kernel
theorem dX4_label_48 : decode cX4_label 48 = .ok (.aload_n 0, 1) := by decide +kernel
theorem dX4_label_49 : decode cX4_label 49 = .ok (.getfield 16, 3) := by decide +kernel
theorem dX4_label_52 : decode cX4_label 52 = .ok (.iload_n 1, 1) := by decide +kernel
theorem dX4_label_53 : decode cX4_label 53 = .ok (.iload_n 2, 1) := by decide +kernel
theorem dX4_label_54 : decode cX4_label 54 = .ok (.iastore, 1) := by decide +kernel
theorem dX4_label_55 : decode cX4_label 55 = .ok (.iload_n 3, 1) := by decide +kernel
theorem dX4_label_56 : decode cX4_label 56 = .ok (.ireturn, 1) := by decide +kernel
theorem dX4_reached_0 : decode cX4_reached 0 = .ok (.aload_n 0, 1) := by decide +kernel
theorem dX4_reached_1 : decode cX4_reached 1 = .ok (.getfield 23, 3) := by decide +kernel
theorem dX4_reached_4 : decode cX4_reached 4 = .ok (.aload_n 0, 1) := by decide +kernel
theorem dX4_reached_5 : decode cX4_reached 5 = .ok (.getfield 10, 3) := by decide +kernel
theorem dX4_reached_8 : decode cX4_reached 8 = .ok (.invokevirtual 89, 3) := by decide +kernel
theorem dX4_reached_11 : decode cX4_reached 11 = .ok (.aload_n 0, 1) := by decide +kernel
theorem dX4_reached_12 : decode cX4_reached 12 = .ok (.getfield 23, 3) := by decide +kernel
theorem dX4_reached_15 : decode cX4_reached 15 = .ok (.getfield 93, 3) := by decide +kernel
theorem dX4_reached_18 : decode cX4_reached 18 = .ok (.ireturn, 1) := by decide +kernel
theorem dX4_live_0 : decode cX4_live 0 = .ok (.iload_n 1, 1) := by decide +kernel
theorem dX4_live_1 : decode cX4_live 1 = .ok (.invokestatic 96, 3) := by decide +kernel
theorem dX4_live_4 : decode cX4_live 4 = .ok (.aload_n 0, 1) := by decide +kernel
theorem dX4_live_5 : decode cX4_live 5 = .ok (.iload_n 1, 1) := by decide +kernel
theorem dX4_live_6 : decode cX4_live 6 = .ok (.invokevirtual 100, 3) := by decide +kernel
theorem dX4_live_9 : decode cX4_live 9 = .ok (.ireturn, 1) := by decide +kernel
theorem dX4_parts_0 : decode cX4_parts 0 = .ok (.iload_n 1, 1) := by decide +kernel
theorem dX4_parts_1 : decode cX4_parts 1 = .ok (.invokestatic 96, 3) := by decide +kernel
theorem dX4_parts_4 : decode cX4_parts 4 = .ok (.aload_n 0, 1) := by decide +kernel
theorem dX4_parts_5 : decode cX4_parts 5 = .ok (.iload_n 1, 1) := by decide +kernel
theorem dX4_parts_6 : decode cX4_parts 6 = .ok (.invokevirtual 103, 3) := by decide +kernel
theorem dX4_parts_9 : decode cX4_parts 9 = .ok (.aload_n 0, 1) := by decide +kernel
theorem dX4_parts_10 : decode cX4_parts 10 = .ok (.getfield 30, 3) := by decide +kernel
theorem dX4_parts_13 : decode cX4_parts 13 = .ok (.getfield 106, 3) := by decide +kernel
theorem dX4_parts_16 : decode cX4_parts 16 = .ok (.ireturn, 1) := by decide +kernel
theorem dX4_part_0 : decode cX4_part 0 = .ok (.iload_n 1, 1) := by decide +kernel
theorem dX4_part_1 : decode cX4_part 1 = .ok (.invokestatic 96, 3) := by decide +kernel
theorem dX4_part_4 : decode cX4_part 4 = .ok (.aload_n 0, 1) := by decide +kernel
theorem dX4_part_5 : decode cX4_part 5 = .ok (.iload_n 1, 1) := by decide +kernel
theorem dX4_part_6 : decode cX4_part 6 = .ok (.invokevirtual 103, 3) := by decide +kernel
theorem dX4_part_9 : decode cX4_part 9 = .ok (.aload_n 0, 1) := by decide +kernel
theorem dX4_part_10 : decode cX4_part 10 = .ok (.iload_n 2, 1) := by decide +kernel
theorem dX4_part_11 : decode cX4_part 11 = .ok (.invokevirtual 107, 3) := by decide +kernel
theorem dX4_part_14 : decode cX4_part 14 = .ok (.istore 4, 2) := by decide +kernel
theorem dX4_part_16 : decode cX4_part 16 = .ok (.iload 4, 2) := by decide +kernel
theorem dX4_part_18 : decode cX4_part 18 = .ok (.iconst (-1), 1) := by decide +kernel
theorem dX4_part_19 : decode cX4_part 19 = .ok (.if_icmp .ne 7, 3) := by decide +kernel
theorem dX4_part_22 : decode cX4_part 22 = .ok (.iconst (-1), 1) := by decide +kernel
theorem dX4_part_23 : decode cX4_part 23 = .ok (.goto 10, 3) := by decide +kernel
theorem dX4_part_26 : decode cX4_part 26 = .ok (.aload_n 0, 1) := by decide +kernel
theorem dX4_part_27 : decode cX4_part 27 = .ok (.iload 4, 2) := by decide +kernel
theorem dX4_part_29 : decode cX4_part 29 = .ok (.iload_n 3, 1) := by decide +kernel
theorem dX4_part_30 : decode cX4_part 30 = .ok (.invokevirtual 111, 3) := by decide +kernel
theorem dX4_part_33 : decode cX4_part 33 = .ok (.istore 5, 2) := by decide +kernel
theorem dX4_part_35 : decode cX4_part 35 = .ok (.iload 5, 2) := by decide +kernel
theorem dX4_part_37 : decode cX4_part 37 = .ok (.iconst (-1), 1) := by decide +kernel
theorem dX4_part_38 : decode cX4_part 38 = .ok (.if_icmp .ne 13, 3) := by decide +kernel
theorem dX4_part_41 : decode cX4_part 41 = .ok (.new 84, 3) := by decide +kernel
theorem dX4_part_44 : decode cX4_part 44 = .ok (.dup, 1) := by decide +kernel
theorem dX4_part_45 : decode cX4_part 45 = .ok (.ldc 115, 2) := by decide +kernel
theorem dX4_part_47 : decode cX4_part 47 = .ok (.invokespecial 86, 3) := by decide +kernel
theorem dX4_part_50 : decode cX4_part 50 = .ok (.athrow, 1) := by decide +kernel
theorem dX4_part_51 : decode cX4_part 51 = .ok (.iload 5, 2) := by decide +kernel
theorem dX4_part_53 : decode cX4_part 53 = .ok (.ireturn, 1) := by decide +kernel
theorem dX4_dead_0 : decode cX4_dead 0 = .ok (.iload_n 1, 1) := by decide +kernel
theorem dX4_dead_1 : decode cX4_dead 1 = .ok (.invokestatic 96, 3) := by decide +kernel
theorem dX4_dead_4 : decode cX4_dead 4 = .ok (.aload_n 0, 1) := by decide +kernel
theorem dX4_dead_5 : decode cX4_dead 5 = .ok (.iload_n 1, 1) := by decide +kernel
theorem dX4_dead_6 : decode cX4_dead 6 = .ok (.invokevirtual 117, 3) := by decide +kernel
theorem dX4_dead_9 : decode cX4_dead 9 = .ok (.aload_n 0, 1) := by decide +kernel
theorem dX4_dead_10 : decode cX4_dead 10 = .ok (.iload_n 2, 1) := by decide +kernel
theorem dX4_dead_11 : decode cX4_dead 11 = .ok (.invokevirtual 120, 3) := by decide +kernel
theorem dX4_dead_14 : decode cX4_dead 14 = .ok (.istore_n 3, 1) := by decide +kernel
theorem dX4_dead_15 : decode cX4_dead 15 = .ok (.iload_n 3, 1) := by decide +kernel
theorem dX4_dead_16 : decode cX4_dead 16 = .ok (.iconst (-1), 1) := by decide +kernel
theorem dX4_dead_17 : decode cX4_dead 17 = .ok (.if_icmp .ne 13, 3) := by decide +kernel
theorem dX4_dead_20 : decode cX4_dead 20 = .ok (.new 84, 3) := by decide +kernel
theorem dX4_dead_23 : decode cX4_dead 23 = .ok (.dup, 1) := by decide +kernel
theorem dX4_dead_24 : decode cX4_dead 24 = .ok (.ldc 123, 2) := by decide +kernel
theorem dX4_dead_26 : decode cX4_dead 26 = .ok (.invokespecial 86, 3) := by decide +kernel
theorem dX4_dead_29 : decode cX4_dead 29 = .ok (.athrow, 1) := by decide +kernel
theorem dX4_dead_30 : decode cX4_dead 30 = .ok (.iload_n 3, 1) := by decide +kernel
theorem dX4_dead_31 : decode cX4_dead 31 = .ok (.ireturn, 1) := by decide +kernel
theorem dX4_longest_0 : decode cX4_longest 0 = .ok (.iload_n 1, 1) := by decide +kernel
theorem dX4_longest_1 : decode cX4_longest 1 = .ok (.invokestatic 96, 3) := by decide +kernel
theorem dX4_longest_4 : decode cX4_longest 4 = .ok (.aload_n 0, 1) := by decide +kernel
theorem dX4_longest_5 : decode cX4_longest 5 = .ok (.iload_n 1, 1) := by decide +kernel
theorem dX4_longest_6 : decode cX4_longest 6 = .ok (.invokevirtual 125, 3) := by decide +kernel
theorem dX4_longest_9 : decode cX4_longest 9 = .ok (.aload_n 0, 1) := by decide +kernel
theorem dX4_longest_10 : decode cX4_longest 10 = .ok (.getfield 37, 3) := by decide +kernel
theorem dX4_longest_13 : decode cX4_longest 13 = .ok (.aload_n 0, 1) := by decide +kernel
theorem dX4_longest_14 : decode cX4_longest 14 = .ok (.getfield 30, 3) := by decide +kernel
theorem dX4_longest_17 : decode cX4_longest 17 = .ok (.getfield 106, 3) := by decide +kernel
theorem dX4_longest_20 : decode cX4_longest 20 = .ok (.invokevirtual 128, 3) := by decide +kernel
theorem dX4_longest_23 : decode cX4_longest 23 = .ok (.ifCond .le 5, 3) := by decide +kernel
theorem dX4_longest_26 : decode cX4_longest 26 = .ok (.iconst (-1), 1) := by decide +kernel
theorem dX4_longest_27 : decode cX4_longest 27 = .ok (.ireturn, 1) := by decide +kernel
theorem dX4_longest_28 : decode cX4_longest 28 = .ok (.aload_n 0, 1) := by decide +kernel
theorem dX4_longest_29 : decode cX4_longest 29 = .ok (.invokevirtual 131, 3) := by decide +kernel
theorem dX4_longest_32 : decode cX4_longest 32 = .ok (.ireturn, 1) := by decide +kernel
theorem dX4_rank_0 : decode cX4_rank 0 = .ok (.iload_n 1, 1) := by decide +kernel
theorem dX4_rank_1 : decode cX4_rank 1 = .ok (.invokestatic 96, 3) := by decide +kernel
theorem dX4_rank_4 : decode cX4_rank 4 = .ok (.aload_n 0, 1) := by decide +kernel
theorem dX4_rank_5 : decode cX4_rank 5 = .ok (.iload_n 2, 1) := by decide +kernel
theorem dX4_rank_6 : decode cX4_rank 6 = .ok (.invokevirtual 135, 3) := by decide +kernel
theorem dX4_rank_9 : decode cX4_rank 9 = .ok (.aload_n 0, 1) := by decide +kernel
theorem dX4_rank_10 : decode cX4_rank 10 = .ok (.iload_n 1, 1) := by decide +kernel
theorem dX4_rank_11 : decode cX4_rank 11 = .ok (.invokevirtual 125, 3) := by decide +kernel
theorem dX4_rank_14 : decode cX4_rank 14 = .ok (.aload_n 0, 1) := by decide +kernel
theorem dX4_rank_15 : decode cX4_rank 15 = .ok (.getfield 30, 3) := by decide +kernel
theorem dX4_rank_18 : decode cX4_rank 18 = .ok (.getfield 138, 3) := by decide +kernel
theorem dX4_rank_21 : decode cX4_rank 21 = .ok (.iload_n 2, 1) := by decide +kernel
theorem dX4_rank_22 : decode cX4_rank 22 = .ok (.baload, 1) := by decide +kernel
theorem dX4_rank_23 : decode cX4_rank 23 = .ok (.ifCond .eq 20, 3) := by decide +kernel
theorem dX4_rank_26 : decode cX4_rank 26 = .ok (.aload_n 0, 1) := by decide +kernel
theorem dX4_rank_27 : decode cX4_rank 27 = .ok (.getfield 37, 3) := by decide +kernel
theorem dX4_rank_30 : decode cX4_rank 30 = .ok (.aload_n 0, 1) := by decide +kernel
theorem dX4_rank_31 : decode cX4_rank 31 = .ok (.getfield 30, 3) := by decide +kernel
theorem dX4_rank_34 : decode cX4_rank 34 = .ok (.getfield 106, 3) := by decide +kernel
theorem dX4_rank_37 : decode cX4_rank 37 = .ok (.invokevirtual 128, 3) := by decide +kernel
theorem dX4_rank_40 : decode cX4_rank 40 = .ok (.ifCond .le 5, 3) := by decide +kernel
theorem dX4_rank_43 : decode cX4_rank 43 = .ok (.iconst (-1), 1) := by decide +kernel
theorem dX4_rank_44 : decode cX4_rank 44 = .ok (.ireturn, 1) := by decide +kernel
theorem dX4_rank_45 : decode cX4_rank 45 = .ok (.aload_n 0, 1) := by decide +kernel
theorem dX4_rank_46 : decode cX4_rank 46 = .ok (.invokevirtual 131, 3) := by decide +kernel
theorem dX4_rank_49 : decode cX4_rank 49 = .ok (.pop, 1) := by decide +kernel
theorem dX4_rank_50 : decode cX4_rank 50 = .ok (.aload_n 0, 1) := by decide +kernel
theorem dX4_rank_51 : decode cX4_rank 51 = .ok (.getfield 41, 3) := by decide +kernel
theorem dX4_rank_54 : decode cX4_rank 54 = .ok (.iload_n 2, 1) := by decide +kernel
theorem dX4_rank_55 : decode cX4_rank 55 = .ok (.iaload, 1) := by decide +kernel
theorem dX4_rank_56 : decode cX4_rank 56 = .ok (.ireturn, 1) := by decide +kernel
theorem dX4_row_0 : decode cX4_row 0 = .ok (.aload_n 0, 1) := by decide +kernel
theorem dX4_row_1 : decode cX4_row 1 = .ok (.iload_n 1, 1) := by decide +kernel
theorem dX4_row_2 : decode cX4_row 2 = .ok (.invokevirtual 135, 3) := by decide +kernel
theorem dX4_row_5 : decode cX4_row 5 = .ok (.iload_n 2, 1) := by decide +kernel
theorem dX4_row_6 : decode cX4_row 6 = .ok (.ifCond .ge 13, 3) := by decide +kernel
theorem dX4_row_9 : decode cX4_row 9 = .ok (.new 84, 3) := by decide +kernel
theorem dX4_row_12 : decode cX4_row 12 = .ok (.dup, 1) := by decide +kernel
theorem dX4_row_13 : decode cX4_row 13 = .ok (.ldc 142, 2) := by decide +kernel
theorem dX4_row_15 : decode cX4_row 15 = .ok (.invokespecial 86, 3) := by decide +kernel
theorem dX4_row_18 : decode cX4_row 18 = .ok (.athrow, 1) := by decide +kernel
theorem dX4_row_19 : decode cX4_row 19 = .ok (.aload_n 0, 1) := by decide +kernel
theorem dX4_row_20 : decode cX4_row 20 = .ok (.getfield 23, 3) := by decide +kernel
theorem dX4_row_23 : decode cX4_row 23 = .ok (.aload_n 0, 1) := by decide +kernel
theorem dX4_row_24 : decode cX4_row 24 = .ok (.getfield 10, 3) := by decide +kernel
theorem dX4_row_27 : decode cX4_row 27 = .ok (.invokevirtual 89, 3) := by decide +kernel
theorem dX4_row_30 : decode cX4_row 30 = .ok (.aload_n 0, 1) := by decide +kernel
theorem dX4_row_31 : decode cX4_row 31 = .ok (.getfield 23, 3) := by decide +kernel
theorem dX4_row_34 : decode cX4_row 34 = .ok (.aload_n 0, 1) := by decide +kernel
theorem dX4_row_35 : decode cX4_row 35 = .ok (.getfield 10, 3) := by decide +kernel
theorem dX4_row_38 : decode cX4_row 38 = .ok (.iload_n 1, 1) := by decide +kernel
theorem dX4_row_39 : decode cX4_row 39 = .ok (.iload_n 2, 1) := by decide +kernel
theorem dX4_row_40 : decode cX4_row 40 = .ok (.invokevirtual 144, 3) := by decide +kernel
theorem dX4_row_43 : decode cX4_row 43 = .ok (.ireturn, 1) := by decide +kernel
theorem dX4_largest_0 : decode cX4_largest 0 = .ok (.iload_n 1, 1) := by decide +kernel
theorem dX4_largest_1 : decode cX4_largest 1 = .ok (.invokestatic 96, 3) := by decide +kernel
theorem dX4_largest_4 : decode cX4_largest 4 = .ok (.aload_n 0, 1) := by decide +kernel
theorem dX4_largest_5 : decode cX4_largest 5 = .ok (.iload_n 1, 1) := by decide +kernel
theorem dX4_largest_6 : decode cX4_largest 6 = .ok (.invokevirtual 125, 3) := by decide +kernel
theorem dX4_largest_9 : decode cX4_largest 9 = .ok (.aload_n 0, 1) := by decide +kernel
theorem dX4_largest_10 : decode cX4_largest 10 = .ok (.getfield 37, 3) := by decide +kernel
theorem dX4_largest_13 : decode cX4_largest 13 = .ok (.aload_n 0, 1) := by decide +kernel
theorem dX4_largest_14 : decode cX4_largest 14 = .ok (.getfield 30, 3) := by decide +kernel
theorem dX4_largest_17 : decode cX4_largest 17 = .ok (.getfield 106, 3) := by decide +kernel
theorem dX4_largest_20 : decode cX4_largest 20 = .ok (.invokevirtual 128, 3) := by decide +kernel
theorem dX4_largest_23 : decode cX4_largest 23 = .ok (.ireturn, 1) := by decide +kernel
theorem dX4_count_0 : decode cX4_count 0 = .ok (.iload_n 1, 1) := by decide +kernel
theorem dX4_count_1 : decode cX4_count 1 = .ok (.tableswitch 86 0 5 #[39, 47, 55, 63, 72, 81], 39) := by decide +kernel
theorem dX4_count_40 : decode cX4_count 40 = .ok (.aload_n 0, 1) := by decide +kernel
theorem dX4_count_41 : decode cX4_count 41 = .ok (.getfield 10, 3) := by decide +kernel
theorem dX4_count_44 : decode cX4_count 44 = .ok (.getfield 51, 3) := by decide +kernel
theorem dX4_count_47 : decode cX4_count 47 = .ok (.ireturn, 1) := by decide +kernel
theorem dX4_count_48 : decode cX4_count 48 = .ok (.aload_n 0, 1) := by decide +kernel
theorem dX4_count_49 : decode cX4_count 49 = .ok (.getfield 10, 3) := by decide +kernel
theorem dX4_count_52 : decode cX4_count 52 = .ok (.getfield 75, 3) := by decide +kernel
theorem dX4_count_55 : decode cX4_count 55 = .ok (.ireturn, 1) := by decide +kernel
theorem dX4_count_56 : decode cX4_count 56 = .ok (.aload_n 0, 1) := by decide +kernel
theorem dX4_count_57 : decode cX4_count 57 = .ok (.getfield 10, 3) := by decide +kernel
theorem dX4_count_60 : decode cX4_count 60 = .ok (.getfield 148, 3) := by decide +kernel
theorem dX4_count_63 : decode cX4_count 63 = .ok (.ireturn, 1) := by decide +kernel
theorem dX4_count_64 : decode cX4_count 64 = .ok (.aload_n 0, 1) := by decide +kernel
theorem dX4_count_65 : decode cX4_count 65 = .ok (.iconst 1, 1) := by decide +kernel
theorem dX4_count_66 : decode cX4_count 66 = .ok (.invokevirtual 151, 3) := by decide +kernel
theorem dX4_count_69 : decode cX4_count 69 = .ok (.invokestatic 154, 3) := by decide +kernel
theorem dX4_count_72 : decode cX4_count 72 = .ok (.ireturn, 1) := by decide +kernel
theorem dX4_count_73 : decode cX4_count 73 = .ok (.aload_n 0, 1) := by decide +kernel
theorem dX4_count_74 : decode cX4_count 74 = .ok (.iconst 2, 1) := by decide +kernel
theorem dX4_count_75 : decode cX4_count 75 = .ok (.invokevirtual 151, 3) := by decide +kernel
theorem dX4_count_78 : decode cX4_count 78 = .ok (.invokestatic 154, 3) := by decide +kernel
theorem dX4_count_81 : decode cX4_count 81 = .ok (.ireturn, 1) := by decide +kernel
theorem dX4_count_82 : decode cX4_count 82 = .ok (.aload_n 0, 1) := by decide +kernel
theorem dX4_count_83 : decode cX4_count 83 = .ok (.invokevirtual 159, 3) := by decide +kernel
theorem dX4_count_86 : decode cX4_count 86 = .ok (.ireturn, 1) := by decide +kernel
theorem dX4_count_87 : decode cX4_count 87 = .ok (.iconst (-1), 1) := by decide +kernel
theorem dX4_count_88 : decode cX4_count 88 = .ok (.ireturn, 1) := by decide +kernel
theorem dX4_refuseWrongAsk_0 : decode cX4_refuseWrongAsk 0 = .ok (.iload_n 0, 1) := by decide +kernel
theorem dX4_refuseWrongAsk_1 : decode cX4_refuseWrongAsk 1 = .ok (.ifCond .lt 9, 3) := by decide +kernel
theorem dX4_refuseWrongAsk_4 : decode cX4_refuseWrongAsk 4 = .ok (.iload_n 0, 1) := by decide +kernel
theorem dX4_refuseWrongAsk_5 : decode cX4_refuseWrongAsk 5 = .ok (.bipush 8, 2) := by decide +kernel
theorem dX4_refuseWrongAsk_7 : decode cX4_refuseWrongAsk 7 = .ok (.if_icmp .lt 13, 3) := by decide +kernel
theorem dX4_refuseWrongAsk_10 : decode cX4_refuseWrongAsk 10 = .ok (.new 44, 3) := by decide +kernel
theorem dX4_refuseWrongAsk_13 : decode cX4_refuseWrongAsk 13 = .ok (.dup, 1) := by decide +kernel
theorem dX4_refuseWrongAsk_14 : decode cX4_refuseWrongAsk 14 = .ok (.ldc 162, 2) := by decide +kernel
theorem dX4_refuseWrongAsk_16 : decode cX4_refuseWrongAsk 16 = .ok (.invokespecial 48, 3) := by decide +kernel
theorem dX4_refuseWrongAsk_19 : decode cX4_refuseWrongAsk 19 = .ok (.athrow, 1) := by decide +kernel
theorem dX4_refuseWrongAsk_20 : decode cX4_refuseWrongAsk 20 = .ok (.return_, 1) := by decide +kernel
theorem dX4_refuseWrongState_0 : decode cX4_refuseWrongState 0 = .ok (.aload_n 0, 1) := by decide +kernel
theorem dX4_refuseWrongState_1 : decode cX4_refuseWrongState 1 = .ok (.getfield 10, 3) := by decide +kernel
theorem dX4_refuseWrongState_4 : decode cX4_refuseWrongState 4 = .ok (.iload_n 1, 1) := by decide +kernel
theorem dX4_refuseWrongState_5 : decode cX4_refuseWrongState 5 = .ok (.invokevirtual 64, 3) := by decide +kernel
theorem dX4_refuseWrongState_8 : decode cX4_refuseWrongState 8 = .ok (.ifCond .ne 13, 3) := by decide +kernel
theorem dX4_refuseWrongState_11 : decode cX4_refuseWrongState 11 = .ok (.new 84, 3) := by decide +kernel
theorem dX4_refuseWrongState_14 : decode cX4_refuseWrongState 14 = .ok (.dup, 1) := by decide +kernel
theorem dX4_refuseWrongState_15 : decode cX4_refuseWrongState 15 = .ok (.ldc 68, 2) := by decide +kernel
theorem dX4_refuseWrongState_17 : decode cX4_refuseWrongState 17 = .ok (.invokespecial 86, 3) := by decide +kernel
theorem dX4_refuseWrongState_20 : decode cX4_refuseWrongState 20 = .ok (.athrow, 1) := by decide +kernel
theorem dX4_refuseWrongState_21 : decode cX4_refuseWrongState 21 = .ok (.return_, 1) := by decide +kernel
theorem dX4_isLabel_0 : decode cX4_isLabel 0 = .ok (.iload_n 0, 1) := by decide +kernel
theorem dX4_isLabel_1 : decode cX4_isLabel 1 = .ok (.ifCond .lt 13, 3) := by decide +kernel
theorem dX4_isLabel_4 : decode cX4_isLabel 4 = .ok (.iload_n 0, 1) := by decide +kernel
theorem dX4_isLabel_5 : decode cX4_isLabel 5 = .ok (.bipush 16, 2) := by decide +kernel
theorem dX4_isLabel_7 : decode cX4_isLabel 7 = .ok (.if_icmp .ge 7, 3) := by decide +kernel
theorem dX4_isLabel_10 : decode cX4_isLabel 10 = .ok (.iconst 1, 1) := by decide +kernel
theorem dX4_isLabel_11 : decode cX4_isLabel 11 = .ok (.goto 4, 3) := by decide +kernel
theorem dX4_isLabel_14 : decode cX4_isLabel 14 = .ok (.iconst 0, 1) := by decide +kernel
theorem dX4_isLabel_15 : decode cX4_isLabel 15 = .ok (.ireturn, 1) := by decide +kernel
theorem dX4_labelsOfKind_0 : decode cX4_labelsOfKind 0 = .ok (.iconst 0, 1) := by decide +kernel
theorem dX4_labelsOfKind_1 : decode cX4_labelsOfKind 1 = .ok (.istore_n 2, 1) := by decide +kernel
theorem dX4_labelsOfKind_2 : decode cX4_labelsOfKind 2 = .ok (.iconst 0, 1) := by decide +kernel
theorem dX4_labelsOfKind_3 : decode cX4_labelsOfKind 3 = .ok (.istore_n 3, 1) := by decide +kernel
theorem dX4_labelsOfKind_4 : decode cX4_labelsOfKind 4 = .ok (.iload_n 3, 1) := by decide +kernel
theorem dX4_labelsOfKind_5 : decode cX4_labelsOfKind 5 = .ok (.bipush 16, 2) := by decide +kernel
theorem dX4_labelsOfKind_7 : decode cX4_labelsOfKind 7 = .ok (.if_icmp .ge 25, 3) := by decide +kernel
theorem dX4_labelsOfKind_10 : decode cX4_labelsOfKind 10 = .ok (.aload_n 0, 1) := by decide +kernel
theorem dX4_labelsOfKind_11 : decode cX4_labelsOfKind 11 = .ok (.getfield 16, 3) := by decide +kernel
theorem dX4_labelsOfKind_14 : decode cX4_labelsOfKind 14 = .ok (.iload_n 3, 1) := by decide +kernel
theorem dX4_labelsOfKind_15 : decode cX4_labelsOfKind 15 = .ok (.iaload, 1) := by decide +kernel
theorem dX4_labelsOfKind_16 : decode cX4_labelsOfKind 16 = .ok (.iload_n 1, 1) := by decide +kernel
theorem dX4_labelsOfKind_17 : decode cX4_labelsOfKind 17 = .ok (.if_icmp .ne 9, 3) := by decide +kernel
theorem dX4_labelsOfKind_20 : decode cX4_labelsOfKind 20 = .ok (.iload_n 2, 1) := by decide +kernel
theorem dX4_labelsOfKind_21 : decode cX4_labelsOfKind 21 = .ok (.iconst 1, 1) := by decide +kernel
theorem dX4_labelsOfKind_22 : decode cX4_labelsOfKind 22 = .ok (.iload_n 3, 1) := by decide +kernel
theorem dX4_labelsOfKind_23 : decode cX4_labelsOfKind 23 = .ok (.ishl, 1) := by decide +kernel
theorem dX4_labelsOfKind_24 : decode cX4_labelsOfKind 24 = .ok (.ior, 1) := by decide +kernel
theorem dX4_labelsOfKind_25 : decode cX4_labelsOfKind 25 = .ok (.istore_n 2, 1) := by decide +kernel
theorem dX4_labelsOfKind_26 : decode cX4_labelsOfKind 26 = .ok (.iinc 3 1, 3) := by decide +kernel
theorem dX4_labelsOfKind_29 : decode cX4_labelsOfKind 29 = .ok (.goto (-25), 3) := by decide +kernel
theorem dX4_labelsOfKind_32 : decode cX4_labelsOfKind 32 = .ok (.iload_n 2, 1) := by decide +kernel
theorem dX4_labelsOfKind_33 : decode cX4_labelsOfKind 33 = .ok (.ireturn, 1) := by decide +kernel
theorem dX4_liveAsks_0 : decode cX4_liveAsks 0 = .ok (.iconst 0, 1) := by decide +kernel
theorem dX4_liveAsks_1 : decode cX4_liveAsks 1 = .ok (.istore_n 1, 1) := by decide +kernel
theorem dX4_liveAsks_2 : decode cX4_liveAsks 2 = .ok (.iconst 0, 1) := by decide +kernel
theorem dX4_liveAsks_3 : decode cX4_liveAsks 3 = .ok (.istore_n 2, 1) := by decide +kernel
theorem dX4_liveAsks_4 : decode cX4_liveAsks 4 = .ok (.iload_n 2, 1) := by decide +kernel
theorem dX4_liveAsks_5 : decode cX4_liveAsks 5 = .ok (.bipush 8, 2) := by decide +kernel
theorem dX4_liveAsks_7 : decode cX4_liveAsks 7 = .ok (.if_icmp .ge 20, 3) := by decide +kernel
theorem dX4_liveAsks_10 : decode cX4_liveAsks 10 = .ok (.aload_n 0, 1) := by decide +kernel
theorem dX4_liveAsks_11 : decode cX4_liveAsks 11 = .ok (.iload_n 2, 1) := by decide +kernel
theorem dX4_liveAsks_12 : decode cX4_liveAsks 12 = .ok (.invokevirtual 100, 3) := by decide +kernel
theorem dX4_liveAsks_15 : decode cX4_liveAsks 15 = .ok (.ifCond .eq 6, 3) := by decide +kernel
theorem dX4_liveAsks_18 : decode cX4_liveAsks 18 = .ok (.iinc 1 1, 3) := by decide +kernel
theorem dX4_liveAsks_21 : decode cX4_liveAsks 21 = .ok (.iinc 2 1, 3) := by decide +kernel
theorem dX4_liveAsks_24 : decode cX4_liveAsks 24 = .ok (.goto (-20), 3) := by decide +kernel
theorem dX4_liveAsks_27 : decode cX4_liveAsks 27 = .ok (.iload_n 1, 1) := by decide +kernel
theorem dX4_liveAsks_28 : decode cX4_liveAsks 28 = .ok (.ireturn, 1) := by decide +kernel
theorem dX4_alwaysServed_0 : decode cX4_alwaysServed 0 = .ok (.aload_n 0, 1) := by decide +kernel
theorem dX4_alwaysServed_1 : decode cX4_alwaysServed 1 = .ok (.iload_n 1, 1) := by decide +kernel
theorem dX4_alwaysServed_2 : decode cX4_alwaysServed 2 = .ok (.invokevirtual 117, 3) := by decide +kernel
theorem dX4_alwaysServed_5 : decode cX4_alwaysServed 5 = .ok (.aload_n 0, 1) := by decide +kernel
theorem dX4_alwaysServed_6 : decode cX4_alwaysServed 6 = .ok (.iconst 0, 1) := by decide +kernel
theorem dX4_alwaysServed_7 : decode cX4_alwaysServed 7 = .ok (.invokevirtual 120, 3) := by decide +kernel
theorem dX4_alwaysServed_10 : decode cX4_alwaysServed 10 = .ok (.iconst (-1), 1) := by decide +kernel
theorem dX4_alwaysServed_11 : decode cX4_alwaysServed 11 = .ok (.if_icmp .eq 5, 3) := by decide +kernel
theorem dX4_alwaysServed_14 : decode cX4_alwaysServed 14 = .ok (.iconst 0, 1) := by decide +kernel
theorem dX4_alwaysServed_15 : decode cX4_alwaysServed 15 = .ok (.ireturn, 1) := by decide +kernel
theorem dX4_alwaysServed_16 : decode cX4_alwaysServed 16 = .ok (.aload_n 0, 1) := by decide +kernel
theorem dX4_alwaysServed_17 : decode cX4_alwaysServed 17 = .ok (.invokevirtual 164, 3) := by decide +kernel
theorem dX4_alwaysServed_20 : decode cX4_alwaysServed 20 = .ok (.aload_n 0, 1) := by decide +kernel
theorem dX4_alwaysServed_21 : decode cX4_alwaysServed 21 = .ok (.getfield 30, 3) := by decide +kernel
theorem dX4_alwaysServed_24 : decode cX4_alwaysServed 24 = .ok (.getfield 106, 3) := by decide +kernel
theorem dX4_alwaysServed_27 : decode cX4_alwaysServed 27 = .ok (.ifCond .ne 7, 3) := by decide +kernel
theorem dX4_alwaysServed_30 : decode cX4_alwaysServed 30 = .ok (.iconst 1, 1) := by decide +kernel
theorem dX4_alwaysServed_31 : decode cX4_alwaysServed 31 = .ok (.goto 4, 3) := by decide +kernel
theorem dX4_alwaysServed_34 : decode cX4_alwaysServed 34 = .ok (.iconst 0, 1) := by decide +kernel
theorem dX4_alwaysServed_35 : decode cX4_alwaysServed 35 = .ok (.ireturn, 1) := by decide +kernel
theorem dX4_chooseStatesOf_0 : decode cX4_chooseStatesOf 0 = .ok (.aload_n 0, 1) := by decide +kernel
theorem dX4_chooseStatesOf_1 : decode cX4_chooseStatesOf 1 = .ok (.getfield 23, 3) := by decide +kernel
theorem dX4_chooseStatesOf_4 : decode cX4_chooseStatesOf 4 = .ok (.aload_n 0, 1) := by decide +kernel
theorem dX4_chooseStatesOf_5 : decode cX4_chooseStatesOf 5 = .ok (.getfield 10, 3) := by decide +kernel
theorem dX4_chooseStatesOf_8 : decode cX4_chooseStatesOf 8 = .ok (.invokevirtual 89, 3) := by decide +kernel
theorem dX4_chooseStatesOf_11 : decode cX4_chooseStatesOf 11 = .ok (.iconst 0, 1) := by decide +kernel
theorem dX4_chooseStatesOf_12 : decode cX4_chooseStatesOf 12 = .ok (.istore_n 2, 1) := by decide +kernel
theorem dX4_chooseStatesOf_13 : decode cX4_chooseStatesOf 13 = .ok (.iload_n 2, 1) := by decide +kernel
theorem dX4_chooseStatesOf_14 : decode cX4_chooseStatesOf 14 = .ok (.aload_n 0, 1) := by decide +kernel
theorem dX4_chooseStatesOf_15 : decode cX4_chooseStatesOf 15 = .ok (.getfield 10, 3) := by decide +kernel
theorem dX4_chooseStatesOf_18 : decode cX4_chooseStatesOf 18 = .ok (.getfield 51, 3) := by decide +kernel
theorem dX4_chooseStatesOf_21 : decode cX4_chooseStatesOf 21 = .ok (.if_icmp .ge 53, 3) := by decide +kernel
theorem dX4_chooseStatesOf_24 : decode cX4_chooseStatesOf 24 = .ok (.aload_n 0, 1) := by decide +kernel
theorem dX4_chooseStatesOf_25 : decode cX4_chooseStatesOf 25 = .ok (.getfield 30, 3) := by decide +kernel
theorem dX4_chooseStatesOf_28 : decode cX4_chooseStatesOf 28 = .ok (.getfield 138, 3) := by decide +kernel
theorem dX4_chooseStatesOf_31 : decode cX4_chooseStatesOf 31 = .ok (.iload_n 2, 1) := by decide +kernel
theorem dX4_chooseStatesOf_32 : decode cX4_chooseStatesOf 32 = .ok (.aload_n 0, 1) := by decide +kernel
theorem dX4_chooseStatesOf_33 : decode cX4_chooseStatesOf 33 = .ok (.getfield 23, 3) := by decide +kernel
theorem dX4_chooseStatesOf_36 : decode cX4_chooseStatesOf 36 = .ok (.getfield 167, 3) := by decide +kernel
theorem dX4_chooseStatesOf_39 : decode cX4_chooseStatesOf 39 = .ok (.iload_n 2, 1) := by decide +kernel
theorem dX4_chooseStatesOf_40 : decode cX4_chooseStatesOf 40 = .ok (.iaload, 1) := by decide +kernel
theorem dX4_chooseStatesOf_41 : decode cX4_chooseStatesOf 41 = .ok (.iconst (-1), 1) := by decide +kernel
theorem dX4_chooseStatesOf_42 : decode cX4_chooseStatesOf 42 = .ok (.if_icmp .eq 24, 3) := by decide +kernel
theorem dX4_chooseStatesOf_45 : decode cX4_chooseStatesOf 45 = .ok (.aload_n 0, 1) := by decide +kernel
theorem dX4_chooseStatesOf_46 : decode cX4_chooseStatesOf 46 = .ok (.getfield 10, 3) := by decide +kernel
theorem dX4_chooseStatesOf_49 : decode cX4_chooseStatesOf 49 = .ok (.getfield 170, 3) := by decide +kernel
theorem dX4_chooseStatesOf_52 : decode cX4_chooseStatesOf 52 = .ok (.iload_n 2, 1) := by decide +kernel
theorem dX4_chooseStatesOf_53 : decode cX4_chooseStatesOf 53 = .ok (.iaload, 1) := by decide +kernel
theorem dX4_chooseStatesOf_54 : decode cX4_chooseStatesOf 54 = .ok (.iload_n 1, 1) := by decide +kernel
theorem dX4_chooseStatesOf_55 : decode cX4_chooseStatesOf 55 = .ok (.ishr, 1) := by decide +kernel
theorem dX4_chooseStatesOf_56 : decode cX4_chooseStatesOf 56 = .ok (.iconst 1, 1) := by decide +kernel
theorem dX4_chooseStatesOf_57 : decode cX4_chooseStatesOf 57 = .ok (.iand, 1) := by decide +kernel
theorem dX4_chooseStatesOf_58 : decode cX4_chooseStatesOf 58 = .ok (.iconst 1, 1) := by decide +kernel
theorem dX4_chooseStatesOf_59 : decode cX4_chooseStatesOf 59 = .ok (.if_icmp .ne 7, 3) := by decide +kernel
theorem dX4_chooseStatesOf_62 : decode cX4_chooseStatesOf 62 = .ok (.iconst 1, 1) := by decide +kernel
theorem dX4_chooseStatesOf_63 : decode cX4_chooseStatesOf 63 = .ok (.goto 4, 3) := by decide +kernel
theorem dX4_chooseStatesOf_66 : decode cX4_chooseStatesOf 66 = .ok (.iconst 0, 1) := by decide +kernel
theorem dX4_chooseStatesOf_67 : decode cX4_chooseStatesOf 67 = .ok (.bastore, 1) := by decide +kernel
theorem dX4_chooseStatesOf_68 : decode cX4_chooseStatesOf 68 = .ok (.iinc 2 1, 3) := by decide +kernel
theorem dX4_chooseStatesOf_71 : decode cX4_chooseStatesOf 71 = .ok (.goto (-58), 3) := by decide +kernel
theorem dX4_chooseStatesOf_74 : decode cX4_chooseStatesOf 74 = .ok (.return_, 1) := by decide +kernel
theorem dX4_findParts_0 : decode cX4_findParts 0 = .ok (.aload_n 0, 1) := by decide +kernel
theorem dX4_findParts_1 : decode cX4_findParts 1 = .ok (.iload_n 1, 1) := by decide +kernel
theorem dX4_findParts_2 : decode cX4_findParts 2 = .ok (.invokevirtual 117, 3) := by decide +kernel
theorem dX4_findParts_5 : decode cX4_findParts 5 = .ok (.aload_n 0, 1) := by decide +kernel
theorem dX4_findParts_6 : decode cX4_findParts 6 = .ok (.getfield 30, 3) := by decide +kernel
theorem dX4_findParts_9 : decode cX4_findParts 9 = .ok (.aload_n 0, 1) := by decide +kernel
theorem dX4_findParts_10 : decode cX4_findParts 10 = .ok (.getfield 10, 3) := by decide +kernel
theorem dX4_findParts_13 : decode cX4_findParts 13 = .ok (.invokevirtual 173, 3) := by decide +kernel
theorem dX4_findParts_16 : decode cX4_findParts 16 = .ok (.aload_n 0, 1) := by decide +kernel
theorem dX4_findParts_17 : decode cX4_findParts 17 = .ok (.getfield 37, 3) := by decide +kernel
theorem dX4_findParts_20 : decode cX4_findParts 20 = .ok (.aload_n 0, 1) := by decide +kernel
theorem dX4_findParts_21 : decode cX4_findParts 21 = .ok (.getfield 10, 3) := by decide +kernel
theorem dX4_findParts_24 : decode cX4_findParts 24 = .ok (.aload_n 0, 1) := by decide +kernel
theorem dX4_findParts_25 : decode cX4_findParts 25 = .ok (.getfield 30, 3) := by decide +kernel
theorem dX4_findParts_28 : decode cX4_findParts 28 = .ok (.invokevirtual 176, 3) := by decide +kernel
theorem dX4_findParts_31 : decode cX4_findParts 31 = .ok (.return_, 1) := by decide +kernel
theorem dX4_findFairParts_0 : decode cX4_findFairParts 0 = .ok (.aload_n 0, 1) := by decide +kernel
theorem dX4_findFairParts_1 : decode cX4_findFairParts 1 = .ok (.iload_n 1, 1) := by decide +kernel
theorem dX4_findFairParts_2 : decode cX4_findFairParts 2 = .ok (.invokevirtual 117, 3) := by decide +kernel
theorem dX4_findFairParts_5 : decode cX4_findFairParts 5 = .ok (.aload_n 0, 1) := by decide +kernel
theorem dX4_findFairParts_6 : decode cX4_findFairParts 6 = .ok (.invokevirtual 164, 3) := by decide +kernel
theorem dX4_findFairParts_9 : decode cX4_findFairParts 9 = .ok (.return_, 1) := by decide +kernel
theorem dX4_keepFairStates_0 : decode cX4_keepFairStates 0 = .ok (.aload_n 0, 1) := by decide +kernel
theorem dX4_keepFairStates_1 : decode cX4_keepFairStates 1 = .ok (.iconst 1, 1) := by decide +kernel
theorem dX4_keepFairStates_2 : decode cX4_keepFairStates 2 = .ok (.invokevirtual 151, 3) := by decide +kernel
theorem dX4_keepFairStates_5 : decode cX4_keepFairStates 5 = .ok (.istore_n 1, 1) := by decide +kernel
theorem dX4_keepFairStates_6 : decode cX4_keepFairStates 6 = .ok (.aload_n 0, 1) := by decide +kernel
theorem dX4_keepFairStates_7 : decode cX4_keepFairStates 7 = .ok (.iconst 2, 1) := by decide +kernel
theorem dX4_keepFairStates_8 : decode cX4_keepFairStates 8 = .ok (.invokevirtual 151, 3) := by decide +kernel
theorem dX4_keepFairStates_11 : decode cX4_keepFairStates 11 = .ok (.istore_n 2, 1) := by decide +kernel
theorem dX4_keepFairStates_12 : decode cX4_keepFairStates 12 = .ok (.iconst 1, 1) := by decide +kernel
theorem dX4_keepFairStates_13 : decode cX4_keepFairStates 13 = .ok (.istore_n 3, 1) := by decide +kernel
theorem dX4_keepFairStates_14 : decode cX4_keepFairStates 14 = .ok (.iconst 0, 1) := by decide +kernel
theorem dX4_keepFairStates_15 : decode cX4_keepFairStates 15 = .ok (.istore 4, 2) := by decide +kernel
theorem dX4_keepFairStates_17 : decode cX4_keepFairStates 17 = .ok (.iload 4, 2) := by decide +kernel
theorem dX4_keepFairStates_19 : decode cX4_keepFairStates 19 = .ok (.aload_n 0, 1) := by decide +kernel
theorem dX4_keepFairStates_20 : decode cX4_keepFairStates 20 = .ok (.getfield 10, 3) := by decide +kernel
theorem dX4_keepFairStates_23 : decode cX4_keepFairStates 23 = .ok (.getfield 51, 3) := by decide +kernel
theorem dX4_keepFairStates_26 : decode cX4_keepFairStates 26 = .ok (.if_icmp .gt 46, 3) := by decide +kernel
theorem dX4_keepFairStates_29 : decode cX4_keepFairStates 29 = .ok (.iload_n 3, 1) := by decide +kernel
theorem dX4_keepFairStates_30 : decode cX4_keepFairStates 30 = .ok (.ifCond .eq 42, 3) := by decide +kernel
theorem dX4_keepFairStates_33 : decode cX4_keepFairStates 33 = .ok (.aload_n 0, 1) := by decide +kernel
theorem dX4_keepFairStates_34 : decode cX4_keepFairStates 34 = .ok (.getfield 30, 3) := by decide +kernel
theorem dX4_keepFairStates_37 : decode cX4_keepFairStates 37 = .ok (.aload_n 0, 1) := by decide +kernel
theorem dX4_keepFairStates_38 : decode cX4_keepFairStates 38 = .ok (.getfield 10, 3) := by decide +kernel
theorem dX4_keepFairStates_41 : decode cX4_keepFairStates 41 = .ok (.invokevirtual 173, 3) := by decide +kernel
theorem dX4_keepFairStates_44 : decode cX4_keepFairStates 44 = .ok (.aload_n 0, 1) := by decide +kernel
theorem dX4_keepFairStates_45 : decode cX4_keepFairStates 45 = .ok (.getfield 37, 3) := by decide +kernel
theorem dX4_keepFairStates_48 : decode cX4_keepFairStates 48 = .ok (.aload_n 0, 1) := by decide +kernel
theorem dX4_keepFairStates_49 : decode cX4_keepFairStates 49 = .ok (.getfield 10, 3) := by decide +kernel
theorem dX4_keepFairStates_52 : decode cX4_keepFairStates 52 = .ok (.aload_n 0, 1) := by decide +kernel
theorem dX4_keepFairStates_53 : decode cX4_keepFairStates 53 = .ok (.getfield 30, 3) := by decide +kernel
theorem dX4_keepFairStates_56 : decode cX4_keepFairStates 56 = .ok (.invokevirtual 176, 3) := by decide +kernel
theorem dX4_keepFairStates_59 : decode cX4_keepFairStates 59 = .ok (.aload_n 0, 1) := by decide +kernel
theorem dX4_keepFairStates_60 : decode cX4_keepFairStates 60 = .ok (.iload_n 1, 1) := by decide +kernel
theorem dX4_keepFairStates_61 : decode cX4_keepFairStates 61 = .ok (.iload_n 2, 1) := by decide +kernel
theorem dX4_keepFairStates_62 : decode cX4_keepFairStates 62 = .ok (.invokevirtual 180, 3) := by decide +kernel
theorem dX4_keepFairStates_65 : decode cX4_keepFairStates 65 = .ok (.istore_n 3, 1) := by decide +kernel
theorem dX4_keepFairStates_66 : decode cX4_keepFairStates 66 = .ok (.iinc 4 1, 3) := by decide +kernel
theorem dX4_keepFairStates_69 : decode cX4_keepFairStates 69 = .ok (.goto (-52), 3) := by decide +kernel
theorem dX4_keepFairStates_72 : decode cX4_keepFairStates 72 = .ok (.return_, 1) := by decide +kernel
theorem dX4_dropUnfairStates_0 : decode cX4_dropUnfairStates 0 = .ok (.iconst 0, 1) := by decide +kernel
theorem dX4_dropUnfairStates_1 : decode cX4_dropUnfairStates 1 = .ok (.istore_n 3, 1) := by decide +kernel
theorem dX4_dropUnfairStates_2 : decode cX4_dropUnfairStates 2 = .ok (.iconst 0, 1) := by decide +kernel
theorem dX4_dropUnfairStates_3 : decode cX4_dropUnfairStates 3 = .ok (.istore 4, 2) := by decide +kernel
theorem dX4_dropUnfairStates_5 : decode cX4_dropUnfairStates 5 = .ok (.iload 4, 2) := by decide +kernel
theorem dX4_dropUnfairStates_7 : decode cX4_dropUnfairStates 7 = .ok (.aload_n 0, 1) := by decide +kernel
theorem dX4_dropUnfairStates_8 : decode cX4_dropUnfairStates 8 = .ok (.getfield 10, 3) := by decide +kernel
theorem dX4_dropUnfairStates_11 : decode cX4_dropUnfairStates 11 = .ok (.getfield 51, 3) := by decide +kernel
theorem dX4_dropUnfairStates_14 : decode cX4_dropUnfairStates 14 = .ok (.if_icmp .ge 46, 3) := by decide +kernel
theorem dX4_dropUnfairStates_17 : decode cX4_dropUnfairStates 17 = .ok (.aload_n 0, 1) := by decide +kernel
theorem dX4_dropUnfairStates_18 : decode cX4_dropUnfairStates 18 = .ok (.getfield 30, 3) := by decide +kernel
theorem dX4_dropUnfairStates_21 : decode cX4_dropUnfairStates 21 = .ok (.getfield 138, 3) := by decide +kernel
theorem dX4_dropUnfairStates_24 : decode cX4_dropUnfairStates 24 = .ok (.iload 4, 2) := by decide +kernel
theorem dX4_dropUnfairStates_26 : decode cX4_dropUnfairStates 26 = .ok (.baload, 1) := by decide +kernel
theorem dX4_dropUnfairStates_27 : decode cX4_dropUnfairStates 27 = .ok (.ifCond .eq 27, 3) := by decide +kernel
theorem dX4_dropUnfairStates_30 : decode cX4_dropUnfairStates 30 = .ok (.aload_n 0, 1) := by decide +kernel
theorem dX4_dropUnfairStates_31 : decode cX4_dropUnfairStates 31 = .ok (.iload 4, 2) := by decide +kernel
theorem dX4_dropUnfairStates_33 : decode cX4_dropUnfairStates 33 = .ok (.iload_n 1, 1) := by decide +kernel
theorem dX4_dropUnfairStates_34 : decode cX4_dropUnfairStates 34 = .ok (.iload_n 2, 1) := by decide +kernel
theorem dX4_dropUnfairStates_35 : decode cX4_dropUnfairStates 35 = .ok (.invokevirtual 184, 3) := by decide +kernel
theorem dX4_dropUnfairStates_38 : decode cX4_dropUnfairStates 38 = .ok (.ifCond .eq 16, 3) := by decide +kernel
theorem dX4_dropUnfairStates_41 : decode cX4_dropUnfairStates 41 = .ok (.aload_n 0, 1) := by decide +kernel
theorem dX4_dropUnfairStates_42 : decode cX4_dropUnfairStates 42 = .ok (.getfield 30, 3) := by decide +kernel
theorem dX4_dropUnfairStates_45 : decode cX4_dropUnfairStates 45 = .ok (.getfield 138, 3) := by decide +kernel
theorem dX4_dropUnfairStates_48 : decode cX4_dropUnfairStates 48 = .ok (.iload 4, 2) := by decide +kernel
theorem dX4_dropUnfairStates_50 : decode cX4_dropUnfairStates 50 = .ok (.iconst 0, 1) := by decide +kernel
theorem dX4_dropUnfairStates_51 : decode cX4_dropUnfairStates 51 = .ok (.bastore, 1) := by decide +kernel
theorem dX4_dropUnfairStates_52 : decode cX4_dropUnfairStates 52 = .ok (.iconst 1, 1) := by decide +kernel
theorem dX4_dropUnfairStates_53 : decode cX4_dropUnfairStates 53 = .ok (.istore_n 3, 1) := by decide +kernel
theorem dX4_dropUnfairStates_54 : decode cX4_dropUnfairStates 54 = .ok (.iinc 4 1, 3) := by decide +kernel
theorem dX4_dropUnfairStates_57 : decode cX4_dropUnfairStates 57 = .ok (.goto (-52), 3) := by decide +kernel
theorem dX4_dropUnfairStates_60 : decode cX4_dropUnfairStates 60 = .ok (.iload_n 3, 1) := by decide +kernel
theorem dX4_dropUnfairStates_61 : decode cX4_dropUnfairStates 61 = .ok (.ireturn, 1) := by decide +kernel
theorem dX4_isUnfair_0 : decode cX4_isUnfair 0 = .ok (.aload_n 0, 1) := by decide +kernel
theorem dX4_isUnfair_1 : decode cX4_isUnfair 1 = .ok (.getfield 30, 3) := by decide +kernel
theorem dX4_isUnfair_4 : decode cX4_isUnfair 4 = .ok (.getfield 188, 3) := by decide +kernel
theorem dX4_isUnfair_7 : decode cX4_isUnfair 7 = .ok (.iload_n 1, 1) := by decide +kernel
theorem dX4_isUnfair_8 : decode cX4_isUnfair 8 = .ok (.iaload, 1) := by decide +kernel
theorem dX4_isUnfair_9 : decode cX4_isUnfair 9 = .ok (.istore 4, 2) := by decide +kernel
theorem dX4_isUnfair_11 : decode cX4_isUnfair 11 = .ok (.aload_n 0, 1) := by decide +kernel
theorem dX4_isUnfair_12 : decode cX4_isUnfair 12 = .ok (.getfield 37, 3) := by decide +kernel
theorem dX4_isUnfair_15 : decode cX4_isUnfair 15 = .ok (.getfield 191, 3) := by decide +kernel
theorem dX4_isUnfair_18 : decode cX4_isUnfair 18 = .ok (.iload 4, 2) := by decide +kernel
theorem dX4_isUnfair_20 : decode cX4_isUnfair 20 = .ok (.iaload, 1) := by decide +kernel
theorem dX4_isUnfair_21 : decode cX4_isUnfair 21 = .ok (.iconst (-1), 1) := by decide +kernel
theorem dX4_isUnfair_22 : decode cX4_isUnfair 22 = .ok (.ixor, 1) := by decide +kernel
theorem dX4_isUnfair_23 : decode cX4_isUnfair 23 = .ok (.istore 5, 2) := by decide +kernel
theorem dX4_isUnfair_25 : decode cX4_isUnfair 25 = .ok (.aload_n 0, 1) := by decide +kernel
theorem dX4_isUnfair_26 : decode cX4_isUnfair 26 = .ok (.getfield 37, 3) := by decide +kernel
theorem dX4_isUnfair_29 : decode cX4_isUnfair 29 = .ok (.getfield 194, 3) := by decide +kernel
theorem dX4_isUnfair_32 : decode cX4_isUnfair 32 = .ok (.iload 4, 2) := by decide +kernel
theorem dX4_isUnfair_34 : decode cX4_isUnfair 34 = .ok (.baload, 1) := by decide +kernel
theorem dX4_isUnfair_35 : decode cX4_isUnfair 35 = .ok (.ifCond .eq 38, 3) := by decide +kernel
theorem dX4_isUnfair_38 : decode cX4_isUnfair 38 = .ok (.iload_n 2, 1) := by decide +kernel
theorem dX4_isUnfair_39 : decode cX4_isUnfair 39 = .ok (.aload_n 0, 1) := by decide +kernel
theorem dX4_isUnfair_40 : decode cX4_isUnfair 40 = .ok (.getfield 37, 3) := by decide +kernel
theorem dX4_isUnfair_43 : decode cX4_isUnfair 43 = .ok (.getfield 197, 3) := by decide +kernel
theorem dX4_isUnfair_46 : decode cX4_isUnfair 46 = .ok (.iload 4, 2) := by decide +kernel
theorem dX4_isUnfair_48 : decode cX4_isUnfair 48 = .ok (.iaload, 1) := by decide +kernel
theorem dX4_isUnfair_49 : decode cX4_isUnfair 49 = .ok (.iand, 1) := by decide +kernel
theorem dX4_isUnfair_50 : decode cX4_isUnfair 50 = .ok (.iload 5, 2) := by decide +kernel
theorem dX4_isUnfair_52 : decode cX4_isUnfair 52 = .ok (.iand, 1) := by decide +kernel
theorem dX4_isUnfair_53 : decode cX4_isUnfair 53 = .ok (.ifCond .ne 20, 3) := by decide +kernel
theorem dX4_isUnfair_56 : decode cX4_isUnfair 56 = .ok (.iload_n 3, 1) := by decide +kernel
theorem dX4_isUnfair_57 : decode cX4_isUnfair 57 = .ok (.aload_n 0, 1) := by decide +kernel
theorem dX4_isUnfair_58 : decode cX4_isUnfair 58 = .ok (.getfield 10, 3) := by decide +kernel
theorem dX4_isUnfair_61 : decode cX4_isUnfair 61 = .ok (.getfield 200, 3) := by decide +kernel
theorem dX4_isUnfair_64 : decode cX4_isUnfair 64 = .ok (.iload_n 1, 1) := by decide +kernel
theorem dX4_isUnfair_65 : decode cX4_isUnfair 65 = .ok (.iaload, 1) := by decide +kernel
theorem dX4_isUnfair_66 : decode cX4_isUnfair 66 = .ok (.iand, 1) := by decide +kernel
theorem dX4_isUnfair_67 : decode cX4_isUnfair 67 = .ok (.iload 5, 2) := by decide +kernel
theorem dX4_isUnfair_69 : decode cX4_isUnfair 69 = .ok (.iand, 1) := by decide +kernel
theorem dX4_isUnfair_70 : decode cX4_isUnfair 70 = .ok (.ifCond .eq 7, 3) := by decide +kernel
theorem dX4_isUnfair_73 : decode cX4_isUnfair 73 = .ok (.iconst 1, 1) := by decide +kernel
theorem dX4_isUnfair_74 : decode cX4_isUnfair 74 = .ok (.goto 4, 3) := by decide +kernel
theorem dX4_isUnfair_77 : decode cX4_isUnfair 77 = .ok (.iconst 0, 1) := by decide +kernel
theorem dX4_isUnfair_78 : decode cX4_isUnfair 78 = .ok (.ireturn, 1) := by decide +kernel
theorem dX4_knotByLowestState_0 : decode cX4_knotByLowestState 0 = .ok (.iconst 0, 1) := by decide +kernel
theorem dX4_knotByLowestState_1 : decode cX4_knotByLowestState 1 = .ok (.istore_n 2, 1) := by decide +kernel
theorem dX4_knotByLowestState_2 : decode cX4_knotByLowestState 2 = .ok (.iconst 0, 1) := by decide +kernel
theorem dX4_knotByLowestState_3 : decode cX4_knotByLowestState 3 = .ok (.istore_n 3, 1) := by decide +kernel
theorem dX4_knotByLowestState_4 : decode cX4_knotByLowestState 4 = .ok (.iload_n 3, 1) := by decide +kernel
theorem dX4_knotByLowestState_5 : decode cX4_knotByLowestState 5 = .ok (.aload_n 0, 1) := by decide +kernel
theorem dX4_knotByLowestState_6 : decode cX4_knotByLowestState 6 = .ok (.getfield 10, 3) := by decide +kernel
theorem dX4_knotByLowestState_9 : decode cX4_knotByLowestState 9 = .ok (.getfield 51, 3) := by decide +kernel
theorem dX4_knotByLowestState_12 : decode cX4_knotByLowestState 12 = .ok (.if_icmp .ge 60, 3) := by decide +kernel
theorem dX4_knotByLowestState_15 : decode cX4_knotByLowestState 15 = .ok (.aload_n 0, 1) := by decide +kernel
theorem dX4_knotByLowestState_16 : decode cX4_knotByLowestState 16 = .ok (.getfield 30, 3) := by decide +kernel
theorem dX4_knotByLowestState_19 : decode cX4_knotByLowestState 19 = .ok (.getfield 138, 3) := by decide +kernel
theorem dX4_knotByLowestState_22 : decode cX4_knotByLowestState 22 = .ok (.iload_n 3, 1) := by decide +kernel
theorem dX4_knotByLowestState_23 : decode cX4_knotByLowestState 23 = .ok (.baload, 1) := by decide +kernel
theorem dX4_knotByLowestState_24 : decode cX4_knotByLowestState 24 = .ok (.ifCond .eq 42, 3) := by decide +kernel
theorem dX4_knotByLowestState_27 : decode cX4_knotByLowestState 27 = .ok (.aload_n 0, 1) := by decide +kernel
theorem dX4_knotByLowestState_28 : decode cX4_knotByLowestState 28 = .ok (.getfield 37, 3) := by decide +kernel
theorem dX4_knotByLowestState_31 : decode cX4_knotByLowestState 31 = .ok (.getfield 203, 3) := by decide +kernel
theorem dX4_knotByLowestState_34 : decode cX4_knotByLowestState 34 = .ok (.aload_n 0, 1) := by decide +kernel
theorem dX4_knotByLowestState_35 : decode cX4_knotByLowestState 35 = .ok (.getfield 30, 3) := by decide +kernel
theorem dX4_knotByLowestState_38 : decode cX4_knotByLowestState 38 = .ok (.getfield 188, 3) := by decide +kernel
theorem dX4_knotByLowestState_41 : decode cX4_knotByLowestState 41 = .ok (.iload_n 3, 1) := by decide +kernel
theorem dX4_knotByLowestState_42 : decode cX4_knotByLowestState 42 = .ok (.iaload, 1) := by decide +kernel
theorem dX4_knotByLowestState_43 : decode cX4_knotByLowestState 43 = .ok (.iaload, 1) := by decide +kernel
theorem dX4_knotByLowestState_44 : decode cX4_knotByLowestState 44 = .ok (.iload_n 3, 1) := by decide +kernel
theorem dX4_knotByLowestState_45 : decode cX4_knotByLowestState 45 = .ok (.if_icmp .ne 21, 3) := by decide +kernel
theorem dX4_knotByLowestState_48 : decode cX4_knotByLowestState 48 = .ok (.iload_n 2, 1) := by decide +kernel
theorem dX4_knotByLowestState_49 : decode cX4_knotByLowestState 49 = .ok (.iload_n 1, 1) := by decide +kernel
theorem dX4_knotByLowestState_50 : decode cX4_knotByLowestState 50 = .ok (.if_icmp .ne 13, 3) := by decide +kernel
theorem dX4_knotByLowestState_53 : decode cX4_knotByLowestState 53 = .ok (.aload_n 0, 1) := by decide +kernel
theorem dX4_knotByLowestState_54 : decode cX4_knotByLowestState 54 = .ok (.getfield 30, 3) := by decide +kernel
theorem dX4_knotByLowestState_57 : decode cX4_knotByLowestState 57 = .ok (.getfield 188, 3) := by decide +kernel
theorem dX4_knotByLowestState_60 : decode cX4_knotByLowestState 60 = .ok (.iload_n 3, 1) := by decide +kernel
theorem dX4_knotByLowestState_61 : decode cX4_knotByLowestState 61 = .ok (.iaload, 1) := by decide +kernel
theorem dX4_knotByLowestState_62 : decode cX4_knotByLowestState 62 = .ok (.ireturn, 1) := by decide +kernel
theorem dX4_knotByLowestState_63 : decode cX4_knotByLowestState 63 = .ok (.iinc 2 1, 3) := by decide +kernel
theorem dX4_knotByLowestState_66 : decode cX4_knotByLowestState 66 = .ok (.iinc 3 1, 3) := by decide +kernel
theorem dX4_knotByLowestState_69 : decode cX4_knotByLowestState 69 = .ok (.goto (-65), 3) := by decide +kernel
theorem dX4_knotByLowestState_72 : decode cX4_knotByLowestState 72 = .ok (.iconst (-1), 1) := by decide +kernel
theorem dX4_knotByLowestState_73 : decode cX4_knotByLowestState 73 = .ok (.ireturn, 1) := by decide +kernel
theorem dX4_stateOfKnot_0 : decode cX4_stateOfKnot 0 = .ok (.iconst 0, 1) := by decide +kernel
theorem dX4_stateOfKnot_1 : decode cX4_stateOfKnot 1 = .ok (.istore_n 3, 1) := by decide +kernel
theorem dX4_stateOfKnot_2 : decode cX4_stateOfKnot 2 = .ok (.iconst 0, 1) := by decide +kernel
theorem dX4_stateOfKnot_3 : decode cX4_stateOfKnot 3 = .ok (.istore 4, 2) := by decide +kernel
theorem dX4_stateOfKnot_5 : decode cX4_stateOfKnot 5 = .ok (.iload 4, 2) := by decide +kernel
theorem dX4_stateOfKnot_7 : decode cX4_stateOfKnot 7 = .ok (.aload_n 0, 1) := by decide +kernel
theorem dX4_stateOfKnot_8 : decode cX4_stateOfKnot 8 = .ok (.getfield 10, 3) := by decide +kernel
theorem dX4_stateOfKnot_11 : decode cX4_stateOfKnot 11 = .ok (.getfield 51, 3) := by decide +kernel
theorem dX4_stateOfKnot_14 : decode cX4_stateOfKnot 14 = .ok (.if_icmp .ge 47, 3) := by decide +kernel
theorem dX4_stateOfKnot_17 : decode cX4_stateOfKnot 17 = .ok (.aload_n 0, 1) := by decide +kernel
theorem dX4_stateOfKnot_18 : decode cX4_stateOfKnot 18 = .ok (.getfield 30, 3) := by decide +kernel
theorem dX4_stateOfKnot_21 : decode cX4_stateOfKnot 21 = .ok (.getfield 138, 3) := by decide +kernel
theorem dX4_stateOfKnot_24 : decode cX4_stateOfKnot 24 = .ok (.iload 4, 2) := by decide +kernel
theorem dX4_stateOfKnot_26 : decode cX4_stateOfKnot 26 = .ok (.baload, 1) := by decide +kernel
theorem dX4_stateOfKnot_27 : decode cX4_stateOfKnot 27 = .ok (.ifCond .eq 28, 3) := by decide +kernel
theorem dX4_stateOfKnot_30 : decode cX4_stateOfKnot 30 = .ok (.aload_n 0, 1) := by decide +kernel
theorem dX4_stateOfKnot_31 : decode cX4_stateOfKnot 31 = .ok (.getfield 30, 3) := by decide +kernel
theorem dX4_stateOfKnot_34 : decode cX4_stateOfKnot 34 = .ok (.getfield 188, 3) := by decide +kernel
theorem dX4_stateOfKnot_37 : decode cX4_stateOfKnot 37 = .ok (.iload 4, 2) := by decide +kernel
theorem dX4_stateOfKnot_39 : decode cX4_stateOfKnot 39 = .ok (.iaload, 1) := by decide +kernel
theorem dX4_stateOfKnot_40 : decode cX4_stateOfKnot 40 = .ok (.iload_n 1, 1) := by decide +kernel
theorem dX4_stateOfKnot_41 : decode cX4_stateOfKnot 41 = .ok (.if_icmp .ne 14, 3) := by decide +kernel
theorem dX4_stateOfKnot_44 : decode cX4_stateOfKnot 44 = .ok (.iload_n 3, 1) := by decide +kernel
theorem dX4_stateOfKnot_45 : decode cX4_stateOfKnot 45 = .ok (.iload_n 2, 1) := by decide +kernel
theorem dX4_stateOfKnot_46 : decode cX4_stateOfKnot 46 = .ok (.if_icmp .ne 6, 3) := by decide +kernel
theorem dX4_stateOfKnot_49 : decode cX4_stateOfKnot 49 = .ok (.iload 4, 2) := by decide +kernel
theorem dX4_stateOfKnot_51 : decode cX4_stateOfKnot 51 = .ok (.ireturn, 1) := by decide +kernel
theorem dX4_stateOfKnot_52 : decode cX4_stateOfKnot 52 = .ok (.iinc 3 1, 3) := by decide +kernel
theorem dX4_stateOfKnot_55 : decode cX4_stateOfKnot 55 = .ok (.iinc 4 1, 3) := by decide +kernel
theorem dX4_stateOfKnot_58 : decode cX4_stateOfKnot 58 = .ok (.goto (-53), 3) := by decide +kernel
theorem dX4_stateOfKnot_61 : decode cX4_stateOfKnot 61 = .ok (.iconst (-1), 1) := by decide +kernel
theorem dX4_stateOfKnot_62 : decode cX4_stateOfKnot 62 = .ok (.ireturn, 1) := by decide +kernel
theorem dX4_deadEnd_0 : decode cX4_deadEnd 0 = .ok (.iconst 0, 1) := by decide +kernel
theorem dX4_deadEnd_1 : decode cX4_deadEnd 1 = .ok (.istore_n 2, 1) := by decide +kernel
theorem dX4_deadEnd_2 : decode cX4_deadEnd 2 = .ok (.iconst 0, 1) := by decide +kernel
theorem dX4_deadEnd_3 : decode cX4_deadEnd 3 = .ok (.istore_n 3, 1) := by decide +kernel
theorem dX4_deadEnd_4 : decode cX4_deadEnd 4 = .ok (.iload_n 3, 1) := by decide +kernel
theorem dX4_deadEnd_5 : decode cX4_deadEnd 5 = .ok (.aload_n 0, 1) := by decide +kernel
theorem dX4_deadEnd_6 : decode cX4_deadEnd 6 = .ok (.getfield 10, 3) := by decide +kernel
theorem dX4_deadEnd_9 : decode cX4_deadEnd 9 = .ok (.getfield 51, 3) := by decide +kernel
theorem dX4_deadEnd_12 : decode cX4_deadEnd 12 = .ok (.if_icmp .ge 42, 3) := by decide +kernel
theorem dX4_deadEnd_15 : decode cX4_deadEnd 15 = .ok (.aload_n 0, 1) := by decide +kernel
theorem dX4_deadEnd_16 : decode cX4_deadEnd 16 = .ok (.getfield 30, 3) := by decide +kernel
theorem dX4_deadEnd_19 : decode cX4_deadEnd 19 = .ok (.getfield 138, 3) := by decide +kernel
theorem dX4_deadEnd_22 : decode cX4_deadEnd 22 = .ok (.iload_n 3, 1) := by decide +kernel
theorem dX4_deadEnd_23 : decode cX4_deadEnd 23 = .ok (.baload, 1) := by decide +kernel
theorem dX4_deadEnd_24 : decode cX4_deadEnd 24 = .ok (.ifCond .eq 24, 3) := by decide +kernel
theorem dX4_deadEnd_27 : decode cX4_deadEnd 27 = .ok (.aload_n 0, 1) := by decide +kernel
theorem dX4_deadEnd_28 : decode cX4_deadEnd 28 = .ok (.getfield 10, 3) := by decide +kernel
theorem dX4_deadEnd_31 : decode cX4_deadEnd 31 = .ok (.iload_n 3, 1) := by decide +kernel
theorem dX4_deadEnd_32 : decode cX4_deadEnd 32 = .ok (.invokevirtual 206, 3) := by decide +kernel
theorem dX4_deadEnd_35 : decode cX4_deadEnd 35 = .ok (.ifCond .eq 13, 3) := by decide +kernel
theorem dX4_deadEnd_38 : decode cX4_deadEnd 38 = .ok (.iload_n 2, 1) := by decide +kernel
theorem dX4_deadEnd_39 : decode cX4_deadEnd 39 = .ok (.iload_n 1, 1) := by decide +kernel
theorem dX4_deadEnd_40 : decode cX4_deadEnd 40 = .ok (.if_icmp .ne 5, 3) := by decide +kernel
theorem dX4_deadEnd_43 : decode cX4_deadEnd 43 = .ok (.iload_n 3, 1) := by decide +kernel
theorem dX4_deadEnd_44 : decode cX4_deadEnd 44 = .ok (.ireturn, 1) := by decide +kernel
theorem dX4_deadEnd_45 : decode cX4_deadEnd 45 = .ok (.iinc 2 1, 3) := by decide +kernel
theorem dX4_deadEnd_48 : decode cX4_deadEnd 48 = .ok (.iinc 3 1, 3) := by decide +kernel
theorem dX4_deadEnd_51 : decode cX4_deadEnd 51 = .ok (.goto (-47), 3) := by decide +kernel
theorem dX4_deadEnd_54 : decode cX4_deadEnd 54 = .ok (.iconst (-1), 1) := by decide +kernel
theorem dX4_deadEnd_55 : decode cX4_deadEnd 55 = .ok (.ireturn, 1) := by decide +kernel
theorem dX4_fillRanks_0 : decode cX4_fillRanks 0 = .ok (.iconst 0, 1) := by decide +kernel
theorem dX4_fillRanks_1 : decode cX4_fillRanks 1 = .ok (.istore_n 1, 1) := by decide +kernel
theorem dX4_fillRanks_2 : decode cX4_fillRanks 2 = .ok (.iconst 0, 1) := by decide +kernel
theorem dX4_fillRanks_3 : decode cX4_fillRanks 3 = .ok (.istore_n 2, 1) := by decide +kernel
theorem dX4_fillRanks_4 : decode cX4_fillRanks 4 = .ok (.iload_n 2, 1) := by decide +kernel
theorem dX4_fillRanks_5 : decode cX4_fillRanks 5 = .ok (.aload_n 0, 1) := by decide +kernel
theorem dX4_fillRanks_6 : decode cX4_fillRanks 6 = .ok (.getfield 30, 3) := by decide +kernel
theorem dX4_fillRanks_9 : decode cX4_fillRanks 9 = .ok (.getfield 209, 3) := by decide +kernel
theorem dX4_fillRanks_12 : decode cX4_fillRanks 12 = .ok (.if_icmp .ge 47, 3) := by decide +kernel
theorem dX4_fillRanks_15 : decode cX4_fillRanks 15 = .ok (.aload_n 0, 1) := by decide +kernel
theorem dX4_fillRanks_16 : decode cX4_fillRanks 16 = .ok (.getfield 30, 3) := by decide +kernel
theorem dX4_fillRanks_19 : decode cX4_fillRanks 19 = .ok (.getfield 212, 3) := by decide +kernel
theorem dX4_fillRanks_22 : decode cX4_fillRanks 22 = .ok (.iload_n 2, 1) := by decide +kernel
theorem dX4_fillRanks_23 : decode cX4_fillRanks 23 = .ok (.iaload, 1) := by decide +kernel
theorem dX4_fillRanks_24 : decode cX4_fillRanks 24 = .ok (.istore_n 3, 1) := by decide +kernel
theorem dX4_fillRanks_25 : decode cX4_fillRanks 25 = .ok (.aload_n 0, 1) := by decide +kernel
theorem dX4_fillRanks_26 : decode cX4_fillRanks 26 = .ok (.getfield 41, 3) := by decide +kernel
theorem dX4_fillRanks_29 : decode cX4_fillRanks 29 = .ok (.iload_n 3, 1) := by decide +kernel
theorem dX4_fillRanks_30 : decode cX4_fillRanks 30 = .ok (.aload_n 0, 1) := by decide +kernel
theorem dX4_fillRanks_31 : decode cX4_fillRanks 31 = .ok (.iload_n 3, 1) := by decide +kernel
theorem dX4_fillRanks_32 : decode cX4_fillRanks 32 = .ok (.invokevirtual 215, 3) := by decide +kernel
theorem dX4_fillRanks_35 : decode cX4_fillRanks 35 = .ok (.iastore, 1) := by decide +kernel
theorem dX4_fillRanks_36 : decode cX4_fillRanks 36 = .ok (.aload_n 0, 1) := by decide +kernel
theorem dX4_fillRanks_37 : decode cX4_fillRanks 37 = .ok (.getfield 41, 3) := by decide +kernel
theorem dX4_fillRanks_40 : decode cX4_fillRanks 40 = .ok (.iload_n 3, 1) := by decide +kernel
theorem dX4_fillRanks_41 : decode cX4_fillRanks 41 = .ok (.iaload, 1) := by decide +kernel
theorem dX4_fillRanks_42 : decode cX4_fillRanks 42 = .ok (.iload_n 1, 1) := by decide +kernel
theorem dX4_fillRanks_43 : decode cX4_fillRanks 43 = .ok (.if_icmp .le 10, 3) := by decide +kernel
theorem dX4_fillRanks_46 : decode cX4_fillRanks 46 = .ok (.aload_n 0, 1) := by decide +kernel
theorem dX4_fillRanks_47 : decode cX4_fillRanks 47 = .ok (.getfield 41, 3) := by decide +kernel
theorem dX4_fillRanks_50 : decode cX4_fillRanks 50 = .ok (.iload_n 3, 1) := by decide +kernel
theorem dX4_fillRanks_51 : decode cX4_fillRanks 51 = .ok (.iaload, 1) := by decide +kernel
theorem dX4_fillRanks_52 : decode cX4_fillRanks 52 = .ok (.istore_n 1, 1) := by decide +kernel
theorem dX4_fillRanks_53 : decode cX4_fillRanks 53 = .ok (.iinc 2 1, 3) := by decide +kernel
theorem dX4_fillRanks_56 : decode cX4_fillRanks 56 = .ok (.goto (-52), 3) := by decide +kernel
theorem dX4_fillRanks_59 : decode cX4_fillRanks 59 = .ok (.iload_n 1, 1) := by decide +kernel
