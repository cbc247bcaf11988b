theorem dX5_isTaken_24 : decode cX5_isTaken 24 = .ok (.iaload, 1) := by decide +kernel
theorem dX5_isTaken_25 : decode cX5_isTaken 25 = .ok (.iload_n 1, 1) := by decide +kernel
theorem dX5_isTaken_26 : decode cX5_isTaken 26 = .ok (.if_icmp .ne 39, 3) := by decide +kernel
theorem dX5_isTaken_29 : decode cX5_isTaken 29 = .ok (.aload_n 0, 1) := by decide +kernel
theorem dX5_isTaken_30 : decode cX5_isTaken 30 = .ok (.getfield 67, 3) := by decide +kernel
theorem dX5_isTaken_33 : decode cX5_isTaken 33 = .ok (.aload_n 0, 1) := by decide +kernel
theorem dX5_isTaken_34 : decode cX5_isTaken 34 = .ok (.getfield 13, 3) := by decide +kernel
theorem dX5_isTaken_37 : decode cX5_isTaken 37 = .ok (.iload 4, 2) := by decide +kernel
theorem dX5_isTaken_39 : decode cX5_isTaken 39 = .ok (.iaload, 1) := by decide +kernel
theorem dX5_isTaken_40 : decode cX5_isTaken 40 = .ok (.iaload, 1) := by decide +kernel
theorem dX5_isTaken_41 : decode cX5_isTaken 41 = .ok (.iload_n 2, 1) := by decide +kernel
theorem dX5_isTaken_42 : decode cX5_isTaken 42 = .ok (.if_icmp .ne 23, 3) := by decide +kernel
theorem dX5_isTaken_45 : decode cX5_isTaken 45 = .ok (.aload_n 0, 1) := by decide +kernel
theorem dX5_isTaken_46 : decode cX5_isTaken 46 = .ok (.getfield 67, 3) := by decide +kernel
theorem dX5_isTaken_49 : decode cX5_isTaken 49 = .ok (.aload_n 0, 1) := by decide +kernel
theorem dX5_isTaken_50 : decode cX5_isTaken 50 = .ok (.getfield 16, 3) := by decide +kernel
theorem dX5_isTaken_53 : decode cX5_isTaken 53 = .ok (.iload 4, 2) := by decide +kernel
theorem dX5_isTaken_55 : decode cX5_isTaken 55 = .ok (.iaload, 1) := by decide +kernel
theorem dX5_isTaken_56 : decode cX5_isTaken 56 = .ok (.iaload, 1) := by decide +kernel
theorem dX5_isTaken_57 : decode cX5_isTaken 57 = .ok (.iload_n 2, 1) := by decide +kernel
theorem dX5_isTaken_58 : decode cX5_isTaken 58 = .ok (.if_icmp .ne 7, 3) := by decide +kernel
theorem dX5_isTaken_61 : decode cX5_isTaken 61 = .ok (.iconst 1, 1) := by decide +kernel
theorem dX5_isTaken_62 : decode cX5_isTaken 62 = .ok (.goto 4, 3) := by decide +kernel
theorem dX5_isTaken_65 : decode cX5_isTaken 65 = .ok (.iconst 0, 1) := by decide +kernel
theorem dX5_isTaken_66 : decode cX5_isTaken 66 = .ok (.istore_n 3, 1) := by decide +kernel
theorem dX5_isTaken_67 : decode cX5_isTaken 67 = .ok (.iinc 4 1, 3) := by decide +kernel
theorem dX5_isTaken_70 : decode cX5_isTaken 70 = .ok (.goto (-65), 3) := by decide +kernel
theorem dX5_isTaken_73 : decode cX5_isTaken 73 = .ok (.iload_n 3, 1) := by decide +kernel
theorem dX5_isTaken_74 : decode cX5_isTaken 74 = .ok (.ireturn, 1) := by decide +kernel
theorem dX5_takeAway_0 : decode cX5_takeAway 0 = .ok (.aload_n 0, 1) := by decide +kernel
theorem dX5_takeAway_1 : decode cX5_takeAway 1 = .ok (.getfield 22, 3) := by decide +kernel
theorem dX5_takeAway_4 : decode cX5_takeAway 4 = .ok (.iload_n 1, 1) := by decide +kernel
theorem dX5_takeAway_5 : decode cX5_takeAway 5 = .ok (.iaload, 1) := by decide +kernel
theorem dX5_takeAway_6 : decode cX5_takeAway 6 = .ok (.ifCond .eq 12, 3) := by decide +kernel
theorem dX5_takeAway_9 : decode cX5_takeAway 9 = .ok (.aload_n 0, 1) := by decide +kernel
theorem dX5_takeAway_10 : decode cX5_takeAway 10 = .ok (.iload_n 1, 1) := by decide +kernel
theorem dX5_takeAway_11 : decode cX5_takeAway 11 = .ok (.iload_n 2, 1) := by decide +kernel
theorem dX5_takeAway_12 : decode cX5_takeAway 12 = .ok (.invokevirtual 110, 3) := by decide +kernel
theorem dX5_takeAway_15 : decode cX5_takeAway 15 = .ok (.ifCond .eq 5, 3) := by decide +kernel
theorem dX5_takeAway_18 : decode cX5_takeAway 18 = .ok (.iconst 0, 1) := by decide +kernel
theorem dX5_takeAway_19 : decode cX5_takeAway 19 = .ok (.ireturn, 1) := by decide +kernel
theorem dX5_takeAway_20 : decode cX5_takeAway 20 = .ok (.iconst 1, 1) := by decide +kernel
theorem dX5_takeAway_21 : decode cX5_takeAway 21 = .ok (.istore_n 3, 1) := by decide +kernel
theorem dX5_takeAway_22 : decode cX5_takeAway 22 = .ok (.iconst 0, 1) := by decide +kernel
theorem dX5_takeAway_23 : decode cX5_takeAway 23 = .ok (.istore 4, 2) := by decide +kernel
theorem dX5_takeAway_25 : decode cX5_takeAway 25 = .ok (.iconst 0, 1) := by decide +kernel
theorem dX5_takeAway_26 : decode cX5_takeAway 26 = .ok (.istore 5, 2) := by decide +kernel
theorem dX5_takeAway_28 : decode cX5_takeAway 28 = .ok (.iload 5, 2) := by decide +kernel
theorem dX5_takeAway_30 : decode cX5_takeAway 30 = .ok (.aload_n 0, 1) := by decide +kernel
theorem dX5_takeAway_31 : decode cX5_takeAway 31 = .ok (.getfield 80, 3) := by decide +kernel
theorem dX5_takeAway_34 : decode cX5_takeAway 34 = .ok (.if_icmp .ge 61, 3) := by decide +kernel
theorem dX5_takeAway_37 : decode cX5_takeAway 37 = .ok (.aload_n 0, 1) := by decide +kernel
theorem dX5_takeAway_38 : decode cX5_takeAway 38 = .ok (.getfield 67, 3) := by decide +kernel
theorem dX5_takeAway_41 : decode cX5_takeAway 41 = .ok (.iload 5, 2) := by decide +kernel
theorem dX5_takeAway_43 : decode cX5_takeAway 43 = .ok (.iaload, 1) := by decide +kernel
theorem dX5_takeAway_44 : decode cX5_takeAway 44 = .ok (.iload_n 2, 1) := by decide +kernel
theorem dX5_takeAway_45 : decode cX5_takeAway 45 = .ok (.if_icmp .ne 44, 3) := by decide +kernel
theorem dX5_takeAway_48 : decode cX5_takeAway 48 = .ok (.aload_n 0, 1) := by decide +kernel
theorem dX5_takeAway_49 : decode cX5_takeAway 49 = .ok (.iload_n 1, 1) := by decide +kernel
theorem dX5_takeAway_50 : decode cX5_takeAway 50 = .ok (.iload 5, 2) := by decide +kernel
theorem dX5_takeAway_52 : decode cX5_takeAway 52 = .ok (.invokevirtual 113, 3) := by decide +kernel
theorem dX5_takeAway_55 : decode cX5_takeAway 55 = .ok (.istore 6, 2) := by decide +kernel
theorem dX5_takeAway_57 : decode cX5_takeAway 57 = .ok (.iload_n 3, 1) := by decide +kernel
theorem dX5_takeAway_58 : decode cX5_takeAway 58 = .ok (.ifCond .eq 12, 3) := by decide +kernel
theorem dX5_takeAway_61 : decode cX5_takeAway 61 = .ok (.iload 6, 2) := by decide +kernel
theorem dX5_takeAway_63 : decode cX5_takeAway 63 = .ok (.ifCond .eq 7, 3) := by decide +kernel
theorem dX5_takeAway_66 : decode cX5_takeAway 66 = .ok (.iconst 1, 1) := by decide +kernel
theorem dX5_takeAway_67 : decode cX5_takeAway 67 = .ok (.goto 4, 3) := by decide +kernel
theorem dX5_takeAway_70 : decode cX5_takeAway 70 = .ok (.iconst 0, 1) := by decide +kernel
theorem dX5_takeAway_71 : decode cX5_takeAway 71 = .ok (.istore_n 3, 1) := by decide +kernel
theorem dX5_takeAway_72 : decode cX5_takeAway 72 = .ok (.iload 4, 2) := by decide +kernel
theorem dX5_takeAway_74 : decode cX5_takeAway 74 = .ok (.ifCond .ne 8, 3) := by decide +kernel
theorem dX5_takeAway_77 : decode cX5_takeAway 77 = .ok (.iload 6, 2) := by decide +kernel
theorem dX5_takeAway_79 : decode cX5_takeAway 79 = .ok (.ifCond .eq 7, 3) := by decide +kernel
theorem dX5_takeAway_82 : decode cX5_takeAway 82 = .ok (.iconst 1, 1) := by decide +kernel
theorem dX5_takeAway_83 : decode cX5_takeAway 83 = .ok (.goto 4, 3) := by decide +kernel
theorem dX5_takeAway_86 : decode cX5_takeAway 86 = .ok (.iconst 0, 1) := by decide +kernel
theorem dX5_takeAway_87 : decode cX5_takeAway 87 = .ok (.istore 4, 2) := by decide +kernel
theorem dX5_takeAway_89 : decode cX5_takeAway 89 = .ok (.iinc 5 1, 3) := by decide +kernel
theorem dX5_takeAway_92 : decode cX5_takeAway 92 = .ok (.goto (-64), 3) := by decide +kernel
theorem dX5_takeAway_95 : decode cX5_takeAway 95 = .ok (.aload_n 0, 1) := by decide +kernel
theorem dX5_takeAway_96 : decode cX5_takeAway 96 = .ok (.getfield 22, 3) := by decide +kernel
theorem dX5_takeAway_99 : decode cX5_takeAway 99 = .ok (.iload_n 1, 1) := by decide +kernel
theorem dX5_takeAway_100 : decode cX5_takeAway 100 = .ok (.iaload, 1) := by decide +kernel
theorem dX5_takeAway_101 : decode cX5_takeAway 101 = .ok (.iconst 1, 1) := by decide +kernel
theorem dX5_takeAway_102 : decode cX5_takeAway 102 = .ok (.if_icmp .ne 10, 3) := by decide +kernel
theorem dX5_takeAway_105 : decode cX5_takeAway 105 = .ok (.iload_n 3, 1) := by decide +kernel
theorem dX5_takeAway_106 : decode cX5_takeAway 106 = .ok (.ifCond .ne 13, 3) := by decide +kernel
theorem dX5_takeAway_109 : decode cX5_takeAway 109 = .ok (.goto 8, 3) := by decide +kernel
theorem dX5_takeAway_112 : decode cX5_takeAway 112 = .ok (.iload 4, 2) := by decide +kernel
theorem dX5_takeAway_114 : decode cX5_takeAway 114 = .ok (.ifCond .ne 5, 3) := by decide +kernel
theorem dX5_takeAway_117 : decode cX5_takeAway 117 = .ok (.iconst 0, 1) := by decide +kernel
theorem dX5_takeAway_118 : decode cX5_takeAway 118 = .ok (.ireturn, 1) := by decide +kernel
theorem dX5_takeAway_119 : decode cX5_takeAway 119 = .ok (.iconst 0, 1) := by decide +kernel
theorem dX5_takeAway_120 : decode cX5_takeAway 120 = .ok (.istore 5, 2) := by decide +kernel
theorem dX5_takeAway_122 : decode cX5_takeAway 122 = .ok (.iload 5, 2) := by decide +kernel
theorem dX5_takeAway_124 : decode cX5_takeAway 124 = .ok (.aload_n 0, 1) := by decide +kernel
theorem dX5_takeAway_125 : decode cX5_takeAway 125 = .ok (.getfield 80, 3) := by decide +kernel
theorem dX5_takeAway_128 : decode cX5_takeAway 128 = .ok (.if_icmp .ge 52, 3) := by decide +kernel
theorem dX5_takeAway_131 : decode cX5_takeAway 131 = .ok (.aload_n 0, 1) := by decide +kernel
theorem dX5_takeAway_132 : decode cX5_takeAway 132 = .ok (.getfield 54, 3) := by decide +kernel
theorem dX5_takeAway_135 : decode cX5_takeAway 135 = .ok (.iload 5, 2) := by decide +kernel
theorem dX5_takeAway_137 : decode cX5_takeAway 137 = .ok (.aload_n 0, 1) := by decide +kernel
theorem dX5_takeAway_138 : decode cX5_takeAway 138 = .ok (.getfield 54, 3) := by decide +kernel
theorem dX5_takeAway_141 : decode cX5_takeAway 141 = .ok (.iload 5, 2) := by decide +kernel
theorem dX5_takeAway_143 : decode cX5_takeAway 143 = .ok (.baload, 1) := by decide +kernel
theorem dX5_takeAway_144 : decode cX5_takeAway 144 = .ok (.ifCond .eq 28, 3) := by decide +kernel
theorem dX5_takeAway_147 : decode cX5_takeAway 147 = .ok (.aload_n 0, 1) := by decide +kernel
theorem dX5_takeAway_148 : decode cX5_takeAway 148 = .ok (.getfield 67, 3) := by decide +kernel
theorem dX5_takeAway_151 : decode cX5_takeAway 151 = .ok (.iload 5, 2) := by decide +kernel
theorem dX5_takeAway_153 : decode cX5_takeAway 153 = .ok (.iaload, 1) := by decide +kernel
theorem dX5_takeAway_154 : decode cX5_takeAway 154 = .ok (.iload_n 2, 1) := by decide +kernel
theorem dX5_takeAway_155 : decode cX5_takeAway 155 = .ok (.if_icmp .ne 13, 3) := by decide +kernel
theorem dX5_takeAway_158 : decode cX5_takeAway 158 = .ok (.aload_n 0, 1) := by decide +kernel
theorem dX5_takeAway_159 : decode cX5_takeAway 159 = .ok (.iload_n 1, 1) := by decide +kernel
theorem dX5_takeAway_160 : decode cX5_takeAway 160 = .ok (.iload 5, 2) := by decide +kernel
theorem dX5_takeAway_162 : decode cX5_takeAway 162 = .ok (.invokevirtual 113, 3) := by decide +kernel
theorem dX5_takeAway_165 : decode cX5_takeAway 165 = .ok (.ifCond .ne 7, 3) := by decide +kernel
theorem dX5_takeAway_168 : decode cX5_takeAway 168 = .ok (.iconst 1, 1) := by decide +kernel
theorem dX5_takeAway_169 : decode cX5_takeAway 169 = .ok (.goto 4, 3) := by decide +kernel
theorem dX5_takeAway_172 : decode cX5_takeAway 172 = .ok (.iconst 0, 1) := by decide +kernel
theorem dX5_takeAway_173 : decode cX5_takeAway 173 = .ok (.bastore, 1) := by decide +kernel
theorem dX5_takeAway_174 : decode cX5_takeAway 174 = .ok (.iinc 5 1, 3) := by decide +kernel
theorem dX5_takeAway_177 : decode cX5_takeAway 177 = .ok (.goto (-55), 3) := by decide +kernel
theorem dX5_takeAway_180 : decode cX5_takeAway 180 = .ok (.iconst 1, 1) := by decide +kernel
theorem dX5_takeAway_181 : decode cX5_takeAway 181 = .ok (.ireturn, 1) := by decide +kernel
theorem dX5_shrink_0 : decode cX5_shrink 0 = .ok (.iconst 0, 1) := by decide +kernel
theorem dX5_shrink_1 : decode cX5_shrink 1 = .ok (.istore_n 2, 1) := by decide +kernel
theorem dX5_shrink_2 : decode cX5_shrink 2 = .ok (.iconst 0, 1) := by decide +kernel
theorem dX5_shrink_3 : decode cX5_shrink 3 = .ok (.istore_n 3, 1) := by decide +kernel
theorem dX5_shrink_4 : decode cX5_shrink 4 = .ok (.iload_n 3, 1) := by decide +kernel
theorem dX5_shrink_5 : decode cX5_shrink 5 = .ok (.iload_n 1, 1) := by decide +kernel
theorem dX5_shrink_6 : decode cX5_shrink 6 = .ok (.if_icmp .ge 57, 3) := by decide +kernel
theorem dX5_shrink_9 : decode cX5_shrink 9 = .ok (.iconst 0, 1) := by decide +kernel
theorem dX5_shrink_10 : decode cX5_shrink 10 = .ok (.istore 4, 2) := by decide +kernel
theorem dX5_shrink_12 : decode cX5_shrink 12 = .ok (.iconst 0, 1) := by decide +kernel
theorem dX5_shrink_13 : decode cX5_shrink 13 = .ok (.istore 5, 2) := by decide +kernel
theorem dX5_shrink_15 : decode cX5_shrink 15 = .ok (.iload 5, 2) := by decide +kernel
theorem dX5_shrink_17 : decode cX5_shrink 17 = .ok (.bipush 16, 2) := by decide +kernel
theorem dX5_shrink_19 : decode cX5_shrink 19 = .ok (.if_icmp .ge 23, 3) := by decide +kernel
theorem dX5_shrink_22 : decode cX5_shrink 22 = .ok (.iload 4, 2) := by decide +kernel
theorem dX5_shrink_24 : decode cX5_shrink 24 = .ok (.ifCond .ne 18, 3) := by decide +kernel
theorem dX5_shrink_27 : decode cX5_shrink 27 = .ok (.aload_n 0, 1) := by decide +kernel
theorem dX5_shrink_28 : decode cX5_shrink 28 = .ok (.iload 5, 2) := by decide +kernel
theorem dX5_shrink_30 : decode cX5_shrink 30 = .ok (.iload_n 3, 1) := by decide +kernel
theorem dX5_shrink_31 : decode cX5_shrink 31 = .ok (.invokevirtual 116, 3) := by decide +kernel
theorem dX5_shrink_34 : decode cX5_shrink 34 = .ok (.istore 4, 2) := by decide +kernel
theorem dX5_shrink_36 : decode cX5_shrink 36 = .ok (.iinc 5 1, 3) := by decide +kernel
theorem dX5_shrink_39 : decode cX5_shrink 39 = .ok (.goto (-24), 3) := by decide +kernel
theorem dX5_shrink_42 : decode cX5_shrink 42 = .ok (.iload_n 2, 1) := by decide +kernel
theorem dX5_shrink_43 : decode cX5_shrink 43 = .ok (.ifCond .ne 8, 3) := by decide +kernel
theorem dX5_shrink_46 : decode cX5_shrink 46 = .ok (.iload 4, 2) := by decide +kernel
theorem dX5_shrink_48 : decode cX5_shrink 48 = .ok (.ifCond .eq 7, 3) := by decide +kernel
theorem dX5_shrink_51 : decode cX5_shrink 51 = .ok (.iconst 1, 1) := by decide +kernel
theorem dX5_shrink_52 : decode cX5_shrink 52 = .ok (.goto 4, 3) := by decide +kernel
theorem dX5_shrink_55 : decode cX5_shrink 55 = .ok (.iconst 0, 1) := by decide +kernel
theorem dX5_shrink_56 : decode cX5_shrink 56 = .ok (.istore_n 2, 1) := by decide +kernel
theorem dX5_shrink_57 : decode cX5_shrink 57 = .ok (.iinc 3 1, 3) := by decide +kernel
theorem dX5_shrink_60 : decode cX5_shrink 60 = .ok (.goto (-56), 3) := by decide +kernel
theorem dX5_shrink_63 : decode cX5_shrink 63 = .ok (.iload_n 2, 1) := by decide +kernel
theorem dX5_shrink_64 : decode cX5_shrink 64 = .ok (.ireturn, 1) := by decide +kernel
theorem dX5_look_0 : decode cX5_look 0 = .ok (.aload_n 0, 1) := by decide +kernel
theorem dX5_look_1 : decode cX5_look 1 = .ok (.getfield 50, 3) := by decide +kernel
theorem dX5_look_4 : decode cX5_look 4 = .ok (.iload_n 1, 1) := by decide +kernel
theorem dX5_look_5 : decode cX5_look 5 = .ok (.if_icmp .ne 4, 3) := by decide +kernel
theorem dX5_look_8 : decode cX5_look 8 = .ok (.return_, 1) := by decide +kernel
theorem dX5_look_9 : decode cX5_look 9 = .ok (.aload_n 0, 1) := by decide +kernel
theorem dX5_look_10 : decode cX5_look 10 = .ok (.invokevirtual 96, 3) := by decide +kernel
theorem dX5_look_13 : decode cX5_look 13 = .ok (.iconst 0, 1) := by decide +kernel
theorem dX5_look_14 : decode cX5_look 14 = .ok (.istore_n 2, 1) := by decide +kernel
theorem dX5_look_15 : decode cX5_look 15 = .ok (.iload_n 2, 1) := by decide +kernel
theorem dX5_look_16 : decode cX5_look 16 = .ok (.aload_n 0, 1) := by decide +kernel
theorem dX5_look_17 : decode cX5_look 17 = .ok (.getfield 80, 3) := by decide +kernel
theorem dX5_look_20 : decode cX5_look 20 = .ok (.if_icmp .ge 55, 3) := by decide +kernel
theorem dX5_look_23 : decode cX5_look 23 = .ok (.aload_n 0, 1) := by decide +kernel
theorem dX5_look_24 : decode cX5_look 24 = .ok (.getfield 61, 3) := by decide +kernel
theorem dX5_look_27 : decode cX5_look 27 = .ok (.iload_n 2, 1) := by decide +kernel
theorem dX5_look_28 : decode cX5_look 28 = .ok (.aload_n 0, 1) := by decide +kernel
theorem dX5_look_29 : decode cX5_look 29 = .ok (.getfield 47, 3) := by decide +kernel
theorem dX5_look_32 : decode cX5_look 32 = .ok (.iload_n 2, 1) := by decide +kernel
theorem dX5_look_33 : decode cX5_look 33 = .ok (.baload, 1) := by decide +kernel
theorem dX5_look_34 : decode cX5_look 34 = .ok (.ifCond .eq 21, 3) := by decide +kernel
theorem dX5_look_37 : decode cX5_look 37 = .ok (.aload_n 0, 1) := by decide +kernel
theorem dX5_look_38 : decode cX5_look 38 = .ok (.getfield 7, 3) := by decide +kernel
theorem dX5_look_41 : decode cX5_look 41 = .ok (.iload_n 2, 1) := by decide +kernel
theorem dX5_look_42 : decode cX5_look 42 = .ok (.iaload, 1) := by decide +kernel
theorem dX5_look_43 : decode cX5_look 43 = .ok (.iload_n 1, 1) := by decide +kernel
theorem dX5_look_44 : decode cX5_look 44 = .ok (.ishr, 1) := by decide +kernel
theorem dX5_look_45 : decode cX5_look 45 = .ok (.iconst 1, 1) := by decide +kernel
theorem dX5_look_46 : decode cX5_look 46 = .ok (.iand, 1) := by decide +kernel
theorem dX5_look_47 : decode cX5_look 47 = .ok (.iconst 1, 1) := by decide +kernel
theorem dX5_look_48 : decode cX5_look 48 = .ok (.if_icmp .ne 7, 3) := by decide +kernel
theorem dX5_look_51 : decode cX5_look 51 = .ok (.iconst 1, 1) := by decide +kernel
theorem dX5_look_52 : decode cX5_look 52 = .ok (.goto 4, 3) := by decide +kernel
theorem dX5_look_55 : decode cX5_look 55 = .ok (.iconst 0, 1) := by decide +kernel
theorem dX5_look_56 : decode cX5_look 56 = .ok (.bastore, 1) := by decide +kernel
theorem dX5_look_57 : decode cX5_look 57 = .ok (.aload_n 0, 1) := by decide +kernel
theorem dX5_look_58 : decode cX5_look 58 = .ok (.getfield 54, 3) := by decide +kernel
theorem dX5_look_61 : decode cX5_look 61 = .ok (.iload_n 2, 1) := by decide +kernel
theorem dX5_look_62 : decode cX5_look 62 = .ok (.aload_n 0, 1) := by decide +kernel
theorem dX5_look_63 : decode cX5_look 63 = .ok (.getfield 61, 3) := by decide +kernel
theorem dX5_look_66 : decode cX5_look 66 = .ok (.iload_n 2, 1) := by decide +kernel
theorem dX5_look_67 : decode cX5_look 67 = .ok (.baload, 1) := by decide +kernel
theorem dX5_look_68 : decode cX5_look 68 = .ok (.bastore, 1) := by decide +kernel
theorem dX5_look_69 : decode cX5_look 69 = .ok (.iinc 2 1, 3) := by decide +kernel
theorem dX5_look_72 : decode cX5_look 72 = .ok (.goto (-57), 3) := by decide +kernel
theorem dX5_look_75 : decode cX5_look 75 = .ok (.aload_n 0, 1) := by decide +kernel
theorem dX5_look_76 : decode cX5_look 76 = .ok (.invokevirtual 119, 3) := by decide +kernel
theorem dX5_look_79 : decode cX5_look 79 = .ok (.istore_n 2, 1) := by decide +kernel
theorem dX5_look_80 : decode cX5_look 80 = .ok (.aload_n 0, 1) := by decide +kernel
theorem dX5_look_81 : decode cX5_look 81 = .ok (.iconst 0, 1) := by decide +kernel
theorem dX5_look_82 : decode cX5_look 82 = .ok (.putfield 123, 3) := by decide +kernel
theorem dX5_look_85 : decode cX5_look 85 = .ok (.iconst 0, 1) := by decide +kernel
theorem dX5_look_86 : decode cX5_look 86 = .ok (.istore_n 3, 1) := by decide +kernel
theorem dX5_look_87 : decode cX5_look 87 = .ok (.iload_n 3, 1) := by decide +kernel
theorem dX5_look_88 : decode cX5_look 88 = .ok (.iload_n 2, 1) := by decide +kernel
theorem dX5_look_89 : decode cX5_look 89 = .ok (.if_icmp .ge 73, 3) := by decide +kernel
theorem dX5_look_92 : decode cX5_look 92 = .ok (.iconst 0, 1) := by decide +kernel
theorem dX5_look_93 : decode cX5_look 93 = .ok (.istore 4, 2) := by decide +kernel
theorem dX5_look_95 : decode cX5_look 95 = .ok (.iconst 0, 1) := by decide +kernel
theorem dX5_look_96 : decode cX5_look 96 = .ok (.istore 5, 2) := by decide +kernel
theorem dX5_look_98 : decode cX5_look 98 = .ok (.iload 5, 2) := by decide +kernel
theorem dX5_look_100 : decode cX5_look 100 = .ok (.aload_n 0, 1) := by decide +kernel
theorem dX5_look_101 : decode cX5_look 101 = .ok (.getfield 80, 3) := by decide +kernel
theorem dX5_look_104 : decode cX5_look 104 = .ok (.if_icmp .ge 30, 3) := by decide +kernel
theorem dX5_look_107 : decode cX5_look 107 = .ok (.iload 4, 2) := by decide +kernel
theorem dX5_look_109 : decode cX5_look 109 = .ok (.aload_n 0, 1) := by decide +kernel
theorem dX5_look_110 : decode cX5_look 110 = .ok (.getfield 67, 3) := by decide +kernel
theorem dX5_look_113 : decode cX5_look 113 = .ok (.iload 5, 2) := by decide +kernel
theorem dX5_look_115 : decode cX5_look 115 = .ok (.iaload, 1) := by decide +kernel
theorem dX5_look_116 : decode cX5_look 116 = .ok (.iload_n 3, 1) := by decide +kernel
theorem dX5_look_117 : decode cX5_look 117 = .ok (.if_icmp .ne 7, 3) := by decide +kernel
theorem dX5_look_120 : decode cX5_look 120 = .ok (.iconst 1, 1) := by decide +kernel
theorem dX5_look_121 : decode cX5_look 121 = .ok (.goto 4, 3) := by decide +kernel
theorem dX5_look_124 : decode cX5_look 124 = .ok (.iconst 0, 1) := by decide +kernel
theorem dX5_look_125 : decode cX5_look 125 = .ok (.iadd, 1) := by decide +kernel
theorem dX5_look_126 : decode cX5_look 126 = .ok (.istore 4, 2) := by decide +kernel
theorem dX5_look_128 : decode cX5_look 128 = .ok (.iinc 5 1, 3) := by decide +kernel
theorem dX5_look_131 : decode cX5_look 131 = .ok (.goto (-33), 3) := by decide +kernel
theorem dX5_look_134 : decode cX5_look 134 = .ok (.aload_n 0, 1) := by decide +kernel
theorem dX5_look_135 : decode cX5_look 135 = .ok (.iload 4, 2) := by decide +kernel
theorem dX5_look_137 : decode cX5_look 137 = .ok (.aload_n 0, 1) := by decide +kernel
theorem dX5_look_138 : decode cX5_look 138 = .ok (.getfield 123, 3) := by decide +kernel
theorem dX5_look_141 : decode cX5_look 141 = .ok (.if_icmp .le 8, 3) := by decide +kernel
theorem dX5_look_144 : decode cX5_look 144 = .ok (.iload 4, 2) := by decide +kernel
theorem dX5_look_146 : decode cX5_look 146 = .ok (.goto 7, 3) := by decide +kernel
theorem dX5_look_149 : decode cX5_look 149 = .ok (.aload_n 0, 1) := by decide +kernel
theorem dX5_look_150 : decode cX5_look 150 = .ok (.getfield 123, 3) := by decide +kernel
theorem dX5_look_153 : decode cX5_look 153 = .ok (.putfield 123, 3) := by decide +kernel
theorem dX5_look_156 : decode cX5_look 156 = .ok (.iinc 3 1, 3) := by decide +kernel
theorem dX5_look_159 : decode cX5_look 159 = .ok (.goto (-72), 3) := by decide +kernel
theorem dX5_look_162 : decode cX5_look 162 = .ok (.aload_n 0, 1) := by decide +kernel
theorem dX5_look_163 : decode cX5_look 163 = .ok (.iload_n 2, 1) := by decide +kernel
theorem dX5_look_164 : decode cX5_look 164 = .ok (.invokevirtual 126, 3) := by decide +kernel
theorem dX5_look_167 : decode cX5_look 167 = .ok (.ifCond .eq 11, 3) := by decide +kernel
theorem dX5_look_170 : decode cX5_look 170 = .ok (.aload_n 0, 1) := by decide +kernel
theorem dX5_look_171 : decode cX5_look 171 = .ok (.invokevirtual 119, 3) := by decide +kernel
theorem dX5_look_174 : decode cX5_look 174 = .ok (.istore_n 2, 1) := by decide +kernel
theorem dX5_look_175 : decode cX5_look 175 = .ok (.goto (-13), 3) := by decide +kernel
theorem dX5_look_178 : decode cX5_look 178 = .ok (.aload_n 0, 1) := by decide +kernel
theorem dX5_look_179 : decode cX5_look 179 = .ok (.iload_n 2, 1) := by decide +kernel
theorem dX5_look_180 : decode cX5_look 180 = .ok (.putfield 129, 3) := by decide +kernel
theorem dX5_look_183 : decode cX5_look 183 = .ok (.aload_n 0, 1) := by decide +kernel
theorem dX5_look_184 : decode cX5_look 184 = .ok (.iload_n 1, 1) := by decide +kernel
theorem dX5_look_185 : decode cX5_look 185 = .ok (.putfield 50, 3) := by decide +kernel
theorem dX5_look_188 : decode cX5_look 188 = .ok (.aload_n 0, 1) := by decide +kernel
theorem dX5_look_189 : decode cX5_look 189 = .ok (.iconst 0, 1) := by decide +kernel
theorem dX5_look_190 : decode cX5_look 190 = .ok (.putfield 76, 3) := by decide +kernel
theorem dX5_look_193 : decode cX5_look 193 = .ok (.return_, 1) := by decide +kernel
theorem dX5_isAsk_0 : decode cX5_isAsk 0 = .ok (.aload_n 0, 1) := by decide +kernel
theorem dX5_isAsk_1 : decode cX5_isAsk 1 = .ok (.iload_n 1, 1) := by decide +kernel
theorem dX5_isAsk_2 : decode cX5_isAsk 2 = .ok (.ifCond .lt 9, 3) := by decide +kernel
theorem dX5_isAsk_5 : decode cX5_isAsk 5 = .ok (.iload_n 1, 1) := by decide +kernel
theorem dX5_isAsk_6 : decode cX5_isAsk 6 = .ok (.bipush 7, 2) := by decide +kernel
theorem dX5_isAsk_8 : decode cX5_isAsk 8 = .ok (.if_icmp .le 7, 3) := by decide +kernel
theorem dX5_isAsk_11 : decode cX5_isAsk 11 = .ok (.iconst 1, 1) := by decide +kernel
theorem dX5_isAsk_12 : decode cX5_isAsk 12 = .ok (.goto 4, 3) := by decide +kernel
theorem dX5_isAsk_15 : decode cX5_isAsk 15 = .ok (.iconst 0, 1) := by decide +kernel
theorem dX5_isAsk_16 : decode cX5_isAsk 16 = .ok (.putfield 73, 3) := by decide +kernel
theorem dX5_isAsk_19 : decode cX5_isAsk 19 = .ok (.aload_n 0, 1) := by decide +kernel
theorem dX5_isAsk_20 : decode cX5_isAsk 20 = .ok (.getfield 73, 3) := by decide +kernel
theorem dX5_isAsk_23 : decode cX5_isAsk 23 = .ok (.ifCond .ne 7, 3) := by decide +kernel
theorem dX5_isAsk_26 : decode cX5_isAsk 26 = .ok (.iconst 1, 1) := by decide +kernel
theorem dX5_isAsk_27 : decode cX5_isAsk 27 = .ok (.goto 4, 3) := by decide +kernel
theorem dX5_isAsk_30 : decode cX5_isAsk 30 = .ok (.iconst 0, 1) := by decide +kernel
theorem dX5_isAsk_31 : decode cX5_isAsk 31 = .ok (.ireturn, 1) := by decide +kernel
theorem dX5_begins_0 : decode cX5_begins 0 = .ok (.aload_n 0, 1) := by decide +kernel
theorem dX5_begins_1 : decode cX5_begins 1 = .ok (.getfield 25, 3) := by decide +kernel
theorem dX5_begins_4 : decode cX5_begins 4 = .ok (.iload_n 1, 1) := by decide +kernel
theorem dX5_begins_5 : decode cX5_begins 5 = .ok (.iaload, 1) := by decide +kernel
theorem dX5_begins_6 : decode cX5_begins 6 = .ok (.iconst (-1), 1) := by decide +kernel
theorem dX5_begins_7 : decode cX5_begins 7 = .ok (.if_icmp .eq 7, 3) := by decide +kernel
theorem dX5_begins_10 : decode cX5_begins 10 = .ok (.iconst 1, 1) := by decide +kernel
theorem dX5_begins_11 : decode cX5_begins 11 = .ok (.goto 4, 3) := by decide +kernel
theorem dX5_begins_14 : decode cX5_begins 14 = .ok (.iconst 0, 1) := by decide +kernel
theorem dX5_begins_15 : decode cX5_begins 15 = .ok (.ireturn, 1) := by decide +kernel
theorem dX5_isDead_0 : decode cX5_isDead 0 = .ok (.aload_n 0, 1) := by decide +kernel
theorem dX5_isDead_1 : decode cX5_isDead 1 = .ok (.getfield 61, 3) := by decide +kernel
theorem dX5_isDead_4 : decode cX5_isDead 4 = .ok (.iload_n 1, 1) := by decide +kernel
theorem dX5_isDead_5 : decode cX5_isDead 5 = .ok (.baload, 1) := by decide +kernel
theorem dX5_isDead_6 : decode cX5_isDead 6 = .ok (.ifCond .eq 24, 3) := by decide +kernel
theorem dX5_isDead_9 : decode cX5_isDead 9 = .ok (.aload_n 0, 1) := by decide +kernel
theorem dX5_isDead_10 : decode cX5_isDead 10 = .ok (.getfield 34, 3) := by decide +kernel
theorem dX5_isDead_13 : decode cX5_isDead 13 = .ok (.iload_n 1, 1) := by decide +kernel
theorem dX5_isDead_14 : decode cX5_isDead 14 = .ok (.baload, 1) := by decide +kernel
theorem dX5_isDead_15 : decode cX5_isDead 15 = .ok (.ifCond .ne 15, 3) := by decide +kernel
theorem dX5_isDead_18 : decode cX5_isDead 18 = .ok (.aload_n 0, 1) := by decide +kernel
theorem dX5_isDead_19 : decode cX5_isDead 19 = .ok (.iload_n 1, 1) := by decide +kernel
theorem dX5_isDead_20 : decode cX5_isDead 20 = .ok (.invokevirtual 132, 3) := by decide +kernel
theorem dX5_isDead_23 : decode cX5_isDead 23 = .ok (.ifCond .ne 7, 3) := by decide +kernel
theorem dX5_isDead_26 : decode cX5_isDead 26 = .ok (.iconst 1, 1) := by decide +kernel
theorem dX5_isDead_27 : decode cX5_isDead 27 = .ok (.goto 4, 3) := by decide +kernel
theorem dX5_isDead_30 : decode cX5_isDead 30 = .ok (.iconst 0, 1) := by decide +kernel
theorem dX5_isDead_31 : decode cX5_isDead 31 = .ok (.ireturn, 1) := by decide +kernel
theorem dX5_isLive_0 : decode cX5_isLive 0 = .ok (.aload_n 0, 1) := by decide +kernel
theorem dX5_isLive_1 : decode cX5_isLive 1 = .ok (.iload_n 1, 1) := by decide +kernel
theorem dX5_isLive_2 : decode cX5_isLive 2 = .ok (.invokevirtual 135, 3) := by decide +kernel
theorem dX5_isLive_5 : decode cX5_isLive 5 = .ok (.aload_n 0, 1) := by decide +kernel
theorem dX5_isLive_6 : decode cX5_isLive 6 = .ok (.getfield 129, 3) := by decide +kernel
theorem dX5_isLive_9 : decode cX5_isLive 9 = .ok (.ifCond .ne 7, 3) := by decide +kernel
theorem dX5_isLive_12 : decode cX5_isLive 12 = .ok (.iconst 1, 1) := by decide +kernel
theorem dX5_isLive_13 : decode cX5_isLive 13 = .ok (.goto 4, 3) := by decide +kernel
theorem dX5_isLive_16 : decode cX5_isLive 16 = .ok (.iconst 0, 1) := by decide +kernel
theorem dX5_isLive_17 : decode cX5_isLive 17 = .ok (.istore_n 2, 1) := by decide +kernel
theorem dX5_isLive_18 : decode cX5_isLive 18 = .ok (.iconst 0, 1) := by decide +kernel
theorem dX5_isLive_19 : decode cX5_isLive 19 = .ok (.istore_n 3, 1) := by decide +kernel
theorem dX5_isLive_20 : decode cX5_isLive 20 = .ok (.iload_n 3, 1) := by decide +kernel
theorem dX5_isLive_21 : decode cX5_isLive 21 = .ok (.aload_n 0, 1) := by decide +kernel
theorem dX5_isLive_22 : decode cX5_isLive 22 = .ok (.getfield 80, 3) := by decide +kernel
theorem dX5_isLive_25 : decode cX5_isLive 25 = .ok (.if_icmp .ge 27, 3) := by decide +kernel
theorem dX5_isLive_28 : decode cX5_isLive 28 = .ok (.iload_n 2, 1) := by decide +kernel
theorem dX5_isLive_29 : decode cX5_isLive 29 = .ok (.ifCond .eq 23, 3) := by decide +kernel
theorem dX5_isLive_32 : decode cX5_isLive 32 = .ok (.aload_n 0, 1) := by decide +kernel
theorem dX5_isLive_33 : decode cX5_isLive 33 = .ok (.iload_n 3, 1) := by decide +kernel
theorem dX5_isLive_34 : decode cX5_isLive 34 = .ok (.invokevirtual 138, 3) := by decide +kernel
theorem dX5_isLive_37 : decode cX5_isLive 37 = .ok (.ifCond .ne 7, 3) := by decide +kernel
theorem dX5_isLive_40 : decode cX5_isLive 40 = .ok (.iconst 1, 1) := by decide +kernel
theorem dX5_isLive_41 : decode cX5_isLive 41 = .ok (.goto 4, 3) := by decide +kernel
theorem dX5_isLive_44 : decode cX5_isLive 44 = .ok (.iconst 0, 1) := by decide +kernel
theorem dX5_isLive_45 : decode cX5_isLive 45 = .ok (.istore_n 2, 1) := by decide +kernel
theorem dX5_isLive_46 : decode cX5_isLive 46 = .ok (.iinc 3 1, 3) := by decide +kernel
theorem dX5_isLive_49 : decode cX5_isLive 49 = .ok (.goto (-29), 3) := by decide +kernel
theorem dX5_isLive_52 : decode cX5_isLive 52 = .ok (.iload_n 2, 1) := by decide +kernel
theorem dX5_isLive_53 : decode cX5_isLive 53 = .ok (.ireturn, 1) := by decide +kernel
theorem dX5_live_0 : decode cX5_live 0 = .ok (.aload_n 0, 1) := by decide +kernel
theorem dX5_live_1 : decode cX5_live 1 = .ok (.iload_n 1, 1) := by decide +kernel
theorem dX5_live_2 : decode cX5_live 2 = .ok (.invokevirtual 141, 3) := by decide +kernel
theorem dX5_live_5 : decode cX5_live 5 = .ok (.ifCond .eq 15, 3) := by decide +kernel
theorem dX5_live_8 : decode cX5_live 8 = .ok (.aload_n 0, 1) := by decide +kernel
theorem dX5_live_9 : decode cX5_live 9 = .ok (.iload_n 1, 1) := by decide +kernel
theorem dX5_live_10 : decode cX5_live 10 = .ok (.invokevirtual 144, 3) := by decide +kernel
theorem dX5_live_13 : decode cX5_live 13 = .ok (.ifCond .eq 7, 3) := by decide +kernel
theorem dX5_live_16 : decode cX5_live 16 = .ok (.iconst 1, 1) := by decide +kernel
theorem dX5_live_17 : decode cX5_live 17 = .ok (.goto 4, 3) := by decide +kernel
theorem dX5_live_20 : decode cX5_live 20 = .ok (.iconst 0, 1) := by decide +kernel
theorem dX5_live_21 : decode cX5_live 21 = .ok (.ireturn, 1) := by decide +kernel
theorem dX5_parts_0 : decode cX5_parts 0 = .ok (.aload_n 0, 1) := by decide +kernel
theorem dX5_parts_1 : decode cX5_parts 1 = .ok (.iload_n 1, 1) := by decide +kernel
theorem dX5_parts_2 : decode cX5_parts 2 = .ok (.invokevirtual 141, 3) := by decide +kernel
theorem dX5_parts_5 : decode cX5_parts 5 = .ok (.ifCond .ne 5, 3) := by decide +kernel
theorem dX5_parts_8 : decode cX5_parts 8 = .ok (.iconst 0, 1) := by decide +kernel
theorem dX5_parts_9 : decode cX5_parts 9 = .ok (.ireturn, 1) := by decide +kernel
theorem dX5_parts_10 : decode cX5_parts 10 = .ok (.aload_n 0, 1) := by decide +kernel
theorem dX5_parts_11 : decode cX5_parts 11 = .ok (.iload_n 1, 1) := by decide +kernel
theorem dX5_parts_12 : decode cX5_parts 12 = .ok (.invokevirtual 135, 3) := by decide +kernel
theorem dX5_parts_15 : decode cX5_parts 15 = .ok (.aload_n 0, 1) := by decide +kernel
theorem dX5_parts_16 : decode cX5_parts 16 = .ok (.getfield 129, 3) := by decide +kernel
theorem dX5_parts_19 : decode cX5_parts 19 = .ok (.ireturn, 1) := by decide +kernel
theorem dX5_part_0 : decode cX5_part 0 = .ok (.aload_n 0, 1) := by decide +kernel
theorem dX5_part_1 : decode cX5_part 1 = .ok (.iload_n 1, 1) := by decide +kernel
theorem dX5_part_2 : decode cX5_part 2 = .ok (.invokevirtual 141, 3) := by decide +kernel
theorem dX5_part_5 : decode cX5_part 5 = .ok (.ifCond .ne 5, 3) := by decide +kernel
theorem dX5_part_8 : decode cX5_part 8 = .ok (.iconst 0, 1) := by decide +kernel
theorem dX5_part_9 : decode cX5_part 9 = .ok (.ireturn, 1) := by decide +kernel
theorem dX5_part_10 : decode cX5_part 10 = .ok (.aload_n 0, 1) := by decide +kernel
theorem dX5_part_11 : decode cX5_part 11 = .ok (.iload_n 1, 1) := by decide +kernel
theorem dX5_part_12 : decode cX5_part 12 = .ok (.invokevirtual 135, 3) := by decide +kernel
theorem dX5_part_15 : decode cX5_part 15 = .ok (.iconst 0, 1) := by decide +kernel
theorem dX5_part_16 : decode cX5_part 16 = .ok (.istore 4, 2) := by decide +kernel
theorem dX5_part_18 : decode cX5_part 18 = .ok (.iconst 0, 1) := by decide +kernel
theorem dX5_part_19 : decode cX5_part 19 = .ok (.istore 5, 2) := by decide +kernel
theorem dX5_part_21 : decode cX5_part 21 = .ok (.iload 5, 2) := by decide +kernel
theorem dX5_part_23 : decode cX5_part 23 = .ok (.aload_n 0, 1) := by decide +kernel
theorem dX5_part_24 : decode cX5_part 24 = .ok (.getfield 80, 3) := by decide +kernel
theorem dX5_part_27 : decode cX5_part 27 = .ok (.if_icmp .ge 40, 3) := by decide +kernel
theorem dX5_part_30 : decode cX5_part 30 = .ok (.iload_n 2, 1) := by decide +kernel
theorem dX5_part_31 : decode cX5_part 31 = .ok (.ifCond .lt 36, 3) := by decide +kernel
theorem dX5_part_34 : decode cX5_part 34 = .ok (.iload_n 3, 1) := by decide +kernel
theorem dX5_part_35 : decode cX5_part 35 = .ok (.ifCond .lt 32, 3) := by decide +kernel
theorem dX5_part_38 : decode cX5_part 38 = .ok (.aload_n 0, 1) := by decide +kernel
theorem dX5_part_39 : decode cX5_part 39 = .ok (.getfield 67, 3) := by decide +kernel
theorem dX5_part_42 : decode cX5_part 42 = .ok (.iload 5, 2) := by decide +kernel
theorem dX5_part_44 : decode cX5_part 44 = .ok (.iaload, 1) := by decide +kernel
theorem dX5_part_45 : decode cX5_part 45 = .ok (.iload_n 2, 1) := by decide +kernel
theorem dX5_part_46 : decode cX5_part 46 = .ok (.if_icmp .ne 15, 3) := by decide +kernel
theorem dX5_part_49 : decode cX5_part 49 = .ok (.iload 4, 2) := by decide +kernel
theorem dX5_part_51 : decode cX5_part 51 = .ok (.iload_n 3, 1) := by decide +kernel
theorem dX5_part_52 : decode cX5_part 52 = .ok (.if_icmp .ne 6, 3) := by decide +kernel
theorem dX5_part_55 : decode cX5_part 55 = .ok (.iload 5, 2) := by decide +kernel
theorem dX5_part_57 : decode cX5_part 57 = .ok (.ireturn, 1) := by decide +kernel
theorem dX5_part_58 : decode cX5_part 58 = .ok (.iinc 4 1, 3) := by decide +kernel
theorem dX5_part_61 : decode cX5_part 61 = .ok (.iinc 5 1, 3) := by decide +kernel
theorem dX5_part_64 : decode cX5_part 64 = .ok (.goto (-43), 3) := by decide +kernel
theorem dX5_part_67 : decode cX5_part 67 = .ok (.aload_n 0, 1) := by decide +kernel
theorem dX5_part_68 : decode cX5_part 68 = .ok (.iconst 2, 1) := by decide +kernel
theorem dX5_part_69 : decode cX5_part 69 = .ok (.putfield 73, 3) := by decide +kernel
theorem dX5_part_72 : decode cX5_part 72 = .ok (.iconst 0, 1) := by decide +kernel
theorem dX5_part_73 : decode cX5_part 73 = .ok (.ireturn, 1) := by decide +kernel
theorem dX5_dead_0 : decode cX5_dead 0 = .ok (.aload_n 0, 1) := by decide +kernel
theorem dX5_dead_1 : decode cX5_dead 1 = .ok (.iload_n 1, 1) := by decide +kernel
theorem dX5_dead_2 : decode cX5_dead 2 = .ok (.invokevirtual 141, 3) := by decide +kernel
theorem dX5_dead_5 : decode cX5_dead 5 = .ok (.ifCond .ne 5, 3) := by decide +kernel
theorem dX5_dead_8 : decode cX5_dead 8 = .ok (.iconst 0, 1) := by decide +kernel
theorem dX5_dead_9 : decode cX5_dead 9 = .ok (.ireturn, 1) := by decide +kernel
theorem dX5_dead_10 : decode cX5_dead 10 = .ok (.aload_n 0, 1) := by decide +kernel
theorem dX5_dead_11 : decode cX5_dead 11 = .ok (.iload_n 1, 1) := by decide +kernel
theorem dX5_dead_12 : decode cX5_dead 12 = .ok (.invokevirtual 135, 3) := by decide +kernel
theorem dX5_dead_15 : decode cX5_dead 15 = .ok (.iconst 0, 1) := by decide +kernel
theorem dX5_dead_16 : decode cX5_dead 16 = .ok (.istore_n 3, 1) := by decide +kernel
theorem dX5_dead_17 : decode cX5_dead 17 = .ok (.iconst 0, 1) := by decide +kernel
theorem dX5_dead_18 : decode cX5_dead 18 = .ok (.istore 4, 2) := by decide +kernel
theorem dX5_dead_20 : decode cX5_dead 20 = .ok (.iload 4, 2) := by decide +kernel
theorem dX5_dead_22 : decode cX5_dead 22 = .ok (.aload_n 0, 1) := by decide +kernel
theorem dX5_dead_23 : decode cX5_dead 23 = .ok (.getfield 80, 3) := by decide +kernel
theorem dX5_dead_26 : decode cX5_dead 26 = .ok (.if_icmp .ge 33, 3) := by decide +kernel
theorem dX5_dead_29 : decode cX5_dead 29 = .ok (.iload_n 2, 1) := by decide +kernel
theorem dX5_dead_30 : decode cX5_dead 30 = .ok (.ifCond .lt 29, 3) := by decide +kernel
theorem dX5_dead_33 : decode cX5_dead 33 = .ok (.aload_n 0, 1) := by decide +kernel
theorem dX5_dead_34 : decode cX5_dead 34 = .ok (.iload 4, 2) := by decide +kernel
theorem dX5_dead_36 : decode cX5_dead 36 = .ok (.invokevirtual 138, 3) := by decide +kernel
theorem dX5_dead_39 : decode cX5_dead 39 = .ok (.ifCond .eq 14, 3) := by decide +kernel
theorem dX5_dead_42 : decode cX5_dead 42 = .ok (.iload_n 3, 1) := by decide +kernel
theorem dX5_dead_43 : decode cX5_dead 43 = .ok (.iload_n 2, 1) := by decide +kernel
theorem dX5_dead_44 : decode cX5_dead 44 = .ok (.if_icmp .ne 6, 3) := by decide +kernel
theorem dX5_dead_47 : decode cX5_dead 47 = .ok (.iload 4, 2) := by decide +kernel
theorem dX5_dead_49 : decode cX5_dead 49 = .ok (.ireturn, 1) := by decide +kernel
theorem dX5_dead_50 : decode cX5_dead 50 = .ok (.iinc 3 1, 3) := by decide +kernel
theorem dX5_dead_53 : decode cX5_dead 53 = .ok (.iinc 4 1, 3) := by decide +kernel
theorem dX5_dead_56 : decode cX5_dead 56 = .ok (.goto (-36), 3) := by decide +kernel
theorem dX5_dead_59 : decode cX5_dead 59 = .ok (.aload_n 0, 1) := by decide +kernel
theorem dX5_dead_60 : decode cX5_dead 60 = .ok (.iconst 2, 1) := by decide +kernel
theorem dX5_dead_61 : decode cX5_dead 61 = .ok (.putfield 73, 3) := by decide +kernel
theorem dX5_dead_64 : decode cX5_dead 64 = .ok (.iconst 0, 1) := by decide +kernel
theorem dX5_dead_65 : decode cX5_dead 65 = .ok (.ireturn, 1) := by decide +kernel
theorem dX5_measure_0 : decode cX5_measure 0 = .ok (.aload_n 0, 1) := by decide +kernel
theorem dX5_measure_1 : decode cX5_measure 1 = .ok (.iload_n 1, 1) := by decide +kernel
theorem dX5_measure_2 : decode cX5_measure 2 = .ok (.invokevirtual 135, 3) := by decide +kernel
theorem dX5_measure_5 : decode cX5_measure 5 = .ok (.iconst 0, 1) := by decide +kernel
theorem dX5_measure_6 : decode cX5_measure 6 = .ok (.istore_n 2, 1) := by decide +kernel
theorem dX5_measure_7 : decode cX5_measure 7 = .ok (.iload_n 2, 1) := by decide +kernel
theorem dX5_measure_8 : decode cX5_measure 8 = .ok (.aload_n 0, 1) := by decide +kernel
theorem dX5_measure_9 : decode cX5_measure 9 = .ok (.getfield 80, 3) := by decide +kernel
theorem dX5_measure_12 : decode cX5_measure 12 = .ok (.if_icmp .ge 29, 3) := by decide +kernel
theorem dX5_measure_15 : decode cX5_measure 15 = .ok (.aload_n 0, 1) := by decide +kernel
theorem dX5_measure_16 : decode cX5_measure 16 = .ok (.getfield 70, 3) := by decide +kernel
theorem dX5_measure_19 : decode cX5_measure 19 = .ok (.iload_n 2, 1) := by decide +kernel
theorem dX5_measure_20 : decode cX5_measure 20 = .ok (.aload_n 0, 1) := by decide +kernel
theorem dX5_measure_21 : decode cX5_measure 21 = .ok (.getfield 61, 3) := by decide +kernel
theorem dX5_measure_24 : decode cX5_measure 24 = .ok (.iload_n 2, 1) := by decide +kernel
theorem dX5_measure_25 : decode cX5_measure 25 = .ok (.baload, 1) := by decide +kernel
theorem dX5_measure_26 : decode cX5_measure 26 = .ok (.ifCond .eq 7, 3) := by decide +kernel
theorem dX5_measure_29 : decode cX5_measure 29 = .ok (.iconst 0, 1) := by decide +kernel
theorem dX5_measure_30 : decode cX5_measure 30 = .ok (.goto 4, 3) := by decide +kernel
theorem dX5_measure_33 : decode cX5_measure 33 = .ok (.iconst (-1), 1) := by decide +kernel
theorem dX5_measure_34 : decode cX5_measure 34 = .ok (.iastore, 1) := by decide +kernel
theorem dX5_measure_35 : decode cX5_measure 35 = .ok (.iinc 2 1, 3) := by decide +kernel
theorem dX5_measure_38 : decode cX5_measure 38 = .ok (.goto (-31), 3) := by decide +kernel
theorem dX5_measure_41 : decode cX5_measure 41 = .ok (.aload_n 0, 1) := by decide +kernel
theorem dX5_measure_42 : decode cX5_measure 42 = .ok (.getfield 123, 3) := by decide +kernel
theorem dX5_measure_45 : decode cX5_measure 45 = .ok (.ifCond .le 5, 3) := by decide +kernel
theorem dX5_measure_48 : decode cX5_measure 48 = .ok (.iconst 0, 1) := by decide +kernel
theorem dX5_measure_49 : decode cX5_measure 49 = .ok (.ireturn, 1) := by decide +kernel
theorem dX5_measure_50 : decode cX5_measure 50 = .ok (.iconst 1, 1) := by decide +kernel
theorem dX5_measure_51 : decode cX5_measure 51 = .ok (.istore_n 2, 1) := by decide +kernel
theorem dX5_measure_52 : decode cX5_measure 52 = .ok (.iload_n 2, 1) := by decide +kernel
theorem dX5_measure_53 : decode cX5_measure 53 = .ok (.ifCond .eq 95, 3) := by decide +kernel
theorem dX5_measure_56 : decode cX5_measure 56 = .ok (.iconst 0, 1) := by decide +kernel
theorem dX5_measure_57 : decode cX5_measure 57 = .ok (.istore_n 2, 1) := by decide +kernel
theorem dX5_measure_58 : decode cX5_measure 58 = .ok (.iconst 0, 1) := by decide +kernel
theorem dX5_measure_59 : decode cX5_measure 59 = .ok (.istore_n 3, 1) := by decide +kernel
theorem dX5_measure_60 : decode cX5_measure 60 = .ok (.iload_n 3, 1) := by decide +kernel
theorem dX5_measure_61 : decode cX5_measure 61 = .ok (.aload_n 0, 1) := by decide +kernel
theorem dX5_measure_62 : decode cX5_measure 62 = .ok (.getfield 90, 3) := by decide +kernel
theorem dX5_measure_65 : decode cX5_measure 65 = .ok (.if_icmp .ge 80, 3) := by decide +kernel
theorem dX5_measure_68 : decode cX5_measure 68 = .ok (.aload_n 0, 1) := by decide +kernel
theorem dX5_measure_69 : decode cX5_measure 69 = .ok (.getfield 13, 3) := by decide +kernel
theorem dX5_measure_72 : decode cX5_measure 72 = .ok (.iload_n 3, 1) := by decide +kernel
theorem dX5_measure_73 : decode cX5_measure 73 = .ok (.iaload, 1) := by decide +kernel
theorem dX5_measure_74 : decode cX5_measure 74 = .ok (.istore 4, 2) := by decide +kernel
theorem dX5_measure_76 : decode cX5_measure 76 = .ok (.aload_n 0, 1) := by decide +kernel
theorem dX5_measure_77 : decode cX5_measure 77 = .ok (.getfield 16, 3) := by decide +kernel
theorem dX5_measure_80 : decode cX5_measure 80 = .ok (.iload_n 3, 1) := by decide +kernel
theorem dX5_measure_81 : decode cX5_measure 81 = .ok (.iaload, 1) := by decide +kernel
theorem dX5_measure_82 : decode cX5_measure 82 = .ok (.istore 5, 2) := by decide +kernel
theorem dX5_measure_84 : decode cX5_measure 84 = .ok (.aload_n 0, 1) := by decide +kernel
theorem dX5_measure_85 : decode cX5_measure 85 = .ok (.getfield 61, 3) := by decide +kernel
theorem dX5_measure_88 : decode cX5_measure 88 = .ok (.iload 4, 2) := by decide +kernel
theorem dX5_measure_90 : decode cX5_measure 90 = .ok (.baload, 1) := by decide +kernel
theorem dX5_measure_91 : decode cX5_measure 91 = .ok (.ifCond .eq 48, 3) := by decide +kernel
theorem dX5_measure_94 : decode cX5_measure 94 = .ok (.aload_n 0, 1) := by decide +kernel
theorem dX5_measure_95 : decode cX5_measure 95 = .ok (.getfield 61, 3) := by decide +kernel
theorem dX5_measure_98 : decode cX5_measure 98 = .ok (.iload 5, 2) := by decide +kernel
theorem dX5_measure_100 : decode cX5_measure 100 = .ok (.baload, 1) := by decide +kernel
theorem dX5_measure_101 : decode cX5_measure 101 = .ok (.ifCond .eq 38, 3) := by decide +kernel
theorem dX5_measure_104 : decode cX5_measure 104 = .ok (.aload_n 0, 1) := by decide +kernel
theorem dX5_measure_105 : decode cX5_measure 105 = .ok (.getfield 70, 3) := by decide +kernel
theorem dX5_measure_108 : decode cX5_measure 108 = .ok (.iload 4, 2) := by decide +kernel
theorem dX5_measure_110 : decode cX5_measure 110 = .ok (.iaload, 1) := by decide +kernel
theorem dX5_measure_111 : decode cX5_measure 111 = .ok (.aload_n 0, 1) := by decide +kernel
theorem dX5_measure_112 : decode cX5_measure 112 = .ok (.getfield 70, 3) := by decide +kernel
theorem dX5_measure_115 : decode cX5_measure 115 = .ok (.iload 5, 2) := by decide +kernel
theorem dX5_measure_117 : decode cX5_measure 117 = .ok (.iaload, 1) := by decide +kernel
theorem dX5_measure_118 : decode cX5_measure 118 = .ok (.if_icmp .gt 21, 3) := by decide +kernel
theorem dX5_measure_121 : decode cX5_measure 121 = .ok (.aload_n 0, 1) := by decide +kernel
theorem dX5_measure_122 : decode cX5_measure 122 = .ok (.getfield 70, 3) := by decide +kernel
theorem dX5_measure_125 : decode cX5_measure 125 = .ok (.iload 4, 2) := by decide +kernel
theorem dX5_measure_127 : decode cX5_measure 127 = .ok (.aload_n 0, 1) := by decide +kernel
theorem dX5_measure_128 : decode cX5_measure 128 = .ok (.getfield 70, 3) := by decide +kernel
theorem dX5_measure_131 : decode cX5_measure 131 = .ok (.iload 5, 2) := by decide +kernel
theorem dX5_measure_133 : decode cX5_measure 133 = .ok (.iaload, 1) := by decide +kernel
theorem dX5_measure_134 : decode cX5_measure 134 = .ok (.iconst 1, 1) := by decide +kernel
theorem dX5_measure_135 : decode cX5_measure 135 = .ok (.iadd, 1) := by decide +kernel
theorem dX5_measure_136 : decode cX5_measure 136 = .ok (.iastore, 1) := by decide +kernel
theorem dX5_measure_137 : decode cX5_measure 137 = .ok (.iconst 1, 1) := by decide +kernel
theorem dX5_measure_138 : decode cX5_measure 138 = .ok (.istore_n 2, 1) := by decide +kernel
theorem dX5_measure_139 : decode cX5_measure 139 = .ok (.iinc 3 1, 3) := by decide +kernel
theorem dX5_measure_142 : decode cX5_measure 142 = .ok (.goto (-82), 3) := by decide +kernel
theorem dX5_measure_145 : decode cX5_measure 145 = .ok (.goto (-93), 3) := by decide +kernel
theorem dX5_measure_148 : decode cX5_measure 148 = .ok (.iconst 1, 1) := by decide +kernel
theorem dX5_measure_149 : decode cX5_measure 149 = .ok (.ireturn, 1) := by decide +kernel
theorem dX5_longest_0 : decode cX5_longest 0 = .ok (.aload_n 0, 1) := by decide +kernel
theorem dX5_longest_1 : decode cX5_longest 1 = .ok (.iload_n 1, 1) := by decide +kernel
theorem dX5_longest_2 : decode cX5_longest 2 = .ok (.invokevirtual 141, 3) := by decide +kernel
theorem dX5_longest_5 : decode cX5_longest 5 = .ok (.ifCond .ne 5, 3) := by decide +kernel
theorem dX5_longest_8 : decode cX5_longest 8 = .ok (.iconst 0, 1) := by decide +kernel
theorem dX5_longest_9 : decode cX5_longest 9 = .ok (.ireturn, 1) := by decide +kernel
theorem dX5_longest_10 : decode cX5_longest 10 = .ok (.aload_n 0, 1) := by decide +kernel
theorem dX5_longest_11 : decode cX5_longest 11 = .ok (.iload_n 1, 1) := by decide +kernel
theorem dX5_longest_12 : decode cX5_longest 12 = .ok (.invokevirtual 147, 3) := by decide +kernel
theorem dX5_longest_15 : decode cX5_longest 15 = .ok (.ifCond .ne 5, 3) := by decide +kernel
theorem dX5_longest_18 : decode cX5_longest 18 = .ok (.iconst (-1), 1) := by decide +kernel
theorem dX5_longest_19 : decode cX5_longest 19 = .ok (.ireturn, 1) := by decide +kernel
theorem dX5_longest_20 : decode cX5_longest 20 = .ok (.iconst 0, 1) := by decide +kernel
theorem dX5_longest_21 : decode cX5_longest 21 = .ok (.istore_n 2, 1) := by decide +kernel
theorem dX5_longest_22 : decode cX5_longest 22 = .ok (.iconst 0, 1) := by decide +kernel
theorem dX5_longest_23 : decode cX5_longest 23 = .ok (.istore_n 3, 1) := by decide +kernel
theorem dX5_longest_24 : decode cX5_longest 24 = .ok (.iload_n 3, 1) := by decide +kernel
theorem dX5_longest_25 : decode cX5_longest 25 = .ok (.aload_n 0, 1) := by decide +kernel
theorem dX5_longest_26 : decode cX5_longest 26 = .ok (.getfield 80, 3) := by decide +kernel
theorem dX5_longest_29 : decode cX5_longest 29 = .ok (.if_icmp .ge 30, 3) := by decide +kernel
theorem dX5_longest_32 : decode cX5_longest 32 = .ok (.aload_n 0, 1) := by decide +kernel
theorem dX5_longest_33 : decode cX5_longest 33 = .ok (.getfield 70, 3) := by decide +kernel
theorem dX5_longest_36 : decode cX5_longest 36 = .ok (.iload_n 3, 1) := by decide +kernel
theorem dX5_longest_37 : decode cX5_longest 37 = .ok (.iaload, 1) := by decide +kernel
theorem dX5_longest_38 : decode cX5_longest 38 = .ok (.iload_n 2, 1) := by decide +kernel
theorem dX5_longest_39 : decode cX5_longest 39 = .ok (.if_icmp .le 12, 3) := by decide +kernel
theorem dX5_longest_42 : decode cX5_longest 42 = .ok (.aload_n 0, 1) := by decide +kernel
theorem dX5_longest_43 : decode cX5_longest 43 = .ok (.getfield 70, 3) := by decide +kernel
theorem dX5_longest_46 : decode cX5_longest 46 = .ok (.iload_n 3, 1) := by decide +kernel
theorem dX5_longest_47 : decode cX5_longest 47 = .ok (.iaload, 1) := by decide +kernel
theorem dX5_longest_48 : decode cX5_longest 48 = .ok (.goto 4, 3) := by decide +kernel
theorem dX5_longest_51 : decode cX5_longest 51 = .ok (.iload_n 2, 1) := by decide +kernel
theorem dX5_longest_52 : decode cX5_longest 52 = .ok (.istore_n 2, 1) := by decide +kernel
theorem dX5_longest_53 : decode cX5_longest 53 = .ok (.iinc 3 1, 3) := by decide +kernel
theorem dX5_longest_56 : decode cX5_longest 56 = .ok (.goto (-32), 3) := by decide +kernel
theorem dX5_longest_59 : decode cX5_longest 59 = .ok (.iload_n 2, 1) := by decide +kernel
theorem dX5_longest_60 : decode cX5_longest 60 = .ok (.ireturn, 1) := by decide +kernel
theorem dX5_rank_0 : decode cX5_rank 0 = .ok (.aload_n 0, 1) := by decide +kernel
theorem dX5_rank_1 : decode cX5_rank 1 = .ok (.iload_n 1, 1) := by decide +kernel
theorem dX5_rank_2 : decode cX5_rank 2 = .ok (.invokevirtual 141, 3) := by decide +kernel
theorem dX5_rank_5 : decode cX5_rank 5 = .ok (.ifCond .ne 5, 3) := by decide +kernel
theorem dX5_rank_8 : decode cX5_rank 8 = .ok (.iconst 0, 1) := by decide +kernel
theorem dX5_rank_9 : decode cX5_rank 9 = .ok (.ireturn, 1) := by decide +kernel
theorem dX5_rank_10 : decode cX5_rank 10 = .ok (.aload_n 0, 1) := by decide +kernel
theorem dX5_rank_11 : decode cX5_rank 11 = .ok (.iload_n 2, 1) := by decide +kernel
theorem dX5_rank_12 : decode cX5_rank 12 = .ok (.invokevirtual 86, 3) := by decide +kernel
theorem dX5_rank_15 : decode cX5_rank 15 = .ok (.ifCond .ne 10, 3) := by decide +kernel
theorem dX5_rank_18 : decode cX5_rank 18 = .ok (.aload_n 0, 1) := by decide +kernel
theorem dX5_rank_19 : decode cX5_rank 19 = .ok (.iconst 2, 1) := by decide +kernel
theorem dX5_rank_20 : decode cX5_rank 20 = .ok (.putfield 73, 3) := by decide +kernel
theorem dX5_rank_23 : decode cX5_rank 23 = .ok (.iconst 0, 1) := by decide +kernel
theorem dX5_rank_24 : decode cX5_rank 24 = .ok (.ireturn, 1) := by decide +kernel
theorem dX5_rank_25 : decode cX5_rank 25 = .ok (.aload_n 0, 1) := by decide +kernel
theorem dX5_rank_26 : decode cX5_rank 26 = .ok (.iload_n 1, 1) := by decide +kernel
theorem dX5_rank_27 : decode cX5_rank 27 = .ok (.invokevirtual 147, 3) := by decide +kernel
theorem dX5_rank_30 : decode cX5_rank 30 = .ok (.ifCond .eq 12, 3) := by decide +kernel
theorem dX5_rank_33 : decode cX5_rank 33 = .ok (.aload_n 0, 1) := by decide +kernel
theorem dX5_rank_34 : decode cX5_rank 34 = .ok (.getfield 70, 3) := by decide +kernel
theorem dX5_rank_37 : decode cX5_rank 37 = .ok (.iload_n 2, 1) := by decide +kernel
theorem dX5_rank_38 : decode cX5_rank 38 = .ok (.iaload, 1) := by decide +kernel
theorem dX5_rank_39 : decode cX5_rank 39 = .ok (.goto 4, 3) := by decide +kernel
theorem dX5_rank_42 : decode cX5_rank 42 = .ok (.iconst (-1), 1) := by decide +kernel
theorem dX5_rank_43 : decode cX5_rank 43 = .ok (.ireturn, 1) := by decide +kernel
theorem dX5_largest_0 : decode cX5_largest 0 = .ok (.aload_n 0, 1) := by decide +kernel
theorem dX5_largest_1 : decode cX5_largest 1 = .ok (.iload_n 1, 1) := by decide +kernel
theorem dX5_largest_2 : decode cX5_largest 2 = .ok (.invokevirtual 141, 3) := by decide +kernel
theorem dX5_largest_5 : decode cX5_largest 5 = .ok (.ifCond .ne 5, 3) := by decide +kernel
theorem dX5_largest_8 : decode cX5_largest 8 = .ok (.iconst 0, 1) := by decide +kernel
theorem dX5_largest_9 : decode cX5_largest 9 = .ok (.ireturn, 1) := by decide +kernel
theorem dX5_largest_10 : decode cX5_largest 10 = .ok (.aload_n 0, 1) := by decide +kernel
theorem dX5_largest_11 : decode cX5_largest 11 = .ok (.iload_n 1, 1) := by decide +kernel
theorem dX5_largest_12 : decode cX5_largest 12 = .ok (.invokevirtual 135, 3) := by decide +kernel
theorem dX5_largest_15 : decode cX5_largest 15 = .ok (.aload_n 0, 1) := by decide +kernel
theorem dX5_largest_16 : decode cX5_largest 16 = .ok (.getfield 123, 3) := by decide +kernel
theorem dX5_largest_19 : decode cX5_largest 19 = .ok (.ireturn, 1) := by decide +kernel
theorem dX5_count_0 : decode cX5_count 0 = .ok (.aload_n 0, 1) := by decide +kernel
theorem dX5_count_1 : decode cX5_count 1 = .ok (.iconst 0, 1) := by decide +kernel
theorem dX5_count_2 : decode cX5_count 2 = .ok (.putfield 73, 3) := by decide +kernel
theorem dX5_count_5 : decode cX5_count 5 = .ok (.iconst 0, 1) := by decide +kernel
theorem dX5_count_6 : decode cX5_count 6 = .ok (.istore_n 2, 1) := by decide +kernel
theorem dX5_count_7 : decode cX5_count 7 = .ok (.iload_n 1, 1) := by decide +kernel
theorem dX5_count_8 : decode cX5_count 8 = .ok (.tableswitch 153 0 5 #[40, 45, 50, 85, 85, 121], 40) := by decide +kernel
theorem dX5_count_48 : decode cX5_count 48 = .ok (.aload_n 0, 1) := by decide +kernel
theorem dX5_count_49 : decode cX5_count 49 = .ok (.getfield 80, 3) := by decide +kernel
theorem dX5_count_52 : decode cX5_count 52 = .ok (.ireturn, 1) := by decide +kernel
theorem dX5_count_53 : decode cX5_count 53 = .ok (.aload_n 0, 1) := by decide +kernel
theorem dX5_count_54 : decode cX5_count 54 = .ok (.getfield 90, 3) := by decide +kernel
theorem dX5_count_57 : decode cX5_count 57 = .ok (.ireturn, 1) := by decide +kernel
theorem dX5_count_58 : decode cX5_count 58 = .ok (.iconst 0, 1) := by decide +kernel
theorem dX5_count_59 : decode cX5_count 59 = .ok (.istore_n 3, 1) := by decide +kernel
theorem dX5_count_60 : decode cX5_count 60 = .ok (.iload_n 3, 1) := by decide +kernel
theorem dX5_count_61 : decode cX5_count 61 = .ok (.aload_n 0, 1) := by decide +kernel
theorem dX5_count_62 : decode cX5_count 62 = .ok (.getfield 80, 3) := by decide +kernel
theorem dX5_count_65 : decode cX5_count 65 = .ok (.if_icmp .ge 26, 3) := by decide +kernel
theorem dX5_count_68 : decode cX5_count 68 = .ok (.iload_n 2, 1) := by decide +kernel
theorem dX5_count_69 : decode cX5_count 69 = .ok (.aload_n 0, 1) := by decide +kernel
theorem dX5_count_70 : decode cX5_count 70 = .ok (.getfield 34, 3) := by decide +kernel
theorem dX5_count_73 : decode cX5_count 73 = .ok (.iload_n 3, 1) := by decide +kernel
theorem dX5_count_74 : decode cX5_count 74 = .ok (.baload, 1) := by decide +kernel
theorem dX5_count_75 : decode cX5_count 75 = .ok (.ifCond .eq 7, 3) := by decide +kernel
theorem dX5_count_78 : decode cX5_count 78 = .ok (.iconst 1, 1) := by decide +kernel
theorem dX5_count_79 : decode cX5_count 79 = .ok (.goto 4, 3) := by decide +kernel
theorem dX5_count_82 : decode cX5_count 82 = .ok (.iconst 0, 1) := by decide +kernel
theorem dX5_count_83 : decode cX5_count 83 = .ok (.iadd, 1) := by decide +kernel
theorem dX5_count_84 : decode cX5_count 84 = .ok (.istore_n 2, 1) := by decide +kernel
theorem dX5_count_85 : decode cX5_count 85 = .ok (.iinc 3 1, 3) := by decide +kernel
theorem dX5_count_88 : decode cX5_count 88 = .ok (.goto (-28), 3) := by decide +kernel
theorem dX5_count_91 : decode cX5_count 91 = .ok (.iload_n 2, 1) := by decide +kernel
theorem dX5_count_92 : decode cX5_count 92 = .ok (.ireturn, 1) := by decide +kernel
theorem dX5_count_93 : decode cX5_count 93 = .ok (.iconst 0, 1) := by decide +kernel
theorem dX5_count_94 : decode cX5_count 94 = .ok (.istore_n 3, 1) := by decide +kernel
theorem dX5_count_95 : decode cX5_count 95 = .ok (.iload_n 3, 1) := by decide +kernel
theorem dX5_count_96 : decode cX5_count 96 = .ok (.bipush 16, 2) := by decide +kernel
theorem dX5_count_98 : decode cX5_count 98 = .ok (.if_icmp .ge 29, 3) := by decide +kernel
theorem dX5_count_101 : decode cX5_count 101 = .ok (.iload_n 2, 1) := by decide +kernel
theorem dX5_count_102 : decode cX5_count 102 = .ok (.aload_n 0, 1) := by decide +kernel
theorem dX5_count_103 : decode cX5_count 103 = .ok (.getfield 22, 3) := by decide +kernel
theorem dX5_count_106 : decode cX5_count 106 = .ok (.iload_n 3, 1) := by decide +kernel
theorem dX5_count_107 : decode cX5_count 107 = .ok (.iaload, 1) := by decide +kernel
theorem dX5_count_108 : decode cX5_count 108 = .ok (.iload_n 1, 1) := by decide +kernel
theorem dX5_count_109 : decode cX5_count 109 = .ok (.iconst 2, 1) := by decide +kernel
theorem dX5_count_110 : decode cX5_count 110 = .ok (.isub, 1) := by decide +kernel
theorem dX5_count_111 : decode cX5_count 111 = .ok (.if_icmp .ne 7, 3) := by decide +kernel
theorem dX5_count_114 : decode cX5_count 114 = .ok (.iconst 1, 1) := by decide +kernel
theorem dX5_count_115 : decode cX5_count 115 = .ok (.goto 4, 3) := by decide +kernel
theorem dX5_count_118 : decode cX5_count 118 = .ok (.iconst 0, 1) := by decide +kernel
theorem dX5_count_119 : decode cX5_count 119 = .ok (.iadd, 1) := by decide +kernel
theorem dX5_count_120 : decode cX5_count 120 = .ok (.istore_n 2, 1) := by decide +kernel
theorem dX5_count_121 : decode cX5_count 121 = .ok (.iinc 3 1, 3) := by decide +kernel
theorem dX5_count_124 : decode cX5_count 124 = .ok (.goto (-29), 3) := by decide +kernel
theorem dX5_count_127 : decode cX5_count 127 = .ok (.iload_n 2, 1) := by decide +kernel
theorem dX5_count_128 : decode cX5_count 128 = .ok (.ireturn, 1) := by decide +kernel
theorem dX5_count_129 : decode cX5_count 129 = .ok (.iconst 0, 1) := by decide +kernel
theorem dX5_count_130 : decode cX5_count 130 = .ok (.istore_n 3, 1) := by decide +kernel
theorem dX5_count_131 : decode cX5_count 131 = .ok (.iload_n 3, 1) := by decide +kernel
theorem dX5_count_132 : decode cX5_count 132 = .ok (.bipush 8, 2) := by decide +kernel
theorem dX5_count_134 : decode cX5_count 134 = .ok (.if_icmp .ge 25, 3) := by decide +kernel
theorem dX5_count_137 : decode cX5_count 137 = .ok (.iload_n 2, 1) := by decide +kernel
theorem dX5_count_138 : decode cX5_count 138 = .ok (.aload_n 0, 1) := by decide +kernel
theorem dX5_count_139 : decode cX5_count 139 = .ok (.iload_n 3, 1) := by decide +kernel
theorem dX5_count_140 : decode cX5_count 140 = .ok (.invokevirtual 144, 3) := by decide +kernel
theorem dX5_count_143 : decode cX5_count 143 = .ok (.ifCond .eq 7, 3) := by decide +kernel
theorem dX5_count_146 : decode cX5_count 146 = .ok (.iconst 1, 1) := by decide +kernel
theorem dX5_count_147 : decode cX5_count 147 = .ok (.goto 4, 3) := by decide +kernel
theorem dX5_count_150 : decode cX5_count 150 = .ok (.iconst 0, 1) := by decide +kernel
theorem dX5_count_151 : decode cX5_count 151 = .ok (.iadd, 1) := by decide +kernel
theorem dX5_count_152 : decode cX5_count 152 = .ok (.istore_n 2, 1) := by decide +kernel
theorem dX5_count_153 : decode cX5_count 153 = .ok (.iinc 3 1, 3) := by decide +kernel
theorem dX5_count_156 : decode cX5_count 156 = .ok (.goto (-25), 3) := by decide +kernel
theorem dX5_count_159 : decode cX5_count 159 = .ok (.iload_n 2, 1) := by decide +kernel
theorem dX5_count_160 : decode cX5_count 160 = .ok (.ireturn, 1) := by decide +kernel
theorem dX5_count_161 : decode cX5_count 161 = .ok (.iconst (-1), 1) := by decide +kernel
theorem dX5_count_162 : decode cX5_count 162 = .ok (.ireturn, 1) := by decide +kernel
theorem dJ6_bitCount_0f7a4_0 : decode cJ6_bitCount_0f7a4 0 = .ok (.iload_n 0, 1) := by decide +kernel
theorem dJ6_bitCount_0f7a4_1 : decode cJ6_bitCount_0f7a4 1 = .ok (.iload_n 0, 1) := by decide +kernel
theorem dJ6_bitCount_0f7a4_2 : decode cJ6_bitCount_0f7a4 2 = .ok (.iconst 1, 1) := by decide +kernel
theorem dJ6_bitCount_0f7a4_3 : decode cJ6_bitCount_0f7a4 3 = .ok (.iushr, 1) := by decide +kernel
theorem dJ6_bitCount_0f7a4_4 : decode cJ6_bitCount_0f7a4 4 = .ok (.ldc_w 265, 3) := by decide +kernel
theorem dJ6_bitCount_0f7a4_7 : decode cJ6_bitCount_0f7a4 7 = .ok (.iand, 1) := by decide +kernel
theorem dJ6_bitCount_0f7a4_8 : decode cJ6_bitCount_0f7a4 8 = .ok (.isub, 1) := by decide +kernel
theorem dJ6_bitCount_0f7a4_9 : decode cJ6_bitCount_0f7a4 9 = .ok (.istore_n 0, 1) := by decide +kernel
theorem dJ6_bitCount_0f7a4_10 : decode cJ6_bitCount_0f7a4 10 = .ok (.iload_n 0, 1) := by decide +kernel
theorem dJ6_bitCount_0f7a4_11 : decode cJ6_bitCount_0f7a4 11 = .ok (.ldc_w 266, 3) := by decide +kernel
theorem dJ6_bitCount_0f7a4_14 : decode cJ6_bitCount_0f7a4 14 = .ok (.iand, 1) := by decide +kernel
theorem dJ6_bitCount_0f7a4_15 : decode cJ6_bitCount_0f7a4 15 = .ok (.iload_n 0, 1) := by decide +kernel
theorem dJ6_bitCount_0f7a4_16 : decode cJ6_bitCount_0f7a4 16 = .ok (.iconst 2, 1) := by decide +kernel
theorem dJ6_bitCount_0f7a4_17 : decode cJ6_bitCount_0f7a4 17 = .ok (.iushr, 1) := by decide +kernel
theorem dJ6_bitCount_0f7a4_18 : decode cJ6_bitCount_0f7a4 18 = .ok (.ldc_w 266, 3) := by decide +kernel
theorem dJ6_bitCount_0f7a4_21 : decode cJ6_bitCount_0f7a4 21 = .ok (.iand, 1) := by decide +kernel
theorem dJ6_bitCount_0f7a4_22 : decode cJ6_bitCount_0f7a4 22 = .ok (.iadd, 1) := by decide +kernel
theorem dJ6_bitCount_0f7a4_23 : decode cJ6_bitCount_0f7a4 23 = .ok (.istore_n 0, 1) := by decide +kernel
theorem dJ6_bitCount_0f7a4_24 : decode cJ6_bitCount_0f7a4 24 = .ok (.iload_n 0, 1) := by decide +kernel
theorem dJ6_bitCount_0f7a4_25 : decode cJ6_bitCount_0f7a4 25 = .ok (.iload_n 0, 1) := by decide +kernel
theorem dJ6_bitCount_0f7a4_26 : decode cJ6_bitCount_0f7a4 26 = .ok (.iconst 4, 1) := by decide +kernel
theorem dJ6_bitCount_0f7a4_27 : decode cJ6_bitCount_0f7a4 27 = .ok (.iushr, 1) := by decide +kernel
theorem dJ6_bitCount_0f7a4_28 : decode cJ6_bitCount_0f7a4 28 = .ok (.iadd, 1) := by decide +kernel
theorem dJ6_bitCount_0f7a4_29 : decode cJ6_bitCount_0f7a4 29 = .ok (.ldc_w 267, 3) := by decide +kernel
theorem dJ6_bitCount_0f7a4_32 : decode cJ6_bitCount_0f7a4 32 = .ok (.iand, 1) := by decide +kernel
theorem dJ6_bitCount_0f7a4_33 : decode cJ6_bitCount_0f7a4 33 = .ok (.istore_n 0, 1) := by decide +kernel
theorem dJ6_bitCount_0f7a4_34 : decode cJ6_bitCount_0f7a4 34 = .ok (.iload_n 0, 1) := by decide +kernel
theorem dJ6_bitCount_0f7a4_35 : decode cJ6_bitCount_0f7a4 35 = .ok (.iload_n 0, 1) := by decide +kernel
theorem dJ6_bitCount_0f7a4_36 : decode cJ6_bitCount_0f7a4 36 = .ok (.bipush 8, 2) := by decide +kernel
theorem dJ6_bitCount_0f7a4_38 : decode cJ6_bitCount_0f7a4 38 = .ok (.iushr, 1) := by decide +kernel
theorem dJ6_bitCount_0f7a4_39 : decode cJ6_bitCount_0f7a4 39 = .ok (.iadd, 1) := by decide +kernel
theorem dJ6_bitCount_0f7a4_40 : decode cJ6_bitCount_0f7a4 40 = .ok (.istore_n 0, 1) := by decide +kernel
theorem dJ6_bitCount_0f7a4_41 : decode cJ6_bitCount_0f7a4 41 = .ok (.iload_n 0, 1) := by decide +kernel
theorem dJ6_bitCount_0f7a4_42 : decode cJ6_bitCount_0f7a4 42 = .ok (.iload_n 0, 1) := by decide +kernel
theorem dJ6_bitCount_0f7a4_43 : decode cJ6_bitCount_0f7a4 43 = .ok (.bipush 16, 2) := by decide +kernel
theorem dJ6_bitCount_0f7a4_45 : decode cJ6_bitCount_0f7a4 45 = .ok (.iushr, 1) := by decide +kernel
theorem dJ6_bitCount_0f7a4_46 : decode cJ6_bitCount_0f7a4 46 = .ok (.iadd, 1) := by decide +kernel
theorem dJ6_bitCount_0f7a4_47 : decode cJ6_bitCount_0f7a4 47 = .ok (.istore_n 0, 1) := by decide +kernel
theorem dJ6_bitCount_0f7a4_48 : decode cJ6_bitCount_0f7a4 48 = .ok (.iload_n 0, 1) := by decide +kernel
theorem dJ6_bitCount_0f7a4_49 : decode cJ6_bitCount_0f7a4 49 = .ok (.bipush 63, 2) := by decide +kernel
theorem dJ6_bitCount_0f7a4_51 : decode cJ6_bitCount_0f7a4 51 = .ok (.iand, 1) := by decide +kernel
theorem dJ6_bitCount_0f7a4_52 : decode cJ6_bitCount_0f7a4 52 = .ok (.ireturn, 1) := by decide +kernel
theorem dL_state_0 : decode cL_state 0 = .ok (.aload_n 3, 1) := by decide +kernel
theorem dL_state_1 : decode cL_state 1 = .ok (.iconst 0, 1) := by decide +kernel
theorem dL_state_2 : decode cL_state 2 = .ok (.aload_n 0, 1) := by decide +kernel
theorem dL_state_3 : decode cL_state 3 = .ok (.iload_n 1, 1) := by decide +kernel
theorem dL_state_4 : decode cL_state 4 = .ok (.iload_n 2, 1) := by decide +kernel
theorem dL_state_5 : decode cL_state 5 = .ok (.invokevirtual 7, 3) := by decide +kernel
theorem dL_state_8 : decode cL_state 8 = .ok (.i2l, 1) := by decide +kernel
theorem dL_state_9 : decode cL_state 9 = .ok (.lastore, 1) := by decide +kernel
theorem dL_state_10 : decode cL_state 10 = .ok (.goto 11, 3) := by decide +kernel
theorem dL_state_13 : decode cL_state 13 = .ok (.astore 4, 2) := by decide +kernel
theorem dL_state_15 : decode cL_state 15 = .ok (.iconst 1, 1) := by decide +kernel
theorem dL_state_16 : decode cL_state 16 = .ok (.ireturn, 1) := by decide +kernel
theorem dL_state_17 : decode cL_state 17 = .ok (.astore 4, 2) := by decide +kernel
theorem dL_state_19 : decode cL_state 19 = .ok (.iconst 2, 1) := by decide +kernel
theorem dL_state_20 : decode cL_state 20 = .ok (.ireturn, 1) := by decide +kernel
theorem dL_state_21 : decode cL_state 21 = .ok (.iconst 0, 1) := by decide +kernel
theorem dL_state_22 : decode cL_state 22 = .ok (.ireturn, 1) := by decide +kernel
theorem dL_move_0 : decode cL_move 0 = .ok (.aload 4, 2) := by decide +kernel
theorem dL_move_2 : decode cL_move 2 = .ok (.iconst 0, 1) := by decide +kernel
theorem dL_move_3 : decode cL_move 3 = .ok (.aload_n 0, 1) := by decide +kernel
theorem dL_move_4 : decode cL_move 4 = .ok (.iload_n 1, 1) := by decide +kernel
theorem dL_move_5 : decode cL_move 5 = .ok (.iload_n 2, 1) := by decide +kernel
theorem dL_move_6 : decode cL_move 6 = .ok (.iload_n 3, 1) := by decide +kernel
theorem dL_move_7 : decode cL_move 7 = .ok (.invokevirtual 17, 3) := by decide +kernel
theorem dL_move_10 : decode cL_move 10 = .ok (.i2l, 1) := by decide +kernel
theorem dL_move_11 : decode cL_move 11 = .ok (.lastore, 1) := by decide +kernel
theorem dL_move_12 : decode cL_move 12 = .ok (.goto 11, 3) := by decide +kernel
theorem dL_move_15 : decode cL_move 15 = .ok (.astore 5, 2) := by decide +kernel
theorem dL_move_17 : decode cL_move 17 = .ok (.iconst 1, 1) := by decide +kernel
theorem dL_move_18 : decode cL_move 18 = .ok (.ireturn, 1) := by decide +kernel
theorem dL_move_19 : decode cL_move 19 = .ok (.astore 5, 2) := by decide +kernel
theorem dL_move_21 : decode cL_move 21 = .ok (.iconst 2, 1) := by decide +kernel
theorem dL_move_22 : decode cL_move 22 = .ok (.ireturn, 1) := by decide +kernel
theorem dL_move_23 : decode cL_move 23 = .ok (.iconst 0, 1) := by decide +kernel
theorem dL_move_24 : decode cL_move 24 = .ok (.ireturn, 1) := by decide +kernel
theorem dL_label_0 : decode cL_label 0 = .ok (.aload_n 3, 1) := by decide +kernel
theorem dL_label_1 : decode cL_label 1 = .ok (.iconst 0, 1) := by decide +kernel
theorem dL_label_2 : decode cL_label 2 = .ok (.aload_n 0, 1) := by decide +kernel
theorem dL_label_3 : decode cL_label 3 = .ok (.iload_n 1, 1) := by decide +kernel
theorem dL_label_4 : decode cL_label 4 = .ok (.iload_n 2, 1) := by decide +kernel
theorem dL_label_5 : decode cL_label 5 = .ok (.invokevirtual 21, 3) := by decide +kernel
theorem dL_label_8 : decode cL_label 8 = .ok (.i2l, 1) := by decide +kernel
theorem dL_label_9 : decode cL_label 9 = .ok (.lastore, 1) := by decide +kernel
theorem dL_label_10 : decode cL_label 10 = .ok (.goto 11, 3) := by decide +kernel
theorem dL_label_13 : decode cL_label 13 = .ok (.astore 4, 2) := by decide +kernel
theorem dL_label_15 : decode cL_label 15 = .ok (.iconst 1, 1) := by decide +kernel
theorem dL_label_16 : decode cL_label 16 = .ok (.ireturn, 1) := by decide +kernel
theorem dL_label_17 : decode cL_label 17 = .ok (.astore 4, 2) := by decide +kernel
theorem dL_label_19 : decode cL_label 19 = .ok (.iconst 2, 1) := by decide +kernel
theorem dL_label_20 : decode cL_label 20 = .ok (.ireturn, 1) := by decide +kernel
theorem dL_label_21 : decode cL_label 21 = .ok (.iconst 0, 1) := by decide +kernel
theorem dL_label_22 : decode cL_label 22 = .ok (.ireturn, 1) := by decide +kernel
theorem dL_live_0 : decode cL_live 0 = .ok (.aload_n 2, 1) := by decide +kernel
theorem dL_live_1 : decode cL_live 1 = .ok (.iconst 0, 1) := by decide +kernel
theorem dL_live_2 : decode cL_live 2 = .ok (.aload_n 0, 1) := by decide +kernel
theorem dL_live_3 : decode cL_live 3 = .ok (.iload_n 1, 1) := by decide +kernel
theorem dL_live_4 : decode cL_live 4 = .ok (.invokevirtual 27, 3) := by decide +kernel
theorem dL_live_7 : decode cL_live 7 = .ok (.ifCond .eq 7, 3) := by decide +kernel
theorem dL_live_10 : decode cL_live 10 = .ok (.lconst 1, 1) := by decide +kernel
theorem dL_live_11 : decode cL_live 11 = .ok (.goto 4, 3) := by decide +kernel
theorem dL_live_14 : decode cL_live 14 = .ok (.lconst 0, 1) := by decide +kernel
theorem dL_live_15 : decode cL_live 15 = .ok (.lastore, 1) := by decide +kernel
theorem dL_live_16 : decode cL_live 16 = .ok (.goto 6, 3) := by decide +kernel
theorem dL_live_19 : decode cL_live 19 = .ok (.astore_n 3, 1) := by decide +kernel
theorem dL_live_20 : decode cL_live 20 = .ok (.iconst 1, 1) := by decide +kernel
theorem dL_live_21 : decode cL_live 21 = .ok (.ireturn, 1) := by decide +kernel
theorem dL_live_22 : decode cL_live 22 = .ok (.iconst 0, 1) := by decide +kernel
theorem dL_live_23 : decode cL_live 23 = .ok (.ireturn, 1) := by decide +kernel
theorem dL_parts_0 : decode cL_parts 0 = .ok (.aload_n 2, 1) := by decide +kernel
theorem dL_parts_1 : decode cL_parts 1 = .ok (.iconst 0, 1) := by decide +kernel
theorem dL_parts_2 : decode cL_parts 2 = .ok (.aload_n 0, 1) := by decide +kernel
theorem dL_parts_3 : decode cL_parts 3 = .ok (.iload_n 1, 1) := by decide +kernel
theorem dL_parts_4 : decode cL_parts 4 = .ok (.invokevirtual 31, 3) := by decide +kernel
theorem dL_parts_7 : decode cL_parts 7 = .ok (.i2l, 1) := by decide +kernel
theorem dL_parts_8 : decode cL_parts 8 = .ok (.lastore, 1) := by decide +kernel
