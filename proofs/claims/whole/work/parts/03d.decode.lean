theorem dX4_fillRanks_60 : decode cX4_fillRanks 60 = .ok (.ireturn, 1) := by decide +kernel
theorem dX4_rankAbove_0 : decode cX4_rankAbove 0 = .ok (.iconst 0, 1) := by decide +kernel
theorem dX4_rankAbove_1 : decode cX4_rankAbove 1 = .ok (.istore_n 2, 1) := by decide +kernel
theorem dX4_rankAbove_2 : decode cX4_rankAbove 2 = .ok (.aload_n 0, 1) := by decide +kernel
theorem dX4_rankAbove_3 : decode cX4_rankAbove 3 = .ok (.getfield 10, 3) := by decide +kernel
theorem dX4_rankAbove_6 : decode cX4_rankAbove 6 = .ok (.getfield 218, 3) := by decide +kernel
theorem dX4_rankAbove_9 : decode cX4_rankAbove 9 = .ok (.iload_n 1, 1) := by decide +kernel
theorem dX4_rankAbove_10 : decode cX4_rankAbove 10 = .ok (.iaload, 1) := by decide +kernel
theorem dX4_rankAbove_11 : decode cX4_rankAbove 11 = .ok (.istore_n 3, 1) := by decide +kernel
theorem dX4_rankAbove_12 : decode cX4_rankAbove 12 = .ok (.iload_n 3, 1) := by decide +kernel
theorem dX4_rankAbove_13 : decode cX4_rankAbove 13 = .ok (.aload_n 0, 1) := by decide +kernel
theorem dX4_rankAbove_14 : decode cX4_rankAbove 14 = .ok (.getfield 10, 3) := by decide +kernel
theorem dX4_rankAbove_17 : decode cX4_rankAbove 17 = .ok (.getfield 218, 3) := by decide +kernel
theorem dX4_rankAbove_20 : decode cX4_rankAbove 20 = .ok (.iload_n 1, 1) := by decide +kernel
theorem dX4_rankAbove_21 : decode cX4_rankAbove 21 = .ok (.iconst 1, 1) := by decide +kernel
theorem dX4_rankAbove_22 : decode cX4_rankAbove 22 = .ok (.iadd, 1) := by decide +kernel
theorem dX4_rankAbove_23 : decode cX4_rankAbove 23 = .ok (.iaload, 1) := by decide +kernel
theorem dX4_rankAbove_24 : decode cX4_rankAbove 24 = .ok (.if_icmp .ge 62, 3) := by decide +kernel
theorem dX4_rankAbove_27 : decode cX4_rankAbove 27 = .ok (.aload_n 0, 1) := by decide +kernel
theorem dX4_rankAbove_28 : decode cX4_rankAbove 28 = .ok (.getfield 10, 3) := by decide +kernel
theorem dX4_rankAbove_31 : decode cX4_rankAbove 31 = .ok (.getfield 221, 3) := by decide +kernel
theorem dX4_rankAbove_34 : decode cX4_rankAbove 34 = .ok (.aload_n 0, 1) := by decide +kernel
theorem dX4_rankAbove_35 : decode cX4_rankAbove 35 = .ok (.getfield 10, 3) := by decide +kernel
theorem dX4_rankAbove_38 : decode cX4_rankAbove 38 = .ok (.getfield 224, 3) := by decide +kernel
theorem dX4_rankAbove_41 : decode cX4_rankAbove 41 = .ok (.iload_n 3, 1) := by decide +kernel
theorem dX4_rankAbove_42 : decode cX4_rankAbove 42 = .ok (.iaload, 1) := by decide +kernel
theorem dX4_rankAbove_43 : decode cX4_rankAbove 43 = .ok (.iaload, 1) := by decide +kernel
theorem dX4_rankAbove_44 : decode cX4_rankAbove 44 = .ok (.istore 4, 2) := by decide +kernel
theorem dX4_rankAbove_46 : decode cX4_rankAbove 46 = .ok (.aload_n 0, 1) := by decide +kernel
theorem dX4_rankAbove_47 : decode cX4_rankAbove 47 = .ok (.getfield 30, 3) := by decide +kernel
theorem dX4_rankAbove_50 : decode cX4_rankAbove 50 = .ok (.getfield 138, 3) := by decide +kernel
theorem dX4_rankAbove_53 : decode cX4_rankAbove 53 = .ok (.iload 4, 2) := by decide +kernel
theorem dX4_rankAbove_55 : decode cX4_rankAbove 55 = .ok (.baload, 1) := by decide +kernel
theorem dX4_rankAbove_56 : decode cX4_rankAbove 56 = .ok (.ifCond .eq 24, 3) := by decide +kernel
theorem dX4_rankAbove_59 : decode cX4_rankAbove 59 = .ok (.aload_n 0, 1) := by decide +kernel
theorem dX4_rankAbove_60 : decode cX4_rankAbove 60 = .ok (.getfield 41, 3) := by decide +kernel
theorem dX4_rankAbove_63 : decode cX4_rankAbove 63 = .ok (.iload 4, 2) := by decide +kernel
theorem dX4_rankAbove_65 : decode cX4_rankAbove 65 = .ok (.iaload, 1) := by decide +kernel
theorem dX4_rankAbove_66 : decode cX4_rankAbove 66 = .ok (.iload_n 2, 1) := by decide +kernel
theorem dX4_rankAbove_67 : decode cX4_rankAbove 67 = .ok (.if_icmp .lt 13, 3) := by decide +kernel
theorem dX4_rankAbove_70 : decode cX4_rankAbove 70 = .ok (.aload_n 0, 1) := by decide +kernel
theorem dX4_rankAbove_71 : decode cX4_rankAbove 71 = .ok (.getfield 41, 3) := by decide +kernel
theorem dX4_rankAbove_74 : decode cX4_rankAbove 74 = .ok (.iload 4, 2) := by decide +kernel
theorem dX4_rankAbove_76 : decode cX4_rankAbove 76 = .ok (.iaload, 1) := by decide +kernel
theorem dX4_rankAbove_77 : decode cX4_rankAbove 77 = .ok (.iconst 1, 1) := by decide +kernel
theorem dX4_rankAbove_78 : decode cX4_rankAbove 78 = .ok (.iadd, 1) := by decide +kernel
theorem dX4_rankAbove_79 : decode cX4_rankAbove 79 = .ok (.istore_n 2, 1) := by decide +kernel
theorem dX4_rankAbove_80 : decode cX4_rankAbove 80 = .ok (.iinc 3 1, 3) := by decide +kernel
theorem dX4_rankAbove_83 : decode cX4_rankAbove 83 = .ok (.goto (-71), 3) := by decide +kernel
theorem dX4_rankAbove_86 : decode cX4_rankAbove 86 = .ok (.iload_n 2, 1) := by decide +kernel
theorem dX4_rankAbove_87 : decode cX4_rankAbove 87 = .ok (.ireturn, 1) := by decide +kernel
theorem dX5_init_0 : decode cX5_init 0 = .ok (.aload_n 0, 1) := by decide +kernel
theorem dX5_init_1 : decode cX5_init 1 = .ok (.invokespecial 1, 3) := by decide +kernel
theorem dX5_init_4 : decode cX5_init 4 = .ok (.aload_n 0, 1) := by decide +kernel
theorem dX5_init_5 : decode cX5_init 5 = .ok (.sipush 200, 3) := by decide +kernel
theorem dX5_init_8 : decode cX5_init 8 = .ok (.newarray .int, 2) := by decide +kernel
theorem dX5_init_10 : decode cX5_init 10 = .ok (.putfield 7, 3) := by decide +kernel
theorem dX5_init_13 : decode cX5_init 13 = .ok (.aload_n 0, 1) := by decide +kernel
theorem dX5_init_14 : decode cX5_init 14 = .ok (.sipush 600, 3) := by decide +kernel
theorem dX5_init_17 : decode cX5_init 17 = .ok (.newarray .int, 2) := by decide +kernel
theorem dX5_init_19 : decode cX5_init 19 = .ok (.putfield 13, 3) := by decide +kernel
theorem dX5_init_22 : decode cX5_init 22 = .ok (.aload_n 0, 1) := by decide +kernel
theorem dX5_init_23 : decode cX5_init 23 = .ok (.sipush 600, 3) := by decide +kernel
theorem dX5_init_26 : decode cX5_init 26 = .ok (.newarray .int, 2) := by decide +kernel
theorem dX5_init_28 : decode cX5_init 28 = .ok (.putfield 16, 3) := by decide +kernel
theorem dX5_init_31 : decode cX5_init 31 = .ok (.aload_n 0, 1) := by decide +kernel
theorem dX5_init_32 : decode cX5_init 32 = .ok (.sipush 600, 3) := by decide +kernel
theorem dX5_init_35 : decode cX5_init 35 = .ok (.newarray .int, 2) := by decide +kernel
theorem dX5_init_37 : decode cX5_init 37 = .ok (.putfield 19, 3) := by decide +kernel
theorem dX5_init_40 : decode cX5_init 40 = .ok (.aload_n 0, 1) := by decide +kernel
theorem dX5_init_41 : decode cX5_init 41 = .ok (.bipush 16, 2) := by decide +kernel
theorem dX5_init_43 : decode cX5_init 43 = .ok (.newarray .int, 2) := by decide +kernel
theorem dX5_init_45 : decode cX5_init 45 = .ok (.putfield 22, 3) := by decide +kernel
theorem dX5_init_48 : decode cX5_init 48 = .ok (.aload_n 0, 1) := by decide +kernel
theorem dX5_init_49 : decode cX5_init 49 = .ok (.sipush 200, 3) := by decide +kernel
theorem dX5_init_52 : decode cX5_init 52 = .ok (.newarray .int, 2) := by decide +kernel
theorem dX5_init_54 : decode cX5_init 54 = .ok (.putfield 25, 3) := by decide +kernel
theorem dX5_init_57 : decode cX5_init 57 = .ok (.aload_n 0, 1) := by decide +kernel
theorem dX5_init_58 : decode cX5_init 58 = .ok (.sipush 200, 3) := by decide +kernel
theorem dX5_init_61 : decode cX5_init 61 = .ok (.newarray .int, 2) := by decide +kernel
theorem dX5_init_63 : decode cX5_init 63 = .ok (.putfield 28, 3) := by decide +kernel
theorem dX5_init_66 : decode cX5_init 66 = .ok (.aload_n 0, 1) := by decide +kernel
theorem dX5_init_67 : decode cX5_init 67 = .ok (.sipush 600, 3) := by decide +kernel
theorem dX5_init_70 : decode cX5_init 70 = .ok (.newarray .int, 2) := by decide +kernel
theorem dX5_init_72 : decode cX5_init 72 = .ok (.putfield 31, 3) := by decide +kernel
theorem dX5_init_75 : decode cX5_init 75 = .ok (.aload_n 0, 1) := by decide +kernel
theorem dX5_init_76 : decode cX5_init 76 = .ok (.sipush 200, 3) := by decide +kernel
theorem dX5_init_79 : decode cX5_init 79 = .ok (.newarray .boolean, 2) := by decide +kernel
theorem dX5_init_81 : decode cX5_init 81 = .ok (.putfield 34, 3) := by decide +kernel
theorem dX5_init_84 : decode cX5_init 84 = .ok (.aload_n 0, 1) := by decide +kernel
theorem dX5_init_85 : decode cX5_init 85 = .ok (.sipush 200, 3) := by decide +kernel
theorem dX5_init_88 : decode cX5_init 88 = .ok (.newarray .int, 2) := by decide +kernel
theorem dX5_init_90 : decode cX5_init 90 = .ok (.putfield 38, 3) := by decide +kernel
theorem dX5_init_93 : decode cX5_init 93 = .ok (.aload_n 0, 1) := by decide +kernel
theorem dX5_init_94 : decode cX5_init 94 = .ok (.sipush 200, 3) := by decide +kernel
theorem dX5_init_97 : decode cX5_init 97 = .ok (.newarray .int, 2) := by decide +kernel
theorem dX5_init_99 : decode cX5_init 99 = .ok (.putfield 41, 3) := by decide +kernel
theorem dX5_init_102 : decode cX5_init 102 = .ok (.aload_n 0, 1) := by decide +kernel
theorem dX5_init_103 : decode cX5_init 103 = .ok (.sipush 200, 3) := by decide +kernel
theorem dX5_init_106 : decode cX5_init 106 = .ok (.newarray .int, 2) := by decide +kernel
theorem dX5_init_108 : decode cX5_init 108 = .ok (.putfield 44, 3) := by decide +kernel
theorem dX5_init_111 : decode cX5_init 111 = .ok (.aload_n 0, 1) := by decide +kernel
theorem dX5_init_112 : decode cX5_init 112 = .ok (.sipush 200, 3) := by decide +kernel
theorem dX5_init_115 : decode cX5_init 115 = .ok (.newarray .boolean, 2) := by decide +kernel
theorem dX5_init_117 : decode cX5_init 117 = .ok (.putfield 47, 3) := by decide +kernel
theorem dX5_init_120 : decode cX5_init 120 = .ok (.aload_n 0, 1) := by decide +kernel
theorem dX5_init_121 : decode cX5_init 121 = .ok (.iconst (-1), 1) := by decide +kernel
theorem dX5_init_122 : decode cX5_init 122 = .ok (.putfield 50, 3) := by decide +kernel
theorem dX5_init_125 : decode cX5_init 125 = .ok (.aload_n 0, 1) := by decide +kernel
theorem dX5_init_126 : decode cX5_init 126 = .ok (.sipush 200, 3) := by decide +kernel
theorem dX5_init_129 : decode cX5_init 129 = .ok (.newarray .boolean, 2) := by decide +kernel
theorem dX5_init_131 : decode cX5_init 131 = .ok (.putfield 54, 3) := by decide +kernel
theorem dX5_init_134 : decode cX5_init 134 = .ok (.aload_n 0, 1) := by decide +kernel
theorem dX5_init_135 : decode cX5_init 135 = .ok (.ldc 57, 2) := by decide +kernel
theorem dX5_init_137 : decode cX5_init 137 = .ok (.newarray .boolean, 2) := by decide +kernel
theorem dX5_init_139 : decode cX5_init 139 = .ok (.putfield 58, 3) := by decide +kernel
theorem dX5_init_142 : decode cX5_init 142 = .ok (.aload_n 0, 1) := by decide +kernel
theorem dX5_init_143 : decode cX5_init 143 = .ok (.sipush 200, 3) := by decide +kernel
theorem dX5_init_146 : decode cX5_init 146 = .ok (.newarray .boolean, 2) := by decide +kernel
theorem dX5_init_148 : decode cX5_init 148 = .ok (.putfield 61, 3) := by decide +kernel
theorem dX5_init_151 : decode cX5_init 151 = .ok (.aload_n 0, 1) := by decide +kernel
theorem dX5_init_152 : decode cX5_init 152 = .ok (.sipush 200, 3) := by decide +kernel
theorem dX5_init_155 : decode cX5_init 155 = .ok (.newarray .boolean, 2) := by decide +kernel
theorem dX5_init_157 : decode cX5_init 157 = .ok (.putfield 64, 3) := by decide +kernel
theorem dX5_init_160 : decode cX5_init 160 = .ok (.aload_n 0, 1) := by decide +kernel
theorem dX5_init_161 : decode cX5_init 161 = .ok (.sipush 200, 3) := by decide +kernel
theorem dX5_init_164 : decode cX5_init 164 = .ok (.newarray .int, 2) := by decide +kernel
theorem dX5_init_166 : decode cX5_init 166 = .ok (.putfield 67, 3) := by decide +kernel
theorem dX5_init_169 : decode cX5_init 169 = .ok (.aload_n 0, 1) := by decide +kernel
theorem dX5_init_170 : decode cX5_init 170 = .ok (.sipush 200, 3) := by decide +kernel
theorem dX5_init_173 : decode cX5_init 173 = .ok (.newarray .int, 2) := by decide +kernel
theorem dX5_init_175 : decode cX5_init 175 = .ok (.putfield 70, 3) := by decide +kernel
theorem dX5_init_178 : decode cX5_init 178 = .ok (.return_, 1) := by decide +kernel
theorem dX5_thrown_0 : decode cX5_thrown 0 = .ok (.aload_n 0, 1) := by decide +kernel
theorem dX5_thrown_1 : decode cX5_thrown 1 = .ok (.getfield 73, 3) := by decide +kernel
theorem dX5_thrown_4 : decode cX5_thrown 4 = .ok (.ireturn, 1) := by decide +kernel
theorem dX5_changed_0 : decode cX5_changed 0 = .ok (.aload_n 0, 1) := by decide +kernel
theorem dX5_changed_1 : decode cX5_changed 1 = .ok (.iconst 0, 1) := by decide +kernel
theorem dX5_changed_2 : decode cX5_changed 2 = .ok (.putfield 76, 3) := by decide +kernel
theorem dX5_changed_5 : decode cX5_changed 5 = .ok (.aload_n 0, 1) := by decide +kernel
theorem dX5_changed_6 : decode cX5_changed 6 = .ok (.iconst (-1), 1) := by decide +kernel
theorem dX5_changed_7 : decode cX5_changed 7 = .ok (.putfield 50, 3) := by decide +kernel
theorem dX5_changed_10 : decode cX5_changed 10 = .ok (.return_, 1) := by decide +kernel
theorem dX5_state_0 : decode cX5_state 0 = .ok (.aload_n 0, 1) := by decide +kernel
theorem dX5_state_1 : decode cX5_state 1 = .ok (.iload_n 1, 1) := by decide +kernel
theorem dX5_state_2 : decode cX5_state 2 = .ok (.ifCond .lt 10, 3) := by decide +kernel
theorem dX5_state_5 : decode cX5_state 5 = .ok (.iload_n 1, 1) := by decide +kernel
theorem dX5_state_6 : decode cX5_state 6 = .ok (.sipush 255, 3) := by decide +kernel
theorem dX5_state_9 : decode cX5_state 9 = .ok (.if_icmp .le 7, 3) := by decide +kernel
theorem dX5_state_12 : decode cX5_state 12 = .ok (.iconst 1, 1) := by decide +kernel
theorem dX5_state_13 : decode cX5_state 13 = .ok (.goto 18, 3) := by decide +kernel
theorem dX5_state_16 : decode cX5_state 16 = .ok (.aload_n 0, 1) := by decide +kernel
theorem dX5_state_17 : decode cX5_state 17 = .ok (.getfield 80, 3) := by decide +kernel
theorem dX5_state_20 : decode cX5_state 20 = .ok (.sipush 200, 3) := by decide +kernel
theorem dX5_state_23 : decode cX5_state 23 = .ok (.if_icmp .ne 7, 3) := by decide +kernel
theorem dX5_state_26 : decode cX5_state 26 = .ok (.iconst 2, 1) := by decide +kernel
theorem dX5_state_27 : decode cX5_state 27 = .ok (.goto 4, 3) := by decide +kernel
theorem dX5_state_30 : decode cX5_state 30 = .ok (.iconst 0, 1) := by decide +kernel
theorem dX5_state_31 : decode cX5_state 31 = .ok (.putfield 73, 3) := by decide +kernel
theorem dX5_state_34 : decode cX5_state 34 = .ok (.aload_n 0, 1) := by decide +kernel
theorem dX5_state_35 : decode cX5_state 35 = .ok (.getfield 73, 3) := by decide +kernel
theorem dX5_state_38 : decode cX5_state 38 = .ok (.ifCond .le 5, 3) := by decide +kernel
theorem dX5_state_41 : decode cX5_state 41 = .ok (.iconst 0, 1) := by decide +kernel
theorem dX5_state_42 : decode cX5_state 42 = .ok (.ireturn, 1) := by decide +kernel
theorem dX5_state_43 : decode cX5_state 43 = .ok (.aload_n 0, 1) := by decide +kernel
theorem dX5_state_44 : decode cX5_state 44 = .ok (.getfield 7, 3) := by decide +kernel
theorem dX5_state_47 : decode cX5_state 47 = .ok (.aload_n 0, 1) := by decide +kernel
theorem dX5_state_48 : decode cX5_state 48 = .ok (.getfield 80, 3) := by decide +kernel
theorem dX5_state_51 : decode cX5_state 51 = .ok (.iload_n 1, 1) := by decide +kernel
theorem dX5_state_52 : decode cX5_state 52 = .ok (.iastore, 1) := by decide +kernel
theorem dX5_state_53 : decode cX5_state 53 = .ok (.aload_n 0, 1) := by decide +kernel
theorem dX5_state_54 : decode cX5_state 54 = .ok (.getfield 34, 3) := by decide +kernel
theorem dX5_state_57 : decode cX5_state 57 = .ok (.aload_n 0, 1) := by decide +kernel
theorem dX5_state_58 : decode cX5_state 58 = .ok (.getfield 80, 3) := by decide +kernel
theorem dX5_state_61 : decode cX5_state 61 = .ok (.iload_n 2, 1) := by decide +kernel
theorem dX5_state_62 : decode cX5_state 62 = .ok (.bastore, 1) := by decide +kernel
theorem dX5_state_63 : decode cX5_state 63 = .ok (.aload_n 0, 1) := by decide +kernel
theorem dX5_state_64 : decode cX5_state 64 = .ok (.getfield 25, 3) := by decide +kernel
theorem dX5_state_67 : decode cX5_state 67 = .ok (.aload_n 0, 1) := by decide +kernel
theorem dX5_state_68 : decode cX5_state 68 = .ok (.getfield 80, 3) := by decide +kernel
theorem dX5_state_71 : decode cX5_state 71 = .ok (.iconst (-1), 1) := by decide +kernel
theorem dX5_state_72 : decode cX5_state 72 = .ok (.iastore, 1) := by decide +kernel
theorem dX5_state_73 : decode cX5_state 73 = .ok (.aload_n 0, 1) := by decide +kernel
theorem dX5_state_74 : decode cX5_state 74 = .ok (.getfield 28, 3) := by decide +kernel
theorem dX5_state_77 : decode cX5_state 77 = .ok (.aload_n 0, 1) := by decide +kernel
theorem dX5_state_78 : decode cX5_state 78 = .ok (.getfield 80, 3) := by decide +kernel
theorem dX5_state_81 : decode cX5_state 81 = .ok (.iconst (-1), 1) := by decide +kernel
theorem dX5_state_82 : decode cX5_state 82 = .ok (.iastore, 1) := by decide +kernel
theorem dX5_state_83 : decode cX5_state 83 = .ok (.aload_n 0, 1) := by decide +kernel
theorem dX5_state_84 : decode cX5_state 84 = .ok (.dup, 1) := by decide +kernel
theorem dX5_state_85 : decode cX5_state 85 = .ok (.getfield 80, 3) := by decide +kernel
theorem dX5_state_88 : decode cX5_state 88 = .ok (.iconst 1, 1) := by decide +kernel
theorem dX5_state_89 : decode cX5_state 89 = .ok (.iadd, 1) := by decide +kernel
theorem dX5_state_90 : decode cX5_state 90 = .ok (.putfield 80, 3) := by decide +kernel
theorem dX5_state_93 : decode cX5_state 93 = .ok (.aload_n 0, 1) := by decide +kernel
theorem dX5_state_94 : decode cX5_state 94 = .ok (.invokevirtual 83, 3) := by decide +kernel
theorem dX5_state_97 : decode cX5_state 97 = .ok (.aload_n 0, 1) := by decide +kernel
theorem dX5_state_98 : decode cX5_state 98 = .ok (.getfield 80, 3) := by decide +kernel
theorem dX5_state_101 : decode cX5_state 101 = .ok (.iconst 1, 1) := by decide +kernel
theorem dX5_state_102 : decode cX5_state 102 = .ok (.isub, 1) := by decide +kernel
theorem dX5_state_103 : decode cX5_state 103 = .ok (.ireturn, 1) := by decide +kernel
theorem dX5_isState_0 : decode cX5_isState 0 = .ok (.iload_n 1, 1) := by decide +kernel
theorem dX5_isState_1 : decode cX5_isState 1 = .ok (.ifCond .lt 15, 3) := by decide +kernel
theorem dX5_isState_4 : decode cX5_isState 4 = .ok (.iload_n 1, 1) := by decide +kernel
theorem dX5_isState_5 : decode cX5_isState 5 = .ok (.aload_n 0, 1) := by decide +kernel
theorem dX5_isState_6 : decode cX5_isState 6 = .ok (.getfield 80, 3) := by decide +kernel
theorem dX5_isState_9 : decode cX5_isState 9 = .ok (.if_icmp .ge 7, 3) := by decide +kernel
theorem dX5_isState_12 : decode cX5_isState 12 = .ok (.iconst 1, 1) := by decide +kernel
theorem dX5_isState_13 : decode cX5_isState 13 = .ok (.goto 4, 3) := by decide +kernel
theorem dX5_isState_16 : decode cX5_isState 16 = .ok (.iconst 0, 1) := by decide +kernel
theorem dX5_isState_17 : decode cX5_isState 17 = .ok (.ireturn, 1) := by decide +kernel
theorem dX5_move_0 : decode cX5_move 0 = .ok (.aload_n 0, 1) := by decide +kernel
theorem dX5_move_1 : decode cX5_move 1 = .ok (.iload_n 1, 1) := by decide +kernel
theorem dX5_move_2 : decode cX5_move 2 = .ok (.invokevirtual 86, 3) := by decide +kernel
theorem dX5_move_5 : decode cX5_move 5 = .ok (.ifCond .eq 26, 3) := by decide +kernel
theorem dX5_move_8 : decode cX5_move 8 = .ok (.aload_n 0, 1) := by decide +kernel
theorem dX5_move_9 : decode cX5_move 9 = .ok (.iload_n 2, 1) := by decide +kernel
theorem dX5_move_10 : decode cX5_move 10 = .ok (.invokevirtual 86, 3) := by decide +kernel
theorem dX5_move_13 : decode cX5_move 13 = .ok (.ifCond .eq 18, 3) := by decide +kernel
theorem dX5_move_16 : decode cX5_move 16 = .ok (.iload_n 3, 1) := by decide +kernel
theorem dX5_move_17 : decode cX5_move 17 = .ok (.iconst (-1), 1) := by decide +kernel
theorem dX5_move_18 : decode cX5_move 18 = .ok (.if_icmp .lt 13, 3) := by decide +kernel
theorem dX5_move_21 : decode cX5_move 21 = .ok (.iload_n 3, 1) := by decide +kernel
theorem dX5_move_22 : decode cX5_move 22 = .ok (.bipush 16, 2) := by decide +kernel
theorem dX5_move_24 : decode cX5_move 24 = .ok (.if_icmp .ge 7, 3) := by decide +kernel
theorem dX5_move_27 : decode cX5_move 27 = .ok (.iconst 1, 1) := by decide +kernel
theorem dX5_move_28 : decode cX5_move 28 = .ok (.goto 4, 3) := by decide +kernel
theorem dX5_move_31 : decode cX5_move 31 = .ok (.iconst 0, 1) := by decide +kernel
theorem dX5_move_32 : decode cX5_move 32 = .ok (.istore 4, 2) := by decide +kernel
theorem dX5_move_34 : decode cX5_move 34 = .ok (.aload_n 0, 1) := by decide +kernel
theorem dX5_move_35 : decode cX5_move 35 = .ok (.iload 4, 2) := by decide +kernel
theorem dX5_move_37 : decode cX5_move 37 = .ok (.ifCond .ne 7, 3) := by decide +kernel
theorem dX5_move_40 : decode cX5_move 40 = .ok (.iconst 1, 1) := by decide +kernel
theorem dX5_move_41 : decode cX5_move 41 = .ok (.goto 18, 3) := by decide +kernel
theorem dX5_move_44 : decode cX5_move 44 = .ok (.aload_n 0, 1) := by decide +kernel
theorem dX5_move_45 : decode cX5_move 45 = .ok (.getfield 90, 3) := by decide +kernel
theorem dX5_move_48 : decode cX5_move 48 = .ok (.sipush 600, 3) := by decide +kernel
theorem dX5_move_51 : decode cX5_move 51 = .ok (.if_icmp .ne 7, 3) := by decide +kernel
theorem dX5_move_54 : decode cX5_move 54 = .ok (.iconst 2, 1) := by decide +kernel
theorem dX5_move_55 : decode cX5_move 55 = .ok (.goto 4, 3) := by decide +kernel
theorem dX5_move_58 : decode cX5_move 58 = .ok (.iconst 0, 1) := by decide +kernel
theorem dX5_move_59 : decode cX5_move 59 = .ok (.putfield 73, 3) := by decide +kernel
theorem dX5_move_62 : decode cX5_move 62 = .ok (.aload_n 0, 1) := by decide +kernel
theorem dX5_move_63 : decode cX5_move 63 = .ok (.getfield 73, 3) := by decide +kernel
theorem dX5_move_66 : decode cX5_move 66 = .ok (.ifCond .le 5, 3) := by decide +kernel
theorem dX5_move_69 : decode cX5_move 69 = .ok (.iconst 0, 1) := by decide +kernel
theorem dX5_move_70 : decode cX5_move 70 = .ok (.ireturn, 1) := by decide +kernel
theorem dX5_move_71 : decode cX5_move 71 = .ok (.aload_n 0, 1) := by decide +kernel
theorem dX5_move_72 : decode cX5_move 72 = .ok (.getfield 13, 3) := by decide +kernel
theorem dX5_move_75 : decode cX5_move 75 = .ok (.aload_n 0, 1) := by decide +kernel
theorem dX5_move_76 : decode cX5_move 76 = .ok (.getfield 90, 3) := by decide +kernel
theorem dX5_move_79 : decode cX5_move 79 = .ok (.iload_n 1, 1) := by decide +kernel
theorem dX5_move_80 : decode cX5_move 80 = .ok (.iastore, 1) := by decide +kernel
theorem dX5_move_81 : decode cX5_move 81 = .ok (.aload_n 0, 1) := by decide +kernel
theorem dX5_move_82 : decode cX5_move 82 = .ok (.getfield 16, 3) := by decide +kernel
theorem dX5_move_85 : decode cX5_move 85 = .ok (.aload_n 0, 1) := by decide +kernel
theorem dX5_move_86 : decode cX5_move 86 = .ok (.getfield 90, 3) := by decide +kernel
theorem dX5_move_89 : decode cX5_move 89 = .ok (.iload_n 2, 1) := by decide +kernel
theorem dX5_move_90 : decode cX5_move 90 = .ok (.iastore, 1) := by decide +kernel
theorem dX5_move_91 : decode cX5_move 91 = .ok (.aload_n 0, 1) := by decide +kernel
theorem dX5_move_92 : decode cX5_move 92 = .ok (.getfield 19, 3) := by decide +kernel
theorem dX5_move_95 : decode cX5_move 95 = .ok (.aload_n 0, 1) := by decide +kernel
theorem dX5_move_96 : decode cX5_move 96 = .ok (.getfield 90, 3) := by decide +kernel
theorem dX5_move_99 : decode cX5_move 99 = .ok (.iload_n 3, 1) := by decide +kernel
theorem dX5_move_100 : decode cX5_move 100 = .ok (.iastore, 1) := by decide +kernel
theorem dX5_move_101 : decode cX5_move 101 = .ok (.aload_n 0, 1) := by decide +kernel
theorem dX5_move_102 : decode cX5_move 102 = .ok (.getfield 31, 3) := by decide +kernel
theorem dX5_move_105 : decode cX5_move 105 = .ok (.aload_n 0, 1) := by decide +kernel
theorem dX5_move_106 : decode cX5_move 106 = .ok (.getfield 90, 3) := by decide +kernel
theorem dX5_move_109 : decode cX5_move 109 = .ok (.iconst (-1), 1) := by decide +kernel
theorem dX5_move_110 : decode cX5_move 110 = .ok (.iastore, 1) := by decide +kernel
theorem dX5_move_111 : decode cX5_move 111 = .ok (.aload_n 0, 1) := by decide +kernel
theorem dX5_move_112 : decode cX5_move 112 = .ok (.getfield 25, 3) := by decide +kernel
theorem dX5_move_115 : decode cX5_move 115 = .ok (.iload_n 1, 1) := by decide +kernel
theorem dX5_move_116 : decode cX5_move 116 = .ok (.iaload, 1) := by decide +kernel
theorem dX5_move_117 : decode cX5_move 117 = .ok (.iconst (-1), 1) := by decide +kernel
theorem dX5_move_118 : decode cX5_move 118 = .ok (.if_icmp .ne 16, 3) := by decide +kernel
theorem dX5_move_121 : decode cX5_move 121 = .ok (.aload_n 0, 1) := by decide +kernel
theorem dX5_move_122 : decode cX5_move 122 = .ok (.getfield 25, 3) := by decide +kernel
theorem dX5_move_125 : decode cX5_move 125 = .ok (.iload_n 1, 1) := by decide +kernel
theorem dX5_move_126 : decode cX5_move 126 = .ok (.aload_n 0, 1) := by decide +kernel
theorem dX5_move_127 : decode cX5_move 127 = .ok (.getfield 90, 3) := by decide +kernel
theorem dX5_move_130 : decode cX5_move 130 = .ok (.iastore, 1) := by decide +kernel
theorem dX5_move_131 : decode cX5_move 131 = .ok (.goto 18, 3) := by decide +kernel
theorem dX5_move_134 : decode cX5_move 134 = .ok (.aload_n 0, 1) := by decide +kernel
theorem dX5_move_135 : decode cX5_move 135 = .ok (.getfield 31, 3) := by decide +kernel
theorem dX5_move_138 : decode cX5_move 138 = .ok (.aload_n 0, 1) := by decide +kernel
theorem dX5_move_139 : decode cX5_move 139 = .ok (.getfield 28, 3) := by decide +kernel
theorem dX5_move_142 : decode cX5_move 142 = .ok (.iload_n 1, 1) := by decide +kernel
theorem dX5_move_143 : decode cX5_move 143 = .ok (.iaload, 1) := by decide +kernel
theorem dX5_move_144 : decode cX5_move 144 = .ok (.aload_n 0, 1) := by decide +kernel
theorem dX5_move_145 : decode cX5_move 145 = .ok (.getfield 90, 3) := by decide +kernel
theorem dX5_move_148 : decode cX5_move 148 = .ok (.iastore, 1) := by decide +kernel
theorem dX5_move_149 : decode cX5_move 149 = .ok (.aload_n 0, 1) := by decide +kernel
theorem dX5_move_150 : decode cX5_move 150 = .ok (.getfield 28, 3) := by decide +kernel
theorem dX5_move_153 : decode cX5_move 153 = .ok (.iload_n 1, 1) := by decide +kernel
theorem dX5_move_154 : decode cX5_move 154 = .ok (.aload_n 0, 1) := by decide +kernel
theorem dX5_move_155 : decode cX5_move 155 = .ok (.getfield 90, 3) := by decide +kernel
theorem dX5_move_158 : decode cX5_move 158 = .ok (.iastore, 1) := by decide +kernel
theorem dX5_move_159 : decode cX5_move 159 = .ok (.aload_n 0, 1) := by decide +kernel
theorem dX5_move_160 : decode cX5_move 160 = .ok (.dup, 1) := by decide +kernel
theorem dX5_move_161 : decode cX5_move 161 = .ok (.getfield 90, 3) := by decide +kernel
theorem dX5_move_164 : decode cX5_move 164 = .ok (.iconst 1, 1) := by decide +kernel
theorem dX5_move_165 : decode cX5_move 165 = .ok (.iadd, 1) := by decide +kernel
theorem dX5_move_166 : decode cX5_move 166 = .ok (.putfield 90, 3) := by decide +kernel
theorem dX5_move_169 : decode cX5_move 169 = .ok (.aload_n 0, 1) := by decide +kernel
theorem dX5_move_170 : decode cX5_move 170 = .ok (.invokevirtual 83, 3) := by decide +kernel
theorem dX5_move_173 : decode cX5_move 173 = .ok (.aload_n 0, 1) := by decide +kernel
theorem dX5_move_174 : decode cX5_move 174 = .ok (.getfield 90, 3) := by decide +kernel
theorem dX5_move_177 : decode cX5_move 177 = .ok (.iconst 1, 1) := by decide +kernel
theorem dX5_move_178 : decode cX5_move 178 = .ok (.isub, 1) := by decide +kernel
theorem dX5_move_179 : decode cX5_move 179 = .ok (.ireturn, 1) := by decide +kernel
theorem dX5_label_0 : decode cX5_label 0 = .ok (.aload_n 0, 1) := by decide +kernel
theorem dX5_label_1 : decode cX5_label 1 = .ok (.iload_n 1, 1) := by decide +kernel
theorem dX5_label_2 : decode cX5_label 2 = .ok (.ifCond .lt 9, 3) := by decide +kernel
theorem dX5_label_5 : decode cX5_label 5 = .ok (.iload_n 1, 1) := by decide +kernel
theorem dX5_label_6 : decode cX5_label 6 = .ok (.bipush 16, 2) := by decide +kernel
theorem dX5_label_8 : decode cX5_label 8 = .ok (.if_icmp .lt 7, 3) := by decide +kernel
theorem dX5_label_11 : decode cX5_label 11 = .ok (.iconst 1, 1) := by decide +kernel
theorem dX5_label_12 : decode cX5_label 12 = .ok (.goto 17, 3) := by decide +kernel
theorem dX5_label_15 : decode cX5_label 15 = .ok (.iload_n 2, 1) := by decide +kernel
theorem dX5_label_16 : decode cX5_label 16 = .ok (.ifCond .lt 8, 3) := by decide +kernel
theorem dX5_label_19 : decode cX5_label 19 = .ok (.iload_n 2, 1) := by decide +kernel
theorem dX5_label_20 : decode cX5_label 20 = .ok (.iconst 2, 1) := by decide +kernel
theorem dX5_label_21 : decode cX5_label 21 = .ok (.if_icmp .le 7, 3) := by decide +kernel
theorem dX5_label_24 : decode cX5_label 24 = .ok (.iconst 2, 1) := by decide +kernel
theorem dX5_label_25 : decode cX5_label 25 = .ok (.goto 4, 3) := by decide +kernel
theorem dX5_label_28 : decode cX5_label 28 = .ok (.iconst 0, 1) := by decide +kernel
theorem dX5_label_29 : decode cX5_label 29 = .ok (.putfield 73, 3) := by decide +kernel
theorem dX5_label_32 : decode cX5_label 32 = .ok (.aload_n 0, 1) := by decide +kernel
theorem dX5_label_33 : decode cX5_label 33 = .ok (.getfield 73, 3) := by decide +kernel
theorem dX5_label_36 : decode cX5_label 36 = .ok (.ifCond .le 5, 3) := by decide +kernel
theorem dX5_label_39 : decode cX5_label 39 = .ok (.iconst 0, 1) := by decide +kernel
theorem dX5_label_40 : decode cX5_label 40 = .ok (.ireturn, 1) := by decide +kernel
theorem dX5_label_41 : decode cX5_label 41 = .ok (.aload_n 0, 1) := by decide +kernel
theorem dX5_label_42 : decode cX5_label 42 = .ok (.getfield 22, 3) := by decide +kernel
theorem dX5_label_45 : decode cX5_label 45 = .ok (.iload_n 1, 1) := by decide +kernel
theorem dX5_label_46 : decode cX5_label 46 = .ok (.iaload, 1) := by decide +kernel
theorem dX5_label_47 : decode cX5_label 47 = .ok (.istore_n 3, 1) := by decide +kernel
theorem dX5_label_48 : decode cX5_label 48 = .ok (.aload_n 0, 1) := by decide +kernel
theorem dX5_label_49 : decode cX5_label 49 = .ok (.getfield 22, 3) := by decide +kernel
theorem dX5_label_52 : decode cX5_label 52 = .ok (.iload_n 1, 1) := by decide +kernel
theorem dX5_label_53 : decode cX5_label 53 = .ok (.iload_n 2, 1) := by decide +kernel
theorem dX5_label_54 : decode cX5_label 54 = .ok (.iastore, 1) := by decide +kernel
theorem dX5_label_55 : decode cX5_label 55 = .ok (.aload_n 0, 1) := by decide +kernel
theorem dX5_label_56 : decode cX5_label 56 = .ok (.invokevirtual 83, 3) := by decide +kernel
theorem dX5_label_59 : decode cX5_label 59 = .ok (.iload_n 3, 1) := by decide +kernel
theorem dX5_label_60 : decode cX5_label 60 = .ok (.ireturn, 1) := by decide +kernel
theorem dX5_walk_0 : decode cX5_walk 0 = .ok (.aload_n 0, 1) := by decide +kernel
theorem dX5_walk_1 : decode cX5_walk 1 = .ok (.getfield 76, 3) := by decide +kernel
theorem dX5_walk_4 : decode cX5_walk 4 = .ok (.ifCond .eq 4, 3) := by decide +kernel
theorem dX5_walk_7 : decode cX5_walk 7 = .ok (.return_, 1) := by decide +kernel
theorem dX5_walk_8 : decode cX5_walk 8 = .ok (.aload_n 0, 1) := by decide +kernel
theorem dX5_walk_9 : decode cX5_walk 9 = .ok (.iconst 1, 1) := by decide +kernel
theorem dX5_walk_10 : decode cX5_walk 10 = .ok (.putfield 76, 3) := by decide +kernel
theorem dX5_walk_13 : decode cX5_walk 13 = .ok (.aload_n 0, 1) := by decide +kernel
theorem dX5_walk_14 : decode cX5_walk 14 = .ok (.iconst 0, 1) := by decide +kernel
theorem dX5_walk_15 : decode cX5_walk 15 = .ok (.putfield 93, 3) := by decide +kernel
theorem dX5_walk_18 : decode cX5_walk 18 = .ok (.iconst 0, 1) := by decide +kernel
theorem dX5_walk_19 : decode cX5_walk 19 = .ok (.istore_n 1, 1) := by decide +kernel
theorem dX5_walk_20 : decode cX5_walk 20 = .ok (.iload_n 1, 1) := by decide +kernel
theorem dX5_walk_21 : decode cX5_walk 21 = .ok (.aload_n 0, 1) := by decide +kernel
theorem dX5_walk_22 : decode cX5_walk 22 = .ok (.getfield 80, 3) := by decide +kernel
theorem dX5_walk_25 : decode cX5_walk 25 = .ok (.if_icmp .ge 16, 3) := by decide +kernel
theorem dX5_walk_28 : decode cX5_walk 28 = .ok (.aload_n 0, 1) := by decide +kernel
theorem dX5_walk_29 : decode cX5_walk 29 = .ok (.getfield 47, 3) := by decide +kernel
theorem dX5_walk_32 : decode cX5_walk 32 = .ok (.iload_n 1, 1) := by decide +kernel
theorem dX5_walk_33 : decode cX5_walk 33 = .ok (.iconst 0, 1) := by decide +kernel
theorem dX5_walk_34 : decode cX5_walk 34 = .ok (.bastore, 1) := by decide +kernel
theorem dX5_walk_35 : decode cX5_walk 35 = .ok (.iinc 1 1, 3) := by decide +kernel
theorem dX5_walk_38 : decode cX5_walk 38 = .ok (.goto (-18), 3) := by decide +kernel
theorem dX5_walk_41 : decode cX5_walk 41 = .ok (.aload_n 0, 1) := by decide +kernel
theorem dX5_walk_42 : decode cX5_walk 42 = .ok (.getfield 80, 3) := by decide +kernel
theorem dX5_walk_45 : decode cX5_walk 45 = .ok (.ifCond .ne 4, 3) := by decide +kernel
theorem dX5_walk_48 : decode cX5_walk 48 = .ok (.return_, 1) := by decide +kernel
theorem dX5_walk_49 : decode cX5_walk 49 = .ok (.aload_n 0, 1) := by decide +kernel
theorem dX5_walk_50 : decode cX5_walk 50 = .ok (.getfield 47, 3) := by decide +kernel
theorem dX5_walk_53 : decode cX5_walk 53 = .ok (.iconst 0, 1) := by decide +kernel
theorem dX5_walk_54 : decode cX5_walk 54 = .ok (.iconst 1, 1) := by decide +kernel
theorem dX5_walk_55 : decode cX5_walk 55 = .ok (.bastore, 1) := by decide +kernel
theorem dX5_walk_56 : decode cX5_walk 56 = .ok (.aload_n 0, 1) := by decide +kernel
theorem dX5_walk_57 : decode cX5_walk 57 = .ok (.getfield 41, 3) := by decide +kernel
theorem dX5_walk_60 : decode cX5_walk 60 = .ok (.iconst 0, 1) := by decide +kernel
theorem dX5_walk_61 : decode cX5_walk 61 = .ok (.iconst (-1), 1) := by decide +kernel
theorem dX5_walk_62 : decode cX5_walk 62 = .ok (.iastore, 1) := by decide +kernel
theorem dX5_walk_63 : decode cX5_walk 63 = .ok (.aload_n 0, 1) := by decide +kernel
theorem dX5_walk_64 : decode cX5_walk 64 = .ok (.getfield 38, 3) := by decide +kernel
theorem dX5_walk_67 : decode cX5_walk 67 = .ok (.iconst 0, 1) := by decide +kernel
theorem dX5_walk_68 : decode cX5_walk 68 = .ok (.iconst 0, 1) := by decide +kernel
theorem dX5_walk_69 : decode cX5_walk 69 = .ok (.iastore, 1) := by decide +kernel
theorem dX5_walk_70 : decode cX5_walk 70 = .ok (.aload_n 0, 1) := by decide +kernel
theorem dX5_walk_71 : decode cX5_walk 71 = .ok (.iconst 1, 1) := by decide +kernel
theorem dX5_walk_72 : decode cX5_walk 72 = .ok (.putfield 93, 3) := by decide +kernel
theorem dX5_walk_75 : decode cX5_walk 75 = .ok (.iconst 0, 1) := by decide +kernel
theorem dX5_walk_76 : decode cX5_walk 76 = .ok (.istore_n 1, 1) := by decide +kernel
theorem dX5_walk_77 : decode cX5_walk 77 = .ok (.iload_n 1, 1) := by decide +kernel
theorem dX5_walk_78 : decode cX5_walk 78 = .ok (.aload_n 0, 1) := by decide +kernel
theorem dX5_walk_79 : decode cX5_walk 79 = .ok (.getfield 93, 3) := by decide +kernel
theorem dX5_walk_82 : decode cX5_walk 82 = .ok (.if_icmp .ge 99, 3) := by decide +kernel
theorem dX5_walk_85 : decode cX5_walk 85 = .ok (.aload_n 0, 1) := by decide +kernel
theorem dX5_walk_86 : decode cX5_walk 86 = .ok (.getfield 25, 3) := by decide +kernel
theorem dX5_walk_89 : decode cX5_walk 89 = .ok (.aload_n 0, 1) := by decide +kernel
theorem dX5_walk_90 : decode cX5_walk 90 = .ok (.getfield 38, 3) := by decide +kernel
theorem dX5_walk_93 : decode cX5_walk 93 = .ok (.iload_n 1, 1) := by decide +kernel
theorem dX5_walk_94 : decode cX5_walk 94 = .ok (.iaload, 1) := by decide +kernel
theorem dX5_walk_95 : decode cX5_walk 95 = .ok (.iaload, 1) := by decide +kernel
theorem dX5_walk_96 : decode cX5_walk 96 = .ok (.istore_n 2, 1) := by decide +kernel
theorem dX5_walk_97 : decode cX5_walk 97 = .ok (.iload_n 2, 1) := by decide +kernel
theorem dX5_walk_98 : decode cX5_walk 98 = .ok (.iconst (-1), 1) := by decide +kernel
theorem dX5_walk_99 : decode cX5_walk 99 = .ok (.if_icmp .eq 76, 3) := by decide +kernel
theorem dX5_walk_102 : decode cX5_walk 102 = .ok (.aload_n 0, 1) := by decide +kernel
theorem dX5_walk_103 : decode cX5_walk 103 = .ok (.getfield 47, 3) := by decide +kernel
theorem dX5_walk_106 : decode cX5_walk 106 = .ok (.aload_n 0, 1) := by decide +kernel
theorem dX5_walk_107 : decode cX5_walk 107 = .ok (.getfield 16, 3) := by decide +kernel
theorem dX5_walk_110 : decode cX5_walk 110 = .ok (.iload_n 2, 1) := by decide +kernel
theorem dX5_walk_111 : decode cX5_walk 111 = .ok (.iaload, 1) := by decide +kernel
theorem dX5_walk_112 : decode cX5_walk 112 = .ok (.baload, 1) := by decide +kernel
theorem dX5_walk_113 : decode cX5_walk 113 = .ok (.ifCond .ne 52, 3) := by decide +kernel
theorem dX5_walk_116 : decode cX5_walk 116 = .ok (.aload_n 0, 1) := by decide +kernel
theorem dX5_walk_117 : decode cX5_walk 117 = .ok (.getfield 47, 3) := by decide +kernel
theorem dX5_walk_120 : decode cX5_walk 120 = .ok (.aload_n 0, 1) := by decide +kernel
theorem dX5_walk_121 : decode cX5_walk 121 = .ok (.getfield 16, 3) := by decide +kernel
theorem dX5_walk_124 : decode cX5_walk 124 = .ok (.iload_n 2, 1) := by decide +kernel
theorem dX5_walk_125 : decode cX5_walk 125 = .ok (.iaload, 1) := by decide +kernel
theorem dX5_walk_126 : decode cX5_walk 126 = .ok (.iconst 1, 1) := by decide +kernel
theorem dX5_walk_127 : decode cX5_walk 127 = .ok (.bastore, 1) := by decide +kernel
theorem dX5_walk_128 : decode cX5_walk 128 = .ok (.aload_n 0, 1) := by decide +kernel
theorem dX5_walk_129 : decode cX5_walk 129 = .ok (.getfield 41, 3) := by decide +kernel
theorem dX5_walk_132 : decode cX5_walk 132 = .ok (.aload_n 0, 1) := by decide +kernel
theorem dX5_walk_133 : decode cX5_walk 133 = .ok (.getfield 16, 3) := by decide +kernel
theorem dX5_walk_136 : decode cX5_walk 136 = .ok (.iload_n 2, 1) := by decide +kernel
theorem dX5_walk_137 : decode cX5_walk 137 = .ok (.iaload, 1) := by decide +kernel
theorem dX5_walk_138 : decode cX5_walk 138 = .ok (.iload_n 2, 1) := by decide +kernel
theorem dX5_walk_139 : decode cX5_walk 139 = .ok (.iastore, 1) := by decide +kernel
theorem dX5_walk_140 : decode cX5_walk 140 = .ok (.aload_n 0, 1) := by decide +kernel
theorem dX5_walk_141 : decode cX5_walk 141 = .ok (.getfield 38, 3) := by decide +kernel
theorem dX5_walk_144 : decode cX5_walk 144 = .ok (.aload_n 0, 1) := by decide +kernel
theorem dX5_walk_145 : decode cX5_walk 145 = .ok (.getfield 93, 3) := by decide +kernel
theorem dX5_walk_148 : decode cX5_walk 148 = .ok (.aload_n 0, 1) := by decide +kernel
theorem dX5_walk_149 : decode cX5_walk 149 = .ok (.getfield 16, 3) := by decide +kernel
theorem dX5_walk_152 : decode cX5_walk 152 = .ok (.iload_n 2, 1) := by decide +kernel
theorem dX5_walk_153 : decode cX5_walk 153 = .ok (.iaload, 1) := by decide +kernel
theorem dX5_walk_154 : decode cX5_walk 154 = .ok (.iastore, 1) := by decide +kernel
theorem dX5_walk_155 : decode cX5_walk 155 = .ok (.aload_n 0, 1) := by decide +kernel
theorem dX5_walk_156 : decode cX5_walk 156 = .ok (.dup, 1) := by decide +kernel
theorem dX5_walk_157 : decode cX5_walk 157 = .ok (.getfield 93, 3) := by decide +kernel
theorem dX5_walk_160 : decode cX5_walk 160 = .ok (.iconst 1, 1) := by decide +kernel
theorem dX5_walk_161 : decode cX5_walk 161 = .ok (.iadd, 1) := by decide +kernel
theorem dX5_walk_162 : decode cX5_walk 162 = .ok (.putfield 93, 3) := by decide +kernel
theorem dX5_walk_165 : decode cX5_walk 165 = .ok (.aload_n 0, 1) := by decide +kernel
theorem dX5_walk_166 : decode cX5_walk 166 = .ok (.getfield 31, 3) := by decide +kernel
theorem dX5_walk_169 : decode cX5_walk 169 = .ok (.iload_n 2, 1) := by decide +kernel
theorem dX5_walk_170 : decode cX5_walk 170 = .ok (.iaload, 1) := by decide +kernel
theorem dX5_walk_171 : decode cX5_walk 171 = .ok (.istore_n 2, 1) := by decide +kernel
theorem dX5_walk_172 : decode cX5_walk 172 = .ok (.goto (-75), 3) := by decide +kernel
theorem dX5_walk_175 : decode cX5_walk 175 = .ok (.iinc 1 1, 3) := by decide +kernel
theorem dX5_walk_178 : decode cX5_walk 178 = .ok (.goto (-101), 3) := by decide +kernel
theorem dX5_walk_181 : decode cX5_walk 181 = .ok (.return_, 1) := by decide +kernel
theorem dX5_reached_0 : decode cX5_reached 0 = .ok (.aload_n 0, 1) := by decide +kernel
theorem dX5_reached_1 : decode cX5_reached 1 = .ok (.iconst 0, 1) := by decide +kernel
theorem dX5_reached_2 : decode cX5_reached 2 = .ok (.putfield 73, 3) := by decide +kernel
theorem dX5_reached_5 : decode cX5_reached 5 = .ok (.aload_n 0, 1) := by decide +kernel
theorem dX5_reached_6 : decode cX5_reached 6 = .ok (.invokevirtual 96, 3) := by decide +kernel
theorem dX5_reached_9 : decode cX5_reached 9 = .ok (.aload_n 0, 1) := by decide +kernel
theorem dX5_reached_10 : decode cX5_reached 10 = .ok (.getfield 93, 3) := by decide +kernel
theorem dX5_reached_13 : decode cX5_reached 13 = .ok (.ireturn, 1) := by decide +kernel
theorem dX5_row_0 : decode cX5_row 0 = .ok (.aload_n 0, 1) := by decide +kernel
theorem dX5_row_1 : decode cX5_row 1 = .ok (.aload_n 0, 1) := by decide +kernel
theorem dX5_row_2 : decode cX5_row 2 = .ok (.iload_n 1, 1) := by decide +kernel
theorem dX5_row_3 : decode cX5_row 3 = .ok (.invokevirtual 86, 3) := by decide +kernel
theorem dX5_row_6 : decode cX5_row 6 = .ok (.ifCond .eq 7, 3) := by decide +kernel
theorem dX5_row_9 : decode cX5_row 9 = .ok (.iload_n 2, 1) := by decide +kernel
theorem dX5_row_10 : decode cX5_row 10 = .ok (.ifCond .ge 7, 3) := by decide +kernel
theorem dX5_row_13 : decode cX5_row 13 = .ok (.iconst 1, 1) := by decide +kernel
theorem dX5_row_14 : decode cX5_row 14 = .ok (.goto 4, 3) := by decide +kernel
theorem dX5_row_17 : decode cX5_row 17 = .ok (.iconst 0, 1) := by decide +kernel
theorem dX5_row_18 : decode cX5_row 18 = .ok (.putfield 73, 3) := by decide +kernel
theorem dX5_row_21 : decode cX5_row 21 = .ok (.aload_n 0, 1) := by decide +kernel
theorem dX5_row_22 : decode cX5_row 22 = .ok (.getfield 73, 3) := by decide +kernel
theorem dX5_row_25 : decode cX5_row 25 = .ok (.ifCond .le 5, 3) := by decide +kernel
theorem dX5_row_28 : decode cX5_row 28 = .ok (.iconst 0, 1) := by decide +kernel
theorem dX5_row_29 : decode cX5_row 29 = .ok (.ireturn, 1) := by decide +kernel
theorem dX5_row_30 : decode cX5_row 30 = .ok (.aload_n 0, 1) := by decide +kernel
theorem dX5_row_31 : decode cX5_row 31 = .ok (.invokevirtual 96, 3) := by decide +kernel
theorem dX5_row_34 : decode cX5_row 34 = .ok (.aload_n 0, 1) := by decide +kernel
theorem dX5_row_35 : decode cX5_row 35 = .ok (.getfield 47, 3) := by decide +kernel
theorem dX5_row_38 : decode cX5_row 38 = .ok (.iload_n 1, 1) := by decide +kernel
theorem dX5_row_39 : decode cX5_row 39 = .ok (.baload, 1) := by decide +kernel
theorem dX5_row_40 : decode cX5_row 40 = .ok (.ifCond .ne 5, 3) := by decide +kernel
theorem dX5_row_43 : decode cX5_row 43 = .ok (.iconst (-1), 1) := by decide +kernel
theorem dX5_row_44 : decode cX5_row 44 = .ok (.ireturn, 1) := by decide +kernel
theorem dX5_row_45 : decode cX5_row 45 = .ok (.iconst 0, 1) := by decide +kernel
theorem dX5_row_46 : decode cX5_row 46 = .ok (.istore_n 3, 1) := by decide +kernel
theorem dX5_row_47 : decode cX5_row 47 = .ok (.iload_n 1, 1) := by decide +kernel
theorem dX5_row_48 : decode cX5_row 48 = .ok (.istore 4, 2) := by decide +kernel
theorem dX5_row_50 : decode cX5_row 50 = .ok (.aload_n 0, 1) := by decide +kernel
theorem dX5_row_51 : decode cX5_row 51 = .ok (.getfield 41, 3) := by decide +kernel
theorem dX5_row_54 : decode cX5_row 54 = .ok (.iload 4, 2) := by decide +kernel
theorem dX5_row_56 : decode cX5_row 56 = .ok (.iaload, 1) := by decide +kernel
theorem dX5_row_57 : decode cX5_row 57 = .ok (.iconst (-1), 1) := by decide +kernel
theorem dX5_row_58 : decode cX5_row 58 = .ok (.if_icmp .eq 36, 3) := by decide +kernel
theorem dX5_row_61 : decode cX5_row 61 = .ok (.aload_n 0, 1) := by decide +kernel
theorem dX5_row_62 : decode cX5_row 62 = .ok (.getfield 44, 3) := by decide +kernel
theorem dX5_row_65 : decode cX5_row 65 = .ok (.iload_n 3, 1) := by decide +kernel
theorem dX5_row_66 : decode cX5_row 66 = .ok (.aload_n 0, 1) := by decide +kernel
theorem dX5_row_67 : decode cX5_row 67 = .ok (.getfield 41, 3) := by decide +kernel
theorem dX5_row_70 : decode cX5_row 70 = .ok (.iload 4, 2) := by decide +kernel
theorem dX5_row_72 : decode cX5_row 72 = .ok (.iaload, 1) := by decide +kernel
theorem dX5_row_73 : decode cX5_row 73 = .ok (.iastore, 1) := by decide +kernel
theorem dX5_row_74 : decode cX5_row 74 = .ok (.iinc 3 1, 3) := by decide +kernel
theorem dX5_row_77 : decode cX5_row 77 = .ok (.aload_n 0, 1) := by decide +kernel
theorem dX5_row_78 : decode cX5_row 78 = .ok (.getfield 13, 3) := by decide +kernel
theorem dX5_row_81 : decode cX5_row 81 = .ok (.aload_n 0, 1) := by decide +kernel
theorem dX5_row_82 : decode cX5_row 82 = .ok (.getfield 41, 3) := by decide +kernel
theorem dX5_row_85 : decode cX5_row 85 = .ok (.iload 4, 2) := by decide +kernel
theorem dX5_row_87 : decode cX5_row 87 = .ok (.iaload, 1) := by decide +kernel
theorem dX5_row_88 : decode cX5_row 88 = .ok (.iaload, 1) := by decide +kernel
theorem dX5_row_89 : decode cX5_row 89 = .ok (.istore 4, 2) := by decide +kernel
theorem dX5_row_91 : decode cX5_row 91 = .ok (.goto (-41), 3) := by decide +kernel
theorem dX5_row_94 : decode cX5_row 94 = .ok (.iload_n 2, 1) := by decide +kernel
theorem dX5_row_95 : decode cX5_row 95 = .ok (.iload_n 3, 1) := by decide +kernel
theorem dX5_row_96 : decode cX5_row 96 = .ok (.if_icmp .ge 16, 3) := by decide +kernel
theorem dX5_row_99 : decode cX5_row 99 = .ok (.aload_n 0, 1) := by decide +kernel
theorem dX5_row_100 : decode cX5_row 100 = .ok (.getfield 44, 3) := by decide +kernel
theorem dX5_row_103 : decode cX5_row 103 = .ok (.iload_n 3, 1) := by decide +kernel
theorem dX5_row_104 : decode cX5_row 104 = .ok (.iconst 1, 1) := by decide +kernel
theorem dX5_row_105 : decode cX5_row 105 = .ok (.isub, 1) := by decide +kernel
theorem dX5_row_106 : decode cX5_row 106 = .ok (.iload_n 2, 1) := by decide +kernel
theorem dX5_row_107 : decode cX5_row 107 = .ok (.isub, 1) := by decide +kernel
theorem dX5_row_108 : decode cX5_row 108 = .ok (.iaload, 1) := by decide +kernel
theorem dX5_row_109 : decode cX5_row 109 = .ok (.goto 4, 3) := by decide +kernel
theorem dX5_row_112 : decode cX5_row 112 = .ok (.iconst (-1), 1) := by decide +kernel
theorem dX5_row_113 : decode cX5_row 113 = .ok (.ireturn, 1) := by decide +kernel
theorem dX5_close_0 : decode cX5_close 0 = .ok (.iconst 0, 1) := by decide +kernel
theorem dX5_close_1 : decode cX5_close 1 = .ok (.istore_n 1, 1) := by decide +kernel
theorem dX5_close_2 : decode cX5_close 2 = .ok (.iload_n 1, 1) := by decide +kernel
theorem dX5_close_3 : decode cX5_close 3 = .ok (.aload_n 0, 1) := by decide +kernel
theorem dX5_close_4 : decode cX5_close 4 = .ok (.getfield 80, 3) := by decide +kernel
theorem dX5_close_7 : decode cX5_close 7 = .ok (.if_icmp .ge 52, 3) := by decide +kernel
theorem dX5_close_10 : decode cX5_close 10 = .ok (.iconst 0, 1) := by decide +kernel
theorem dX5_close_11 : decode cX5_close 11 = .ok (.istore_n 2, 1) := by decide +kernel
theorem dX5_close_12 : decode cX5_close 12 = .ok (.iload_n 2, 1) := by decide +kernel
theorem dX5_close_13 : decode cX5_close 13 = .ok (.aload_n 0, 1) := by decide +kernel
theorem dX5_close_14 : decode cX5_close 14 = .ok (.getfield 80, 3) := by decide +kernel
theorem dX5_close_17 : decode cX5_close 17 = .ok (.if_icmp .ge 22, 3) := by decide +kernel
theorem dX5_close_20 : decode cX5_close 20 = .ok (.aload_n 0, 1) := by decide +kernel
theorem dX5_close_21 : decode cX5_close 21 = .ok (.getfield 58, 3) := by decide +kernel
theorem dX5_close_24 : decode cX5_close 24 = .ok (.sipush 200, 3) := by decide +kernel
theorem dX5_close_27 : decode cX5_close 27 = .ok (.iload_n 1, 1) := by decide +kernel
theorem dX5_close_28 : decode cX5_close 28 = .ok (.imul, 1) := by decide +kernel
theorem dX5_close_29 : decode cX5_close 29 = .ok (.iload_n 2, 1) := by decide +kernel
theorem dX5_close_30 : decode cX5_close 30 = .ok (.iadd, 1) := by decide +kernel
theorem dX5_close_31 : decode cX5_close 31 = .ok (.iconst 0, 1) := by decide +kernel
theorem dX5_close_32 : decode cX5_close 32 = .ok (.bastore, 1) := by decide +kernel
theorem dX5_close_33 : decode cX5_close 33 = .ok (.iinc 2 1, 3) := by decide +kernel
theorem dX5_close_36 : decode cX5_close 36 = .ok (.goto (-24), 3) := by decide +kernel
theorem dX5_close_39 : decode cX5_close 39 = .ok (.aload_n 0, 1) := by decide +kernel
theorem dX5_close_40 : decode cX5_close 40 = .ok (.getfield 54, 3) := by decide +kernel
theorem dX5_close_43 : decode cX5_close 43 = .ok (.iload_n 1, 1) := by decide +kernel
theorem dX5_close_44 : decode cX5_close 44 = .ok (.baload, 1) := by decide +kernel
theorem dX5_close_45 : decode cX5_close 45 = .ok (.ifCond .eq 8, 3) := by decide +kernel
theorem dX5_close_48 : decode cX5_close 48 = .ok (.aload_n 0, 1) := by decide +kernel
theorem dX5_close_49 : decode cX5_close 49 = .ok (.iload_n 1, 1) := by decide +kernel
theorem dX5_close_50 : decode cX5_close 50 = .ok (.invokevirtual 99, 3) := by decide +kernel
theorem dX5_close_53 : decode cX5_close 53 = .ok (.iinc 1 1, 3) := by decide +kernel
theorem dX5_close_56 : decode cX5_close 56 = .ok (.goto (-54), 3) := by decide +kernel
theorem dX5_close_59 : decode cX5_close 59 = .ok (.return_, 1) := by decide +kernel
theorem dX5_spread_0 : decode cX5_spread 0 = .ok (.iconst 0, 1) := by decide +kernel
theorem dX5_spread_1 : decode cX5_spread 1 = .ok (.istore_n 2, 1) := by decide +kernel
theorem dX5_spread_2 : decode cX5_spread 2 = .ok (.iconst (-1), 1) := by decide +kernel
theorem dX5_spread_3 : decode cX5_spread 3 = .ok (.istore_n 3, 1) := by decide +kernel
theorem dX5_spread_4 : decode cX5_spread 4 = .ok (.iload_n 3, 1) := by decide +kernel
theorem dX5_spread_5 : decode cX5_spread 5 = .ok (.iload_n 2, 1) := by decide +kernel
theorem dX5_spread_6 : decode cX5_spread 6 = .ok (.if_icmp .ge 118, 3) := by decide +kernel
theorem dX5_spread_9 : decode cX5_spread 9 = .ok (.iload_n 3, 1) := by decide +kernel
theorem dX5_spread_10 : decode cX5_spread 10 = .ok (.ifCond .ge 7, 3) := by decide +kernel
theorem dX5_spread_13 : decode cX5_spread 13 = .ok (.iload_n 1, 1) := by decide +kernel
theorem dX5_spread_14 : decode cX5_spread 14 = .ok (.goto 9, 3) := by decide +kernel
theorem dX5_spread_17 : decode cX5_spread 17 = .ok (.aload_n 0, 1) := by decide +kernel
theorem dX5_spread_18 : decode cX5_spread 18 = .ok (.getfield 38, 3) := by decide +kernel
theorem dX5_spread_21 : decode cX5_spread 21 = .ok (.iload_n 3, 1) := by decide +kernel
theorem dX5_spread_22 : decode cX5_spread 22 = .ok (.iaload, 1) := by decide +kernel
theorem dX5_spread_23 : decode cX5_spread 23 = .ok (.istore 4, 2) := by decide +kernel
theorem dX5_spread_25 : decode cX5_spread 25 = .ok (.aload_n 0, 1) := by decide +kernel
theorem dX5_spread_26 : decode cX5_spread 26 = .ok (.getfield 25, 3) := by decide +kernel
theorem dX5_spread_29 : decode cX5_spread 29 = .ok (.iload 4, 2) := by decide +kernel
theorem dX5_spread_31 : decode cX5_spread 31 = .ok (.iaload, 1) := by decide +kernel
theorem dX5_spread_32 : decode cX5_spread 32 = .ok (.istore 5, 2) := by decide +kernel
theorem dX5_spread_34 : decode cX5_spread 34 = .ok (.iload 5, 2) := by decide +kernel
theorem dX5_spread_36 : decode cX5_spread 36 = .ok (.iconst (-1), 1) := by decide +kernel
theorem dX5_spread_37 : decode cX5_spread 37 = .ok (.if_icmp .eq 75, 3) := by decide +kernel
theorem dX5_spread_40 : decode cX5_spread 40 = .ok (.aload_n 0, 1) := by decide +kernel
theorem dX5_spread_41 : decode cX5_spread 41 = .ok (.getfield 16, 3) := by decide +kernel
theorem dX5_spread_44 : decode cX5_spread 44 = .ok (.iload 5, 2) := by decide +kernel
theorem dX5_spread_46 : decode cX5_spread 46 = .ok (.iaload, 1) := by decide +kernel
theorem dX5_spread_47 : decode cX5_spread 47 = .ok (.istore 6, 2) := by decide +kernel
theorem dX5_spread_49 : decode cX5_spread 49 = .ok (.aload_n 0, 1) := by decide +kernel
theorem dX5_spread_50 : decode cX5_spread 50 = .ok (.getfield 54, 3) := by decide +kernel
theorem dX5_spread_53 : decode cX5_spread 53 = .ok (.iload 6, 2) := by decide +kernel
theorem dX5_spread_55 : decode cX5_spread 55 = .ok (.baload, 1) := by decide +kernel
theorem dX5_spread_56 : decode cX5_spread 56 = .ok (.ifCond .eq 44, 3) := by decide +kernel
theorem dX5_spread_59 : decode cX5_spread 59 = .ok (.aload_n 0, 1) := by decide +kernel
theorem dX5_spread_60 : decode cX5_spread 60 = .ok (.getfield 58, 3) := by decide +kernel
theorem dX5_spread_63 : decode cX5_spread 63 = .ok (.sipush 200, 3) := by decide +kernel
theorem dX5_spread_66 : decode cX5_spread 66 = .ok (.iload_n 1, 1) := by decide +kernel
theorem dX5_spread_67 : decode cX5_spread 67 = .ok (.imul, 1) := by decide +kernel
theorem dX5_spread_68 : decode cX5_spread 68 = .ok (.iload 6, 2) := by decide +kernel
theorem dX5_spread_70 : decode cX5_spread 70 = .ok (.iadd, 1) := by decide +kernel
theorem dX5_spread_71 : decode cX5_spread 71 = .ok (.baload, 1) := by decide +kernel
theorem dX5_spread_72 : decode cX5_spread 72 = .ok (.ifCond .ne 28, 3) := by decide +kernel
theorem dX5_spread_75 : decode cX5_spread 75 = .ok (.aload_n 0, 1) := by decide +kernel
theorem dX5_spread_76 : decode cX5_spread 76 = .ok (.getfield 58, 3) := by decide +kernel
theorem dX5_spread_79 : decode cX5_spread 79 = .ok (.sipush 200, 3) := by decide +kernel
theorem dX5_spread_82 : decode cX5_spread 82 = .ok (.iload_n 1, 1) := by decide +kernel
theorem dX5_spread_83 : decode cX5_spread 83 = .ok (.imul, 1) := by decide +kernel
theorem dX5_spread_84 : decode cX5_spread 84 = .ok (.iload 6, 2) := by decide +kernel
theorem dX5_spread_86 : decode cX5_spread 86 = .ok (.iadd, 1) := by decide +kernel
theorem dX5_spread_87 : decode cX5_spread 87 = .ok (.iconst 1, 1) := by decide +kernel
theorem dX5_spread_88 : decode cX5_spread 88 = .ok (.bastore, 1) := by decide +kernel
theorem dX5_spread_89 : decode cX5_spread 89 = .ok (.aload_n 0, 1) := by decide +kernel
theorem dX5_spread_90 : decode cX5_spread 90 = .ok (.getfield 38, 3) := by decide +kernel
theorem dX5_spread_93 : decode cX5_spread 93 = .ok (.iload_n 2, 1) := by decide +kernel
theorem dX5_spread_94 : decode cX5_spread 94 = .ok (.iload 6, 2) := by decide +kernel
theorem dX5_spread_96 : decode cX5_spread 96 = .ok (.iastore, 1) := by decide +kernel
theorem dX5_spread_97 : decode cX5_spread 97 = .ok (.iinc 2 1, 3) := by decide +kernel
theorem dX5_spread_100 : decode cX5_spread 100 = .ok (.aload_n 0, 1) := by decide +kernel
theorem dX5_spread_101 : decode cX5_spread 101 = .ok (.getfield 31, 3) := by decide +kernel
theorem dX5_spread_104 : decode cX5_spread 104 = .ok (.iload 5, 2) := by decide +kernel
theorem dX5_spread_106 : decode cX5_spread 106 = .ok (.iaload, 1) := by decide +kernel
theorem dX5_spread_107 : decode cX5_spread 107 = .ok (.istore 5, 2) := by decide +kernel
theorem dX5_spread_109 : decode cX5_spread 109 = .ok (.goto (-75), 3) := by decide +kernel
theorem dX5_spread_112 : decode cX5_spread 112 = .ok (.iinc 3 1, 3) := by decide +kernel
theorem dX5_spread_115 : decode cX5_spread 115 = .ok (.iload_n 3, 1) := by decide +kernel
theorem dX5_spread_116 : decode cX5_spread 116 = .ok (.iload_n 2, 1) := by decide +kernel
theorem dX5_spread_117 : decode cX5_spread 117 = .ok (.if_icmp .ne 4, 3) := by decide +kernel
theorem dX5_spread_120 : decode cX5_spread 120 = .ok (.return_, 1) := by decide +kernel
theorem dX5_spread_121 : decode cX5_spread 121 = .ok (.goto (-117), 3) := by decide +kernel
theorem dX5_spread_124 : decode cX5_spread 124 = .ok (.return_, 1) := by decide +kernel
theorem dX5_together_0 : decode cX5_together 0 = .ok (.aload_n 0, 1) := by decide +kernel
theorem dX5_together_1 : decode cX5_together 1 = .ok (.getfield 58, 3) := by decide +kernel
theorem dX5_together_4 : decode cX5_together 4 = .ok (.sipush 200, 3) := by decide +kernel
theorem dX5_together_7 : decode cX5_together 7 = .ok (.iload_n 1, 1) := by decide +kernel
theorem dX5_together_8 : decode cX5_together 8 = .ok (.imul, 1) := by decide +kernel
theorem dX5_together_9 : decode cX5_together 9 = .ok (.iload_n 2, 1) := by decide +kernel
theorem dX5_together_10 : decode cX5_together 10 = .ok (.iadd, 1) := by decide +kernel
theorem dX5_together_11 : decode cX5_together 11 = .ok (.baload, 1) := by decide +kernel
theorem dX5_together_12 : decode cX5_together 12 = .ok (.ifCond .eq 22, 3) := by decide +kernel
theorem dX5_together_15 : decode cX5_together 15 = .ok (.aload_n 0, 1) := by decide +kernel
theorem dX5_together_16 : decode cX5_together 16 = .ok (.getfield 58, 3) := by decide +kernel
theorem dX5_together_19 : decode cX5_together 19 = .ok (.sipush 200, 3) := by decide +kernel
theorem dX5_together_22 : decode cX5_together 22 = .ok (.iload_n 2, 1) := by decide +kernel
theorem dX5_together_23 : decode cX5_together 23 = .ok (.imul, 1) := by decide +kernel
theorem dX5_together_24 : decode cX5_together 24 = .ok (.iload_n 1, 1) := by decide +kernel
theorem dX5_together_25 : decode cX5_together 25 = .ok (.iadd, 1) := by decide +kernel
theorem dX5_together_26 : decode cX5_together 26 = .ok (.baload, 1) := by decide +kernel
theorem dX5_together_27 : decode cX5_together 27 = .ok (.ifCond .eq 7, 3) := by decide +kernel
theorem dX5_together_30 : decode cX5_together 30 = .ok (.iconst 1, 1) := by decide +kernel
theorem dX5_together_31 : decode cX5_together 31 = .ok (.goto 4, 3) := by decide +kernel
theorem dX5_together_34 : decode cX5_together 34 = .ok (.iconst 0, 1) := by decide +kernel
theorem dX5_together_35 : decode cX5_together 35 = .ok (.ireturn, 1) := by decide +kernel
theorem dX5_divide_0 : decode cX5_divide 0 = .ok (.aload_n 0, 1) := by decide +kernel
theorem dX5_divide_1 : decode cX5_divide 1 = .ok (.invokevirtual 103, 3) := by decide +kernel
theorem dX5_divide_4 : decode cX5_divide 4 = .ok (.iconst 0, 1) := by decide +kernel
theorem dX5_divide_5 : decode cX5_divide 5 = .ok (.istore_n 1, 1) := by decide +kernel
theorem dX5_divide_6 : decode cX5_divide 6 = .ok (.iconst 0, 1) := by decide +kernel
theorem dX5_divide_7 : decode cX5_divide 7 = .ok (.istore_n 2, 1) := by decide +kernel
theorem dX5_divide_8 : decode cX5_divide 8 = .ok (.iload_n 2, 1) := by decide +kernel
theorem dX5_divide_9 : decode cX5_divide 9 = .ok (.aload_n 0, 1) := by decide +kernel
theorem dX5_divide_10 : decode cX5_divide 10 = .ok (.getfield 80, 3) := by decide +kernel
theorem dX5_divide_13 : decode cX5_divide 13 = .ok (.if_icmp .ge 115, 3) := by decide +kernel
theorem dX5_divide_16 : decode cX5_divide 16 = .ok (.aload_n 0, 1) := by decide +kernel
theorem dX5_divide_17 : decode cX5_divide 17 = .ok (.getfield 67, 3) := by decide +kernel
theorem dX5_divide_20 : decode cX5_divide 20 = .ok (.iload_n 2, 1) := by decide +kernel
theorem dX5_divide_21 : decode cX5_divide 21 = .ok (.iconst (-1), 1) := by decide +kernel
theorem dX5_divide_22 : decode cX5_divide 22 = .ok (.iastore, 1) := by decide +kernel
theorem dX5_divide_23 : decode cX5_divide 23 = .ok (.aload_n 0, 1) := by decide +kernel
theorem dX5_divide_24 : decode cX5_divide 24 = .ok (.getfield 54, 3) := by decide +kernel
theorem dX5_divide_27 : decode cX5_divide 27 = .ok (.iload_n 2, 1) := by decide +kernel
theorem dX5_divide_28 : decode cX5_divide 28 = .ok (.baload, 1) := by decide +kernel
theorem dX5_divide_29 : decode cX5_divide 29 = .ok (.ifCond .eq 93, 3) := by decide +kernel
theorem dX5_divide_32 : decode cX5_divide 32 = .ok (.aload_n 0, 1) := by decide +kernel
theorem dX5_divide_33 : decode cX5_divide 33 = .ok (.iload_n 2, 1) := by decide +kernel
theorem dX5_divide_34 : decode cX5_divide 34 = .ok (.iload_n 2, 1) := by decide +kernel
theorem dX5_divide_35 : decode cX5_divide 35 = .ok (.invokevirtual 106, 3) := by decide +kernel
theorem dX5_divide_38 : decode cX5_divide 38 = .ok (.ifCond .ne 6, 3) := by decide +kernel
theorem dX5_divide_41 : decode cX5_divide 41 = .ok (.goto 81, 3) := by decide +kernel
theorem dX5_divide_44 : decode cX5_divide 44 = .ok (.iconst 0, 1) := by decide +kernel
theorem dX5_divide_45 : decode cX5_divide 45 = .ok (.istore_n 3, 1) := by decide +kernel
theorem dX5_divide_46 : decode cX5_divide 46 = .ok (.iload_n 3, 1) := by decide +kernel
theorem dX5_divide_47 : decode cX5_divide 47 = .ok (.iload_n 2, 1) := by decide +kernel
theorem dX5_divide_48 : decode cX5_divide 48 = .ok (.if_icmp .ge 54, 3) := by decide +kernel
theorem dX5_divide_51 : decode cX5_divide 51 = .ok (.aload_n 0, 1) := by decide +kernel
theorem dX5_divide_52 : decode cX5_divide 52 = .ok (.getfield 67, 3) := by decide +kernel
theorem dX5_divide_55 : decode cX5_divide 55 = .ok (.iload_n 2, 1) := by decide +kernel
theorem dX5_divide_56 : decode cX5_divide 56 = .ok (.iaload, 1) := by decide +kernel
theorem dX5_divide_57 : decode cX5_divide 57 = .ok (.iconst (-1), 1) := by decide +kernel
theorem dX5_divide_58 : decode cX5_divide 58 = .ok (.if_icmp .ne 44, 3) := by decide +kernel
theorem dX5_divide_61 : decode cX5_divide 61 = .ok (.aload_n 0, 1) := by decide +kernel
theorem dX5_divide_62 : decode cX5_divide 62 = .ok (.getfield 67, 3) := by decide +kernel
theorem dX5_divide_65 : decode cX5_divide 65 = .ok (.iload_n 2, 1) := by decide +kernel
theorem dX5_divide_66 : decode cX5_divide 66 = .ok (.aload_n 0, 1) := by decide +kernel
theorem dX5_divide_67 : decode cX5_divide 67 = .ok (.getfield 67, 3) := by decide +kernel
theorem dX5_divide_70 : decode cX5_divide 70 = .ok (.iload_n 3, 1) := by decide +kernel
theorem dX5_divide_71 : decode cX5_divide 71 = .ok (.iaload, 1) := by decide +kernel
theorem dX5_divide_72 : decode cX5_divide 72 = .ok (.iconst (-1), 1) := by decide +kernel
theorem dX5_divide_73 : decode cX5_divide 73 = .ok (.if_icmp .eq 21, 3) := by decide +kernel
theorem dX5_divide_76 : decode cX5_divide 76 = .ok (.aload_n 0, 1) := by decide +kernel
theorem dX5_divide_77 : decode cX5_divide 77 = .ok (.iload_n 2, 1) := by decide +kernel
theorem dX5_divide_78 : decode cX5_divide 78 = .ok (.iload_n 3, 1) := by decide +kernel
theorem dX5_divide_79 : decode cX5_divide 79 = .ok (.invokevirtual 106, 3) := by decide +kernel
theorem dX5_divide_82 : decode cX5_divide 82 = .ok (.ifCond .eq 12, 3) := by decide +kernel
theorem dX5_divide_85 : decode cX5_divide 85 = .ok (.aload_n 0, 1) := by decide +kernel
theorem dX5_divide_86 : decode cX5_divide 86 = .ok (.getfield 67, 3) := by decide +kernel
theorem dX5_divide_89 : decode cX5_divide 89 = .ok (.iload_n 3, 1) := by decide +kernel
theorem dX5_divide_90 : decode cX5_divide 90 = .ok (.iaload, 1) := by decide +kernel
theorem dX5_divide_91 : decode cX5_divide 91 = .ok (.goto 4, 3) := by decide +kernel
theorem dX5_divide_94 : decode cX5_divide 94 = .ok (.iconst (-1), 1) := by decide +kernel
theorem dX5_divide_95 : decode cX5_divide 95 = .ok (.iastore, 1) := by decide +kernel
theorem dX5_divide_96 : decode cX5_divide 96 = .ok (.iinc 3 1, 3) := by decide +kernel
theorem dX5_divide_99 : decode cX5_divide 99 = .ok (.goto (-53), 3) := by decide +kernel
theorem dX5_divide_102 : decode cX5_divide 102 = .ok (.aload_n 0, 1) := by decide +kernel
theorem dX5_divide_103 : decode cX5_divide 103 = .ok (.getfield 67, 3) := by decide +kernel
theorem dX5_divide_106 : decode cX5_divide 106 = .ok (.iload_n 2, 1) := by decide +kernel
theorem dX5_divide_107 : decode cX5_divide 107 = .ok (.iaload, 1) := by decide +kernel
theorem dX5_divide_108 : decode cX5_divide 108 = .ok (.iconst (-1), 1) := by decide +kernel
theorem dX5_divide_109 : decode cX5_divide 109 = .ok (.if_icmp .ne 13, 3) := by decide +kernel
theorem dX5_divide_112 : decode cX5_divide 112 = .ok (.aload_n 0, 1) := by decide +kernel
theorem dX5_divide_113 : decode cX5_divide 113 = .ok (.getfield 67, 3) := by decide +kernel
theorem dX5_divide_116 : decode cX5_divide 116 = .ok (.iload_n 2, 1) := by decide +kernel
theorem dX5_divide_117 : decode cX5_divide 117 = .ok (.iload_n 1, 1) := by decide +kernel
theorem dX5_divide_118 : decode cX5_divide 118 = .ok (.iastore, 1) := by decide +kernel
theorem dX5_divide_119 : decode cX5_divide 119 = .ok (.iinc 1 1, 3) := by decide +kernel
theorem dX5_divide_122 : decode cX5_divide 122 = .ok (.iinc 2 1, 3) := by decide +kernel
theorem dX5_divide_125 : decode cX5_divide 125 = .ok (.goto (-117), 3) := by decide +kernel
theorem dX5_divide_128 : decode cX5_divide 128 = .ok (.iconst 0, 1) := by decide +kernel
theorem dX5_divide_129 : decode cX5_divide 129 = .ok (.istore_n 2, 1) := by decide +kernel
theorem dX5_divide_130 : decode cX5_divide 130 = .ok (.iload_n 2, 1) := by decide +kernel
theorem dX5_divide_131 : decode cX5_divide 131 = .ok (.aload_n 0, 1) := by decide +kernel
theorem dX5_divide_132 : decode cX5_divide 132 = .ok (.getfield 80, 3) := by decide +kernel
theorem dX5_divide_135 : decode cX5_divide 135 = .ok (.if_icmp .ge 30, 3) := by decide +kernel
theorem dX5_divide_138 : decode cX5_divide 138 = .ok (.aload_n 0, 1) := by decide +kernel
theorem dX5_divide_139 : decode cX5_divide 139 = .ok (.getfield 54, 3) := by decide +kernel
theorem dX5_divide_142 : decode cX5_divide 142 = .ok (.iload_n 2, 1) := by decide +kernel
theorem dX5_divide_143 : decode cX5_divide 143 = .ok (.aload_n 0, 1) := by decide +kernel
theorem dX5_divide_144 : decode cX5_divide 144 = .ok (.getfield 67, 3) := by decide +kernel
theorem dX5_divide_147 : decode cX5_divide 147 = .ok (.iload_n 2, 1) := by decide +kernel
theorem dX5_divide_148 : decode cX5_divide 148 = .ok (.iaload, 1) := by decide +kernel
theorem dX5_divide_149 : decode cX5_divide 149 = .ok (.iconst (-1), 1) := by decide +kernel
theorem dX5_divide_150 : decode cX5_divide 150 = .ok (.if_icmp .eq 7, 3) := by decide +kernel
theorem dX5_divide_153 : decode cX5_divide 153 = .ok (.iconst 1, 1) := by decide +kernel
theorem dX5_divide_154 : decode cX5_divide 154 = .ok (.goto 4, 3) := by decide +kernel
theorem dX5_divide_157 : decode cX5_divide 157 = .ok (.iconst 0, 1) := by decide +kernel
theorem dX5_divide_158 : decode cX5_divide 158 = .ok (.bastore, 1) := by decide +kernel
theorem dX5_divide_159 : decode cX5_divide 159 = .ok (.iinc 2 1, 3) := by decide +kernel
theorem dX5_divide_162 : decode cX5_divide 162 = .ok (.goto (-32), 3) := by decide +kernel
theorem dX5_divide_165 : decode cX5_divide 165 = .ok (.iload_n 1, 1) := by decide +kernel
theorem dX5_divide_166 : decode cX5_divide 166 = .ok (.ireturn, 1) := by decide +kernel
theorem dX5_isAble_0 : decode cX5_isAble 0 = .ok (.iconst 0, 1) := by decide +kernel
theorem dX5_isAble_1 : decode cX5_isAble 1 = .ok (.istore_n 3, 1) := by decide +kernel
theorem dX5_isAble_2 : decode cX5_isAble 2 = .ok (.aload_n 0, 1) := by decide +kernel
theorem dX5_isAble_3 : decode cX5_isAble 3 = .ok (.getfield 25, 3) := by decide +kernel
theorem dX5_isAble_6 : decode cX5_isAble 6 = .ok (.iload_n 2, 1) := by decide +kernel
theorem dX5_isAble_7 : decode cX5_isAble 7 = .ok (.iaload, 1) := by decide +kernel
theorem dX5_isAble_8 : decode cX5_isAble 8 = .ok (.istore 4, 2) := by decide +kernel
theorem dX5_isAble_10 : decode cX5_isAble 10 = .ok (.iload 4, 2) := by decide +kernel
theorem dX5_isAble_12 : decode cX5_isAble 12 = .ok (.iconst (-1), 1) := by decide +kernel
theorem dX5_isAble_13 : decode cX5_isAble 13 = .ok (.if_icmp .eq 36, 3) := by decide +kernel
theorem dX5_isAble_16 : decode cX5_isAble 16 = .ok (.iload_n 3, 1) := by decide +kernel
theorem dX5_isAble_17 : decode cX5_isAble 17 = .ok (.ifCond .ne 14, 3) := by decide +kernel
theorem dX5_isAble_20 : decode cX5_isAble 20 = .ok (.aload_n 0, 1) := by decide +kernel
theorem dX5_isAble_21 : decode cX5_isAble 21 = .ok (.getfield 19, 3) := by decide +kernel
theorem dX5_isAble_24 : decode cX5_isAble 24 = .ok (.iload 4, 2) := by decide +kernel
theorem dX5_isAble_26 : decode cX5_isAble 26 = .ok (.iaload, 1) := by decide +kernel
theorem dX5_isAble_27 : decode cX5_isAble 27 = .ok (.iload_n 1, 1) := by decide +kernel
theorem dX5_isAble_28 : decode cX5_isAble 28 = .ok (.if_icmp .ne 7, 3) := by decide +kernel
theorem dX5_isAble_31 : decode cX5_isAble 31 = .ok (.iconst 1, 1) := by decide +kernel
theorem dX5_isAble_32 : decode cX5_isAble 32 = .ok (.goto 4, 3) := by decide +kernel
theorem dX5_isAble_35 : decode cX5_isAble 35 = .ok (.iconst 0, 1) := by decide +kernel
theorem dX5_isAble_36 : decode cX5_isAble 36 = .ok (.istore_n 3, 1) := by decide +kernel
theorem dX5_isAble_37 : decode cX5_isAble 37 = .ok (.aload_n 0, 1) := by decide +kernel
theorem dX5_isAble_38 : decode cX5_isAble 38 = .ok (.getfield 31, 3) := by decide +kernel
theorem dX5_isAble_41 : decode cX5_isAble 41 = .ok (.iload 4, 2) := by decide +kernel
theorem dX5_isAble_43 : decode cX5_isAble 43 = .ok (.iaload, 1) := by decide +kernel
theorem dX5_isAble_44 : decode cX5_isAble 44 = .ok (.istore 4, 2) := by decide +kernel
theorem dX5_isAble_46 : decode cX5_isAble 46 = .ok (.goto (-36), 3) := by decide +kernel
theorem dX5_isAble_49 : decode cX5_isAble 49 = .ok (.iload_n 3, 1) := by decide +kernel
theorem dX5_isAble_50 : decode cX5_isAble 50 = .ok (.ireturn, 1) := by decide +kernel
theorem dX5_isTaken_0 : decode cX5_isTaken 0 = .ok (.iconst 0, 1) := by decide +kernel
theorem dX5_isTaken_1 : decode cX5_isTaken 1 = .ok (.istore_n 3, 1) := by decide +kernel
theorem dX5_isTaken_2 : decode cX5_isTaken 2 = .ok (.iconst 0, 1) := by decide +kernel
theorem dX5_isTaken_3 : decode cX5_isTaken 3 = .ok (.istore 4, 2) := by decide +kernel
theorem dX5_isTaken_5 : decode cX5_isTaken 5 = .ok (.iload 4, 2) := by decide +kernel
theorem dX5_isTaken_7 : decode cX5_isTaken 7 = .ok (.aload_n 0, 1) := by decide +kernel
theorem dX5_isTaken_8 : decode cX5_isTaken 8 = .ok (.getfield 90, 3) := by decide +kernel
theorem dX5_isTaken_11 : decode cX5_isTaken 11 = .ok (.if_icmp .ge 62, 3) := by decide +kernel
theorem dX5_isTaken_14 : decode cX5_isTaken 14 = .ok (.iload_n 3, 1) := by decide +kernel
theorem dX5_isTaken_15 : decode cX5_isTaken 15 = .ok (.ifCond .ne 46, 3) := by decide +kernel
theorem dX5_isTaken_18 : decode cX5_isTaken 18 = .ok (.aload_n 0, 1) := by decide +kernel
theorem dX5_isTaken_19 : decode cX5_isTaken 19 = .ok (.getfield 19, 3) := by decide +kernel
theorem dX5_isTaken_22 : decode cX5_isTaken 22 = .ok (.iload 4, 2) := by decide +kernel
