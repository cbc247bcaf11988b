theorem dX0_init_0 : decode cX0_init 0 = .ok (.aload_n 0, 1) := by decide +kernel
theorem dX0_init_1 : decode cX0_init 1 = .ok (.invokespecial 3, 3) := by decide +kernel
theorem dX0_init_4 : decode cX0_init 4 = .ok (.aload_n 0, 1) := by decide +kernel
theorem dX0_init_5 : decode cX0_init 5 = .ok (.sipush 200, 3) := by decide +kernel
theorem dX0_init_8 : decode cX0_init 8 = .ok (.newarray .int, 2) := by decide +kernel
theorem dX0_init_10 : decode cX0_init 10 = .ok (.putfield 9, 3) := by decide +kernel
theorem dX0_init_13 : decode cX0_init 13 = .ok (.aload_n 0, 1) := by decide +kernel
theorem dX0_init_14 : decode cX0_init 14 = .ok (.sipush 200, 3) := by decide +kernel
theorem dX0_init_17 : decode cX0_init 17 = .ok (.newarray .boolean, 2) := by decide +kernel
theorem dX0_init_19 : decode cX0_init 19 = .ok (.putfield 15, 3) := by decide +kernel
theorem dX0_init_22 : decode cX0_init 22 = .ok (.aload_n 0, 1) := by decide +kernel
theorem dX0_init_23 : decode cX0_init 23 = .ok (.sipush 200, 3) := by decide +kernel
theorem dX0_init_26 : decode cX0_init 26 = .ok (.newarray .int, 2) := by decide +kernel
theorem dX0_init_28 : decode cX0_init 28 = .ok (.putfield 19, 3) := by decide +kernel
theorem dX0_init_31 : decode cX0_init 31 = .ok (.aload_n 0, 1) := by decide +kernel
theorem dX0_init_32 : decode cX0_init 32 = .ok (.sipush 600, 3) := by decide +kernel
theorem dX0_init_35 : decode cX0_init 35 = .ok (.newarray .int, 2) := by decide +kernel
theorem dX0_init_37 : decode cX0_init 37 = .ok (.putfield 22, 3) := by decide +kernel
theorem dX0_init_40 : decode cX0_init 40 = .ok (.aload_n 0, 1) := by decide +kernel
theorem dX0_init_41 : decode cX0_init 41 = .ok (.sipush 600, 3) := by decide +kernel
theorem dX0_init_44 : decode cX0_init 44 = .ok (.newarray .int, 2) := by decide +kernel
theorem dX0_init_46 : decode cX0_init 46 = .ok (.putfield 25, 3) := by decide +kernel
theorem dX0_init_49 : decode cX0_init 49 = .ok (.aload_n 0, 1) := by decide +kernel
theorem dX0_init_50 : decode cX0_init 50 = .ok (.sipush 600, 3) := by decide +kernel
theorem dX0_init_53 : decode cX0_init 53 = .ok (.newarray .int, 2) := by decide +kernel
theorem dX0_init_55 : decode cX0_init 55 = .ok (.putfield 28, 3) := by decide +kernel
theorem dX0_init_58 : decode cX0_init 58 = .ok (.aload_n 0, 1) := by decide +kernel
theorem dX0_init_59 : decode cX0_init 59 = .ok (.sipush 600, 3) := by decide +kernel
theorem dX0_init_62 : decode cX0_init 62 = .ok (.newarray .int, 2) := by decide +kernel
theorem dX0_init_64 : decode cX0_init 64 = .ok (.putfield 31, 3) := by decide +kernel
theorem dX0_init_67 : decode cX0_init 67 = .ok (.aload_n 0, 1) := by decide +kernel
theorem dX0_init_68 : decode cX0_init 68 = .ok (.sipush 201, 3) := by decide +kernel
theorem dX0_init_71 : decode cX0_init 71 = .ok (.newarray .int, 2) := by decide +kernel
theorem dX0_init_73 : decode cX0_init 73 = .ok (.putfield 34, 3) := by decide +kernel
theorem dX0_init_76 : decode cX0_init 76 = .ok (.return_, 1) := by decide +kernel
theorem dX0_hasState_0 : decode cX0_hasState 0 = .ok (.iload_n 1, 1) := by decide +kernel
theorem dX0_hasState_1 : decode cX0_hasState 1 = .ok (.ifCond .lt 15, 3) := by decide +kernel
theorem dX0_hasState_4 : decode cX0_hasState 4 = .ok (.iload_n 1, 1) := by decide +kernel
theorem dX0_hasState_5 : decode cX0_hasState 5 = .ok (.aload_n 0, 1) := by decide +kernel
theorem dX0_hasState_6 : decode cX0_hasState 6 = .ok (.getfield 37, 3) := by decide +kernel
theorem dX0_hasState_9 : decode cX0_hasState 9 = .ok (.if_icmp .ge 7, 3) := by decide +kernel
theorem dX0_hasState_12 : decode cX0_hasState 12 = .ok (.iconst 1, 1) := by decide +kernel
theorem dX0_hasState_13 : decode cX0_hasState 13 = .ok (.goto 4, 3) := by decide +kernel
theorem dX0_hasState_16 : decode cX0_hasState 16 = .ok (.iconst 0, 1) := by decide +kernel
theorem dX0_hasState_17 : decode cX0_hasState 17 = .ok (.ireturn, 1) := by decide +kernel
theorem dX0_addState_0 : decode cX0_addState 0 = .ok (.aload_n 0, 1) := by decide +kernel
theorem dX0_addState_1 : decode cX0_addState 1 = .ok (.getfield 37, 3) := by decide +kernel
theorem dX0_addState_4 : decode cX0_addState 4 = .ok (.istore_n 3, 1) := by decide +kernel
theorem dX0_addState_5 : decode cX0_addState 5 = .ok (.aload_n 0, 1) := by decide +kernel
theorem dX0_addState_6 : decode cX0_addState 6 = .ok (.getfield 9, 3) := by decide +kernel
theorem dX0_addState_9 : decode cX0_addState 9 = .ok (.iload_n 3, 1) := by decide +kernel
theorem dX0_addState_10 : decode cX0_addState 10 = .ok (.iload_n 1, 1) := by decide +kernel
theorem dX0_addState_11 : decode cX0_addState 11 = .ok (.iastore, 1) := by decide +kernel
theorem dX0_addState_12 : decode cX0_addState 12 = .ok (.aload_n 0, 1) := by decide +kernel
theorem dX0_addState_13 : decode cX0_addState 13 = .ok (.getfield 15, 3) := by decide +kernel
theorem dX0_addState_16 : decode cX0_addState 16 = .ok (.iload_n 3, 1) := by decide +kernel
theorem dX0_addState_17 : decode cX0_addState 17 = .ok (.iload_n 2, 1) := by decide +kernel
theorem dX0_addState_18 : decode cX0_addState 18 = .ok (.bastore, 1) := by decide +kernel
theorem dX0_addState_19 : decode cX0_addState 19 = .ok (.iload_n 2, 1) := by decide +kernel
theorem dX0_addState_20 : decode cX0_addState 20 = .ok (.ifCond .eq 13, 3) := by decide +kernel
theorem dX0_addState_23 : decode cX0_addState 23 = .ok (.aload_n 0, 1) := by decide +kernel
theorem dX0_addState_24 : decode cX0_addState 24 = .ok (.dup, 1) := by decide +kernel
theorem dX0_addState_25 : decode cX0_addState 25 = .ok (.getfield 41, 3) := by decide +kernel
theorem dX0_addState_28 : decode cX0_addState 28 = .ok (.iconst 1, 1) := by decide +kernel
theorem dX0_addState_29 : decode cX0_addState 29 = .ok (.iadd, 1) := by decide +kernel
theorem dX0_addState_30 : decode cX0_addState 30 = .ok (.putfield 41, 3) := by decide +kernel
theorem dX0_addState_33 : decode cX0_addState 33 = .ok (.aload_n 0, 1) := by decide +kernel
theorem dX0_addState_34 : decode cX0_addState 34 = .ok (.dup, 1) := by decide +kernel
theorem dX0_addState_35 : decode cX0_addState 35 = .ok (.getfield 37, 3) := by decide +kernel
theorem dX0_addState_38 : decode cX0_addState 38 = .ok (.iconst 1, 1) := by decide +kernel
theorem dX0_addState_39 : decode cX0_addState 39 = .ok (.iadd, 1) := by decide +kernel
theorem dX0_addState_40 : decode cX0_addState 40 = .ok (.putfield 37, 3) := by decide +kernel
theorem dX0_addState_43 : decode cX0_addState 43 = .ok (.aload_n 0, 1) := by decide +kernel
theorem dX0_addState_44 : decode cX0_addState 44 = .ok (.getfield 34, 3) := by decide +kernel
theorem dX0_addState_47 : decode cX0_addState 47 = .ok (.aload_n 0, 1) := by decide +kernel
theorem dX0_addState_48 : decode cX0_addState 48 = .ok (.getfield 37, 3) := by decide +kernel
theorem dX0_addState_51 : decode cX0_addState 51 = .ok (.aload_n 0, 1) := by decide +kernel
theorem dX0_addState_52 : decode cX0_addState 52 = .ok (.getfield 44, 3) := by decide +kernel
theorem dX0_addState_55 : decode cX0_addState 55 = .ok (.iastore, 1) := by decide +kernel
theorem dX0_addState_56 : decode cX0_addState 56 = .ok (.iload_n 3, 1) := by decide +kernel
theorem dX0_addState_57 : decode cX0_addState 57 = .ok (.ireturn, 1) := by decide +kernel
theorem dX0_addMove_0 : decode cX0_addMove 0 = .ok (.aload_n 0, 1) := by decide +kernel
theorem dX0_addMove_1 : decode cX0_addMove 1 = .ok (.getfield 44, 3) := by decide +kernel
theorem dX0_addMove_4 : decode cX0_addMove 4 = .ok (.istore 4, 2) := by decide +kernel
theorem dX0_addMove_6 : decode cX0_addMove 6 = .ok (.aload_n 0, 1) := by decide +kernel
theorem dX0_addMove_7 : decode cX0_addMove 7 = .ok (.getfield 22, 3) := by decide +kernel
theorem dX0_addMove_10 : decode cX0_addMove 10 = .ok (.iload 4, 2) := by decide +kernel
theorem dX0_addMove_12 : decode cX0_addMove 12 = .ok (.iload_n 1, 1) := by decide +kernel
theorem dX0_addMove_13 : decode cX0_addMove 13 = .ok (.iastore, 1) := by decide +kernel
theorem dX0_addMove_14 : decode cX0_addMove 14 = .ok (.aload_n 0, 1) := by decide +kernel
theorem dX0_addMove_15 : decode cX0_addMove 15 = .ok (.getfield 25, 3) := by decide +kernel
theorem dX0_addMove_18 : decode cX0_addMove 18 = .ok (.iload 4, 2) := by decide +kernel
theorem dX0_addMove_20 : decode cX0_addMove 20 = .ok (.iload_n 2, 1) := by decide +kernel
theorem dX0_addMove_21 : decode cX0_addMove 21 = .ok (.iastore, 1) := by decide +kernel
theorem dX0_addMove_22 : decode cX0_addMove 22 = .ok (.aload_n 0, 1) := by decide +kernel
theorem dX0_addMove_23 : decode cX0_addMove 23 = .ok (.getfield 28, 3) := by decide +kernel
theorem dX0_addMove_26 : decode cX0_addMove 26 = .ok (.iload 4, 2) := by decide +kernel
theorem dX0_addMove_28 : decode cX0_addMove 28 = .ok (.iload_n 3, 1) := by decide +kernel
theorem dX0_addMove_29 : decode cX0_addMove 29 = .ok (.iastore, 1) := by decide +kernel
theorem dX0_addMove_30 : decode cX0_addMove 30 = .ok (.iload_n 3, 1) := by decide +kernel
theorem dX0_addMove_31 : decode cX0_addMove 31 = .ok (.iconst (-1), 1) := by decide +kernel
theorem dX0_addMove_32 : decode cX0_addMove 32 = .ok (.if_icmp .eq 15, 3) := by decide +kernel
theorem dX0_addMove_35 : decode cX0_addMove 35 = .ok (.aload_n 0, 1) := by decide +kernel
theorem dX0_addMove_36 : decode cX0_addMove 36 = .ok (.getfield 19, 3) := by decide +kernel
theorem dX0_addMove_39 : decode cX0_addMove 39 = .ok (.iload_n 1, 1) := by decide +kernel
theorem dX0_addMove_40 : decode cX0_addMove 40 = .ok (.dup2, 1) := by decide +kernel
theorem dX0_addMove_41 : decode cX0_addMove 41 = .ok (.iaload, 1) := by decide +kernel
theorem dX0_addMove_42 : decode cX0_addMove 42 = .ok (.iconst 1, 1) := by decide +kernel
theorem dX0_addMove_43 : decode cX0_addMove 43 = .ok (.iload_n 3, 1) := by decide +kernel
theorem dX0_addMove_44 : decode cX0_addMove 44 = .ok (.ishl, 1) := by decide +kernel
theorem dX0_addMove_45 : decode cX0_addMove 45 = .ok (.ior, 1) := by decide +kernel
theorem dX0_addMove_46 : decode cX0_addMove 46 = .ok (.iastore, 1) := by decide +kernel
theorem dX0_addMove_47 : decode cX0_addMove 47 = .ok (.iload 4, 2) := by decide +kernel
theorem dX0_addMove_49 : decode cX0_addMove 49 = .ok (.istore 5, 2) := by decide +kernel
theorem dX0_addMove_51 : decode cX0_addMove 51 = .ok (.iload 5, 2) := by decide +kernel
theorem dX0_addMove_53 : decode cX0_addMove 53 = .ok (.aload_n 0, 1) := by decide +kernel
theorem dX0_addMove_54 : decode cX0_addMove 54 = .ok (.getfield 34, 3) := by decide +kernel
theorem dX0_addMove_57 : decode cX0_addMove 57 = .ok (.iload_n 1, 1) := by decide +kernel
theorem dX0_addMove_58 : decode cX0_addMove 58 = .ok (.iconst 1, 1) := by decide +kernel
theorem dX0_addMove_59 : decode cX0_addMove 59 = .ok (.iadd, 1) := by decide +kernel
theorem dX0_addMove_60 : decode cX0_addMove 60 = .ok (.iaload, 1) := by decide +kernel
theorem dX0_addMove_61 : decode cX0_addMove 61 = .ok (.if_icmp .le 25, 3) := by decide +kernel
theorem dX0_addMove_64 : decode cX0_addMove 64 = .ok (.aload_n 0, 1) := by decide +kernel
theorem dX0_addMove_65 : decode cX0_addMove 65 = .ok (.getfield 31, 3) := by decide +kernel
theorem dX0_addMove_68 : decode cX0_addMove 68 = .ok (.iload 5, 2) := by decide +kernel
theorem dX0_addMove_70 : decode cX0_addMove 70 = .ok (.aload_n 0, 1) := by decide +kernel
theorem dX0_addMove_71 : decode cX0_addMove 71 = .ok (.getfield 31, 3) := by decide +kernel
theorem dX0_addMove_74 : decode cX0_addMove 74 = .ok (.iload 5, 2) := by decide +kernel
theorem dX0_addMove_76 : decode cX0_addMove 76 = .ok (.iconst 1, 1) := by decide +kernel
theorem dX0_addMove_77 : decode cX0_addMove 77 = .ok (.isub, 1) := by decide +kernel
theorem dX0_addMove_78 : decode cX0_addMove 78 = .ok (.iaload, 1) := by decide +kernel
theorem dX0_addMove_79 : decode cX0_addMove 79 = .ok (.iastore, 1) := by decide +kernel
theorem dX0_addMove_80 : decode cX0_addMove 80 = .ok (.iinc 5 (-1), 3) := by decide +kernel
theorem dX0_addMove_83 : decode cX0_addMove 83 = .ok (.goto (-32), 3) := by decide +kernel
theorem dX0_addMove_86 : decode cX0_addMove 86 = .ok (.aload_n 0, 1) := by decide +kernel
theorem dX0_addMove_87 : decode cX0_addMove 87 = .ok (.getfield 31, 3) := by decide +kernel
theorem dX0_addMove_90 : decode cX0_addMove 90 = .ok (.aload_n 0, 1) := by decide +kernel
theorem dX0_addMove_91 : decode cX0_addMove 91 = .ok (.getfield 34, 3) := by decide +kernel
theorem dX0_addMove_94 : decode cX0_addMove 94 = .ok (.iload_n 1, 1) := by decide +kernel
theorem dX0_addMove_95 : decode cX0_addMove 95 = .ok (.iconst 1, 1) := by decide +kernel
theorem dX0_addMove_96 : decode cX0_addMove 96 = .ok (.iadd, 1) := by decide +kernel
theorem dX0_addMove_97 : decode cX0_addMove 97 = .ok (.iaload, 1) := by decide +kernel
theorem dX0_addMove_98 : decode cX0_addMove 98 = .ok (.iload 4, 2) := by decide +kernel
theorem dX0_addMove_100 : decode cX0_addMove 100 = .ok (.iastore, 1) := by decide +kernel
theorem dX0_addMove_101 : decode cX0_addMove 101 = .ok (.iload_n 1, 1) := by decide +kernel
theorem dX0_addMove_102 : decode cX0_addMove 102 = .ok (.iconst 1, 1) := by decide +kernel
theorem dX0_addMove_103 : decode cX0_addMove 103 = .ok (.iadd, 1) := by decide +kernel
theorem dX0_addMove_104 : decode cX0_addMove 104 = .ok (.istore 5, 2) := by decide +kernel
theorem dX0_addMove_106 : decode cX0_addMove 106 = .ok (.iload 5, 2) := by decide +kernel
theorem dX0_addMove_108 : decode cX0_addMove 108 = .ok (.aload_n 0, 1) := by decide +kernel
theorem dX0_addMove_109 : decode cX0_addMove 109 = .ok (.getfield 37, 3) := by decide +kernel
theorem dX0_addMove_112 : decode cX0_addMove 112 = .ok (.if_icmp .gt 20, 3) := by decide +kernel
theorem dX0_addMove_115 : decode cX0_addMove 115 = .ok (.aload_n 0, 1) := by decide +kernel
theorem dX0_addMove_116 : decode cX0_addMove 116 = .ok (.getfield 34, 3) := by decide +kernel
theorem dX0_addMove_119 : decode cX0_addMove 119 = .ok (.iload 5, 2) := by decide +kernel
theorem dX0_addMove_121 : decode cX0_addMove 121 = .ok (.dup2, 1) := by decide +kernel
theorem dX0_addMove_122 : decode cX0_addMove 122 = .ok (.iaload, 1) := by decide +kernel
theorem dX0_addMove_123 : decode cX0_addMove 123 = .ok (.iconst 1, 1) := by decide +kernel
theorem dX0_addMove_124 : decode cX0_addMove 124 = .ok (.iadd, 1) := by decide +kernel
theorem dX0_addMove_125 : decode cX0_addMove 125 = .ok (.iastore, 1) := by decide +kernel
theorem dX0_addMove_126 : decode cX0_addMove 126 = .ok (.iinc 5 1, 3) := by decide +kernel
theorem dX0_addMove_129 : decode cX0_addMove 129 = .ok (.goto (-23), 3) := by decide +kernel
theorem dX0_addMove_132 : decode cX0_addMove 132 = .ok (.aload_n 0, 1) := by decide +kernel
theorem dX0_addMove_133 : decode cX0_addMove 133 = .ok (.dup, 1) := by decide +kernel
theorem dX0_addMove_134 : decode cX0_addMove 134 = .ok (.getfield 44, 3) := by decide +kernel
theorem dX0_addMove_137 : decode cX0_addMove 137 = .ok (.iconst 1, 1) := by decide +kernel
theorem dX0_addMove_138 : decode cX0_addMove 138 = .ok (.iadd, 1) := by decide +kernel
theorem dX0_addMove_139 : decode cX0_addMove 139 = .ok (.putfield 44, 3) := by decide +kernel
theorem dX0_addMove_142 : decode cX0_addMove 142 = .ok (.iload 4, 2) := by decide +kernel
theorem dX0_addMove_144 : decode cX0_addMove 144 = .ok (.ireturn, 1) := by decide +kernel
theorem dX0_isStuck_0 : decode cX0_isStuck 0 = .ok (.aload_n 0, 1) := by decide +kernel
theorem dX0_isStuck_1 : decode cX0_isStuck 1 = .ok (.getfield 15, 3) := by decide +kernel
theorem dX0_isStuck_4 : decode cX0_isStuck 4 = .ok (.iload_n 1, 1) := by decide +kernel
theorem dX0_isStuck_5 : decode cX0_isStuck 5 = .ok (.baload, 1) := by decide +kernel
theorem dX0_isStuck_6 : decode cX0_isStuck 6 = .ok (.ifCond .ne 24, 3) := by decide +kernel
theorem dX0_isStuck_9 : decode cX0_isStuck 9 = .ok (.aload_n 0, 1) := by decide +kernel
theorem dX0_isStuck_10 : decode cX0_isStuck 10 = .ok (.getfield 34, 3) := by decide +kernel
theorem dX0_isStuck_13 : decode cX0_isStuck 13 = .ok (.iload_n 1, 1) := by decide +kernel
theorem dX0_isStuck_14 : decode cX0_isStuck 14 = .ok (.iaload, 1) := by decide +kernel
theorem dX0_isStuck_15 : decode cX0_isStuck 15 = .ok (.aload_n 0, 1) := by decide +kernel
theorem dX0_isStuck_16 : decode cX0_isStuck 16 = .ok (.getfield 34, 3) := by decide +kernel
theorem dX0_isStuck_19 : decode cX0_isStuck 19 = .ok (.iload_n 1, 1) := by decide +kernel
theorem dX0_isStuck_20 : decode cX0_isStuck 20 = .ok (.iconst 1, 1) := by decide +kernel
theorem dX0_isStuck_21 : decode cX0_isStuck 21 = .ok (.iadd, 1) := by decide +kernel
theorem dX0_isStuck_22 : decode cX0_isStuck 22 = .ok (.iaload, 1) := by decide +kernel
theorem dX0_isStuck_23 : decode cX0_isStuck 23 = .ok (.if_icmp .ne 7, 3) := by decide +kernel
theorem dX0_isStuck_26 : decode cX0_isStuck 26 = .ok (.iconst 1, 1) := by decide +kernel
theorem dX0_isStuck_27 : decode cX0_isStuck 27 = .ok (.goto 4, 3) := by decide +kernel
theorem dX0_isStuck_30 : decode cX0_isStuck 30 = .ok (.iconst 0, 1) := by decide +kernel
theorem dX0_isStuck_31 : decode cX0_isStuck 31 = .ok (.ireturn, 1) := by decide +kernel
theorem dX1_init_0 : decode cX1_init 0 = .ok (.aload_n 0, 1) := by decide +kernel
theorem dX1_init_1 : decode cX1_init 1 = .ok (.invokespecial 3, 3) := by decide +kernel
theorem dX1_init_4 : decode cX1_init 4 = .ok (.aload_n 0, 1) := by decide +kernel
theorem dX1_init_5 : decode cX1_init 5 = .ok (.sipush 200, 3) := by decide +kernel
theorem dX1_init_8 : decode cX1_init 8 = .ok (.newarray .boolean, 2) := by decide +kernel
theorem dX1_init_10 : decode cX1_init 10 = .ok (.putfield 9, 3) := by decide +kernel
theorem dX1_init_13 : decode cX1_init 13 = .ok (.aload_n 0, 1) := by decide +kernel
theorem dX1_init_14 : decode cX1_init 14 = .ok (.sipush 200, 3) := by decide +kernel
theorem dX1_init_17 : decode cX1_init 17 = .ok (.newarray .int, 2) := by decide +kernel
theorem dX1_init_19 : decode cX1_init 19 = .ok (.putfield 15, 3) := by decide +kernel
theorem dX1_init_22 : decode cX1_init 22 = .ok (.aload_n 0, 1) := by decide +kernel
theorem dX1_init_23 : decode cX1_init 23 = .ok (.sipush 200, 3) := by decide +kernel
theorem dX1_init_26 : decode cX1_init 26 = .ok (.newarray .int, 2) := by decide +kernel
theorem dX1_init_28 : decode cX1_init 28 = .ok (.putfield 19, 3) := by decide +kernel
theorem dX1_init_31 : decode cX1_init 31 = .ok (.aload_n 0, 1) := by decide +kernel
theorem dX1_init_32 : decode cX1_init 32 = .ok (.sipush 200, 3) := by decide +kernel
theorem dX1_init_35 : decode cX1_init 35 = .ok (.newarray .int, 2) := by decide +kernel
theorem dX1_init_37 : decode cX1_init 37 = .ok (.putfield 22, 3) := by decide +kernel
theorem dX1_init_40 : decode cX1_init 40 = .ok (.aload_n 0, 1) := by decide +kernel
theorem dX1_init_41 : decode cX1_init 41 = .ok (.sipush 200, 3) := by decide +kernel
theorem dX1_init_44 : decode cX1_init 44 = .ok (.newarray .int, 2) := by decide +kernel
theorem dX1_init_46 : decode cX1_init 46 = .ok (.putfield 25, 3) := by decide +kernel
theorem dX1_init_49 : decode cX1_init 49 = .ok (.aload_n 0, 1) := by decide +kernel
theorem dX1_init_50 : decode cX1_init 50 = .ok (.sipush 200, 3) := by decide +kernel
theorem dX1_init_53 : decode cX1_init 53 = .ok (.newarray .int, 2) := by decide +kernel
theorem dX1_init_55 : decode cX1_init 55 = .ok (.putfield 28, 3) := by decide +kernel
theorem dX1_init_58 : decode cX1_init 58 = .ok (.aload_n 0, 1) := by decide +kernel
theorem dX1_init_59 : decode cX1_init 59 = .ok (.sipush 200, 3) := by decide +kernel
theorem dX1_init_62 : decode cX1_init 62 = .ok (.newarray .int, 2) := by decide +kernel
theorem dX1_init_64 : decode cX1_init 64 = .ok (.putfield 31, 3) := by decide +kernel
theorem dX1_init_67 : decode cX1_init 67 = .ok (.aload_n 0, 1) := by decide +kernel
theorem dX1_init_68 : decode cX1_init 68 = .ok (.sipush 200, 3) := by decide +kernel
theorem dX1_init_71 : decode cX1_init 71 = .ok (.newarray .int, 2) := by decide +kernel
theorem dX1_init_73 : decode cX1_init 73 = .ok (.putfield 34, 3) := by decide +kernel
theorem dX1_init_76 : decode cX1_init 76 = .ok (.return_, 1) := by decide +kernel
theorem dX1_find_0 : decode cX1_find 0 = .ok (.aload_n 0, 1) := by decide +kernel
theorem dX1_find_1 : decode cX1_find 1 = .ok (.iconst 0, 1) := by decide +kernel
theorem dX1_find_2 : decode cX1_find 2 = .ok (.putfield 37, 3) := by decide +kernel
theorem dX1_find_5 : decode cX1_find 5 = .ok (.aload_n 0, 1) := by decide +kernel
theorem dX1_find_6 : decode cX1_find 6 = .ok (.iconst 0, 1) := by decide +kernel
theorem dX1_find_7 : decode cX1_find 7 = .ok (.putfield 41, 3) := by decide +kernel
theorem dX1_find_10 : decode cX1_find 10 = .ok (.aload_n 0, 1) := by decide +kernel
theorem dX1_find_11 : decode cX1_find 11 = .ok (.iconst 0, 1) := by decide +kernel
theorem dX1_find_12 : decode cX1_find 12 = .ok (.putfield 44, 3) := by decide +kernel
theorem dX1_find_15 : decode cX1_find 15 = .ok (.aload_n 0, 1) := by decide +kernel
theorem dX1_find_16 : decode cX1_find 16 = .ok (.iconst 0, 1) := by decide +kernel
theorem dX1_find_17 : decode cX1_find 17 = .ok (.putfield 47, 3) := by decide +kernel
theorem dX1_find_20 : decode cX1_find 20 = .ok (.aload_n 0, 1) := by decide +kernel
theorem dX1_find_21 : decode cX1_find 21 = .ok (.iconst 0, 1) := by decide +kernel
theorem dX1_find_22 : decode cX1_find 22 = .ok (.putfield 50, 3) := by decide +kernel
theorem dX1_find_25 : decode cX1_find 25 = .ok (.iconst 0, 1) := by decide +kernel
theorem dX1_find_26 : decode cX1_find 26 = .ok (.istore_n 2, 1) := by decide +kernel
theorem dX1_find_27 : decode cX1_find 27 = .ok (.iload_n 2, 1) := by decide +kernel
theorem dX1_find_28 : decode cX1_find 28 = .ok (.aload_n 1, 1) := by decide +kernel
theorem dX1_find_29 : decode cX1_find 29 = .ok (.getfield 53, 3) := by decide +kernel
theorem dX1_find_32 : decode cX1_find 32 = .ok (.if_icmp .ge 23, 3) := by decide +kernel
theorem dX1_find_35 : decode cX1_find 35 = .ok (.aload_n 0, 1) := by decide +kernel
theorem dX1_find_36 : decode cX1_find 36 = .ok (.getfield 22, 3) := by decide +kernel
theorem dX1_find_39 : decode cX1_find 39 = .ok (.iload_n 2, 1) := by decide +kernel
theorem dX1_find_40 : decode cX1_find 40 = .ok (.iconst 0, 1) := by decide +kernel
theorem dX1_find_41 : decode cX1_find 41 = .ok (.iastore, 1) := by decide +kernel
theorem dX1_find_42 : decode cX1_find 42 = .ok (.aload_n 0, 1) := by decide +kernel
theorem dX1_find_43 : decode cX1_find 43 = .ok (.getfield 15, 3) := by decide +kernel
theorem dX1_find_46 : decode cX1_find 46 = .ok (.iload_n 2, 1) := by decide +kernel
theorem dX1_find_47 : decode cX1_find 47 = .ok (.iconst (-1), 1) := by decide +kernel
theorem dX1_find_48 : decode cX1_find 48 = .ok (.iastore, 1) := by decide +kernel
theorem dX1_find_49 : decode cX1_find 49 = .ok (.iinc 2 1, 3) := by decide +kernel
theorem dX1_find_52 : decode cX1_find 52 = .ok (.goto (-25), 3) := by decide +kernel
theorem dX1_find_55 : decode cX1_find 55 = .ok (.iconst 0, 1) := by decide +kernel
theorem dX1_find_56 : decode cX1_find 56 = .ok (.istore_n 2, 1) := by decide +kernel
theorem dX1_find_57 : decode cX1_find 57 = .ok (.iload_n 2, 1) := by decide +kernel
theorem dX1_find_58 : decode cX1_find 58 = .ok (.aload_n 1, 1) := by decide +kernel
theorem dX1_find_59 : decode cX1_find 59 = .ok (.getfield 53, 3) := by decide +kernel
theorem dX1_find_62 : decode cX1_find 62 = .ok (.if_icmp .ge 33, 3) := by decide +kernel
theorem dX1_find_65 : decode cX1_find 65 = .ok (.aload_n 0, 1) := by decide +kernel
theorem dX1_find_66 : decode cX1_find 66 = .ok (.getfield 9, 3) := by decide +kernel
theorem dX1_find_69 : decode cX1_find 69 = .ok (.iload_n 2, 1) := by decide +kernel
theorem dX1_find_70 : decode cX1_find 70 = .ok (.baload, 1) := by decide +kernel
theorem dX1_find_71 : decode cX1_find 71 = .ok (.ifCond .eq 18, 3) := by decide +kernel
theorem dX1_find_74 : decode cX1_find 74 = .ok (.aload_n 0, 1) := by decide +kernel
theorem dX1_find_75 : decode cX1_find 75 = .ok (.getfield 22, 3) := by decide +kernel
theorem dX1_find_78 : decode cX1_find 78 = .ok (.iload_n 2, 1) := by decide +kernel
theorem dX1_find_79 : decode cX1_find 79 = .ok (.iaload, 1) := by decide +kernel
theorem dX1_find_80 : decode cX1_find 80 = .ok (.ifCond .ne 9, 3) := by decide +kernel
theorem dX1_find_83 : decode cX1_find 83 = .ok (.aload_n 0, 1) := by decide +kernel
theorem dX1_find_84 : decode cX1_find 84 = .ok (.aload_n 1, 1) := by decide +kernel
theorem dX1_find_85 : decode cX1_find 85 = .ok (.iload_n 2, 1) := by decide +kernel
theorem dX1_find_86 : decode cX1_find 86 = .ok (.invokevirtual 58, 3) := by decide +kernel
theorem dX1_find_89 : decode cX1_find 89 = .ok (.iinc 2 1, 3) := by decide +kernel
theorem dX1_find_92 : decode cX1_find 92 = .ok (.goto (-35), 3) := by decide +kernel
theorem dX1_find_95 : decode cX1_find 95 = .ok (.return_, 1) := by decide +kernel
theorem dX1_walkFrom_0 : decode cX1_walkFrom 0 = .ok (.aload_n 0, 1) := by decide +kernel
theorem dX1_walkFrom_1 : decode cX1_walkFrom 1 = .ok (.aload_n 1, 1) := by decide +kernel
theorem dX1_walkFrom_2 : decode cX1_walkFrom 2 = .ok (.iload_n 2, 1) := by decide +kernel
theorem dX1_walkFrom_3 : decode cX1_walkFrom 3 = .ok (.invokevirtual 62, 3) := by decide +kernel
theorem dX1_walkFrom_6 : decode cX1_walkFrom 6 = .ok (.aload_n 1, 1) := by decide +kernel
theorem dX1_walkFrom_7 : decode cX1_walkFrom 7 = .ok (.getfield 53, 3) := by decide +kernel
theorem dX1_walkFrom_10 : decode cX1_walkFrom 10 = .ok (.aload_n 1, 1) := by decide +kernel
theorem dX1_walkFrom_11 : decode cX1_walkFrom 11 = .ok (.getfield 65, 3) := by decide +kernel
theorem dX1_walkFrom_14 : decode cX1_walkFrom 14 = .ok (.iadd, 1) := by decide +kernel
theorem dX1_walkFrom_15 : decode cX1_walkFrom 15 = .ok (.istore_n 3, 1) := by decide +kernel
theorem dX1_walkFrom_16 : decode cX1_walkFrom 16 = .ok (.iconst 0, 1) := by decide +kernel
theorem dX1_walkFrom_17 : decode cX1_walkFrom 17 = .ok (.istore 4, 2) := by decide +kernel
theorem dX1_walkFrom_19 : decode cX1_walkFrom 19 = .ok (.iload 4, 2) := by decide +kernel
theorem dX1_walkFrom_21 : decode cX1_walkFrom 21 = .ok (.iload_n 3, 1) := by decide +kernel
theorem dX1_walkFrom_22 : decode cX1_walkFrom 22 = .ok (.if_icmp .ge 157, 3) := by decide +kernel
theorem dX1_walkFrom_25 : decode cX1_walkFrom 25 = .ok (.aload_n 0, 1) := by decide +kernel
theorem dX1_walkFrom_26 : decode cX1_walkFrom 26 = .ok (.getfield 47, 3) := by decide +kernel
theorem dX1_walkFrom_29 : decode cX1_walkFrom 29 = .ok (.ifCond .le 150, 3) := by decide +kernel
theorem dX1_walkFrom_32 : decode cX1_walkFrom 32 = .ok (.aload_n 0, 1) := by decide +kernel
theorem dX1_walkFrom_33 : decode cX1_walkFrom 33 = .ok (.getfield 31, 3) := by decide +kernel
theorem dX1_walkFrom_36 : decode cX1_walkFrom 36 = .ok (.aload_n 0, 1) := by decide +kernel
theorem dX1_walkFrom_37 : decode cX1_walkFrom 37 = .ok (.getfield 47, 3) := by decide +kernel
theorem dX1_walkFrom_40 : decode cX1_walkFrom 40 = .ok (.iconst 1, 1) := by decide +kernel
theorem dX1_walkFrom_41 : decode cX1_walkFrom 41 = .ok (.isub, 1) := by decide +kernel
theorem dX1_walkFrom_42 : decode cX1_walkFrom 42 = .ok (.iaload, 1) := by decide +kernel
theorem dX1_walkFrom_43 : decode cX1_walkFrom 43 = .ok (.istore 5, 2) := by decide +kernel
theorem dX1_walkFrom_45 : decode cX1_walkFrom 45 = .ok (.aload_n 0, 1) := by decide +kernel
theorem dX1_walkFrom_46 : decode cX1_walkFrom 46 = .ok (.getfield 28, 3) := by decide +kernel
theorem dX1_walkFrom_49 : decode cX1_walkFrom 49 = .ok (.iload 5, 2) := by decide +kernel
theorem dX1_walkFrom_51 : decode cX1_walkFrom 51 = .ok (.iaload, 1) := by decide +kernel
theorem dX1_walkFrom_52 : decode cX1_walkFrom 52 = .ok (.aload_n 1, 1) := by decide +kernel
theorem dX1_walkFrom_53 : decode cX1_walkFrom 53 = .ok (.getfield 68, 3) := by decide +kernel
theorem dX1_walkFrom_56 : decode cX1_walkFrom 56 = .ok (.iload 5, 2) := by decide +kernel
theorem dX1_walkFrom_58 : decode cX1_walkFrom 58 = .ok (.iconst 1, 1) := by decide +kernel
theorem dX1_walkFrom_59 : decode cX1_walkFrom 59 = .ok (.iadd, 1) := by decide +kernel
theorem dX1_walkFrom_60 : decode cX1_walkFrom 60 = .ok (.iaload, 1) := by decide +kernel
theorem dX1_walkFrom_61 : decode cX1_walkFrom 61 = .ok (.if_icmp .ne 18, 3) := by decide +kernel
theorem dX1_walkFrom_64 : decode cX1_walkFrom 64 = .ok (.aload_n 0, 1) := by decide +kernel
theorem dX1_walkFrom_65 : decode cX1_walkFrom 65 = .ok (.iload 5, 2) := by decide +kernel
theorem dX1_walkFrom_67 : decode cX1_walkFrom 67 = .ok (.invokevirtual 71, 3) := by decide +kernel
theorem dX1_walkFrom_70 : decode cX1_walkFrom 70 = .ok (.aload_n 0, 1) := by decide +kernel
theorem dX1_walkFrom_71 : decode cX1_walkFrom 71 = .ok (.iload 5, 2) := by decide +kernel
theorem dX1_walkFrom_73 : decode cX1_walkFrom 73 = .ok (.invokevirtual 75, 3) := by decide +kernel
theorem dX1_walkFrom_76 : decode cX1_walkFrom 76 = .ok (.goto 97, 3) := by decide +kernel
theorem dX1_walkFrom_79 : decode cX1_walkFrom 79 = .ok (.aload_n 1, 1) := by decide +kernel
theorem dX1_walkFrom_80 : decode cX1_walkFrom 80 = .ok (.getfield 78, 3) := by decide +kernel
theorem dX1_walkFrom_83 : decode cX1_walkFrom 83 = .ok (.aload_n 1, 1) := by decide +kernel
theorem dX1_walkFrom_84 : decode cX1_walkFrom 84 = .ok (.getfield 81, 3) := by decide +kernel
theorem dX1_walkFrom_87 : decode cX1_walkFrom 87 = .ok (.aload_n 0, 1) := by decide +kernel
theorem dX1_walkFrom_88 : decode cX1_walkFrom 88 = .ok (.getfield 28, 3) := by decide +kernel
theorem dX1_walkFrom_91 : decode cX1_walkFrom 91 = .ok (.iload 5, 2) := by decide +kernel
theorem dX1_walkFrom_93 : decode cX1_walkFrom 93 = .ok (.iaload, 1) := by decide +kernel
theorem dX1_walkFrom_94 : decode cX1_walkFrom 94 = .ok (.iaload, 1) := by decide +kernel
theorem dX1_walkFrom_95 : decode cX1_walkFrom 95 = .ok (.iaload, 1) := by decide +kernel
theorem dX1_walkFrom_96 : decode cX1_walkFrom 96 = .ok (.istore 6, 2) := by decide +kernel
theorem dX1_walkFrom_98 : decode cX1_walkFrom 98 = .ok (.aload_n 0, 1) := by decide +kernel
theorem dX1_walkFrom_99 : decode cX1_walkFrom 99 = .ok (.getfield 28, 3) := by decide +kernel
theorem dX1_walkFrom_102 : decode cX1_walkFrom 102 = .ok (.iload 5, 2) := by decide +kernel
theorem dX1_walkFrom_104 : decode cX1_walkFrom 104 = .ok (.dup2, 1) := by decide +kernel
theorem dX1_walkFrom_105 : decode cX1_walkFrom 105 = .ok (.iaload, 1) := by decide +kernel
theorem dX1_walkFrom_106 : decode cX1_walkFrom 106 = .ok (.iconst 1, 1) := by decide +kernel
theorem dX1_walkFrom_107 : decode cX1_walkFrom 107 = .ok (.iadd, 1) := by decide +kernel
theorem dX1_walkFrom_108 : decode cX1_walkFrom 108 = .ok (.iastore, 1) := by decide +kernel
theorem dX1_walkFrom_109 : decode cX1_walkFrom 109 = .ok (.aload_n 0, 1) := by decide +kernel
theorem dX1_walkFrom_110 : decode cX1_walkFrom 110 = .ok (.getfield 9, 3) := by decide +kernel
theorem dX1_walkFrom_113 : decode cX1_walkFrom 113 = .ok (.iload 6, 2) := by decide +kernel
theorem dX1_walkFrom_115 : decode cX1_walkFrom 115 = .ok (.baload, 1) := by decide +kernel
theorem dX1_walkFrom_116 : decode cX1_walkFrom 116 = .ok (.ifCond .eq 23, 3) := by decide +kernel
theorem dX1_walkFrom_119 : decode cX1_walkFrom 119 = .ok (.aload_n 0, 1) := by decide +kernel
theorem dX1_walkFrom_120 : decode cX1_walkFrom 120 = .ok (.getfield 22, 3) := by decide +kernel
theorem dX1_walkFrom_123 : decode cX1_walkFrom 123 = .ok (.iload 6, 2) := by decide +kernel
theorem dX1_walkFrom_125 : decode cX1_walkFrom 125 = .ok (.iaload, 1) := by decide +kernel
theorem dX1_walkFrom_126 : decode cX1_walkFrom 126 = .ok (.ifCond .ne 13, 3) := by decide +kernel
theorem dX1_walkFrom_129 : decode cX1_walkFrom 129 = .ok (.aload_n 0, 1) := by decide +kernel
theorem dX1_walkFrom_130 : decode cX1_walkFrom 130 = .ok (.aload_n 1, 1) := by decide +kernel
theorem dX1_walkFrom_131 : decode cX1_walkFrom 131 = .ok (.iload 6, 2) := by decide +kernel
theorem dX1_walkFrom_133 : decode cX1_walkFrom 133 = .ok (.invokevirtual 62, 3) := by decide +kernel
theorem dX1_walkFrom_136 : decode cX1_walkFrom 136 = .ok (.goto 37, 3) := by decide +kernel
theorem dX1_walkFrom_139 : decode cX1_walkFrom 139 = .ok (.aload_n 0, 1) := by decide +kernel
theorem dX1_walkFrom_140 : decode cX1_walkFrom 140 = .ok (.getfield 9, 3) := by decide +kernel
theorem dX1_walkFrom_143 : decode cX1_walkFrom 143 = .ok (.iload 6, 2) := by decide +kernel
theorem dX1_walkFrom_145 : decode cX1_walkFrom 145 = .ok (.baload, 1) := by decide +kernel
theorem dX1_walkFrom_146 : decode cX1_walkFrom 146 = .ok (.ifCond .eq 27, 3) := by decide +kernel
theorem dX1_walkFrom_149 : decode cX1_walkFrom 149 = .ok (.aload_n 0, 1) := by decide +kernel
theorem dX1_walkFrom_150 : decode cX1_walkFrom 150 = .ok (.getfield 15, 3) := by decide +kernel
theorem dX1_walkFrom_153 : decode cX1_walkFrom 153 = .ok (.iload 6, 2) := by decide +kernel
theorem dX1_walkFrom_155 : decode cX1_walkFrom 155 = .ok (.iaload, 1) := by decide +kernel
theorem dX1_walkFrom_156 : decode cX1_walkFrom 156 = .ok (.iconst (-1), 1) := by decide +kernel
theorem dX1_walkFrom_157 : decode cX1_walkFrom 157 = .ok (.if_icmp .ne 16, 3) := by decide +kernel
theorem dX1_walkFrom_160 : decode cX1_walkFrom 160 = .ok (.aload_n 0, 1) := by decide +kernel
theorem dX1_walkFrom_161 : decode cX1_walkFrom 161 = .ok (.iload 5, 2) := by decide +kernel
theorem dX1_walkFrom_163 : decode cX1_walkFrom 163 = .ok (.aload_n 0, 1) := by decide +kernel
theorem dX1_walkFrom_164 : decode cX1_walkFrom 164 = .ok (.getfield 22, 3) := by decide +kernel
theorem dX1_walkFrom_167 : decode cX1_walkFrom 167 = .ok (.iload 6, 2) := by decide +kernel
theorem dX1_walkFrom_169 : decode cX1_walkFrom 169 = .ok (.iaload, 1) := by decide +kernel
theorem dX1_walkFrom_170 : decode cX1_walkFrom 170 = .ok (.invokevirtual 84, 3) := by decide +kernel
theorem dX1_walkFrom_173 : decode cX1_walkFrom 173 = .ok (.iinc 4 1, 3) := by decide +kernel
theorem dX1_walkFrom_176 : decode cX1_walkFrom 176 = .ok (.goto (-157), 3) := by decide +kernel
theorem dX1_walkFrom_179 : decode cX1_walkFrom 179 = .ok (.return_, 1) := by decide +kernel
theorem dX1_enter_0 : decode cX1_enter 0 = .ok (.aload_n 0, 1) := by decide +kernel
theorem dX1_enter_1 : decode cX1_enter 1 = .ok (.dup, 1) := by decide +kernel
theorem dX1_enter_2 : decode cX1_enter 2 = .ok (.getfield 44, 3) := by decide +kernel
theorem dX1_enter_5 : decode cX1_enter 5 = .ok (.iconst 1, 1) := by decide +kernel
theorem dX1_enter_6 : decode cX1_enter 6 = .ok (.iadd, 1) := by decide +kernel
theorem dX1_enter_7 : decode cX1_enter 7 = .ok (.putfield 44, 3) := by decide +kernel
theorem dX1_enter_10 : decode cX1_enter 10 = .ok (.aload_n 0, 1) := by decide +kernel
theorem dX1_enter_11 : decode cX1_enter 11 = .ok (.getfield 22, 3) := by decide +kernel
theorem dX1_enter_14 : decode cX1_enter 14 = .ok (.iload_n 2, 1) := by decide +kernel
theorem dX1_enter_15 : decode cX1_enter 15 = .ok (.aload_n 0, 1) := by decide +kernel
theorem dX1_enter_16 : decode cX1_enter 16 = .ok (.getfield 44, 3) := by decide +kernel
theorem dX1_enter_19 : decode cX1_enter 19 = .ok (.iastore, 1) := by decide +kernel
theorem dX1_enter_20 : decode cX1_enter 20 = .ok (.aload_n 0, 1) := by decide +kernel
theorem dX1_enter_21 : decode cX1_enter 21 = .ok (.getfield 25, 3) := by decide +kernel
theorem dX1_enter_24 : decode cX1_enter 24 = .ok (.iload_n 2, 1) := by decide +kernel
theorem dX1_enter_25 : decode cX1_enter 25 = .ok (.aload_n 0, 1) := by decide +kernel
theorem dX1_enter_26 : decode cX1_enter 26 = .ok (.getfield 44, 3) := by decide +kernel
theorem dX1_enter_29 : decode cX1_enter 29 = .ok (.iastore, 1) := by decide +kernel
theorem dX1_enter_30 : decode cX1_enter 30 = .ok (.aload_n 0, 1) := by decide +kernel
theorem dX1_enter_31 : decode cX1_enter 31 = .ok (.getfield 28, 3) := by decide +kernel
theorem dX1_enter_34 : decode cX1_enter 34 = .ok (.iload_n 2, 1) := by decide +kernel
theorem dX1_enter_35 : decode cX1_enter 35 = .ok (.aload_n 1, 1) := by decide +kernel
theorem dX1_enter_36 : decode cX1_enter 36 = .ok (.getfield 68, 3) := by decide +kernel
theorem dX1_enter_39 : decode cX1_enter 39 = .ok (.iload_n 2, 1) := by decide +kernel
theorem dX1_enter_40 : decode cX1_enter 40 = .ok (.iaload, 1) := by decide +kernel
theorem dX1_enter_41 : decode cX1_enter 41 = .ok (.iastore, 1) := by decide +kernel
theorem dX1_enter_42 : decode cX1_enter 42 = .ok (.aload_n 0, 1) := by decide +kernel
theorem dX1_enter_43 : decode cX1_enter 43 = .ok (.getfield 31, 3) := by decide +kernel
theorem dX1_enter_46 : decode cX1_enter 46 = .ok (.aload_n 0, 1) := by decide +kernel
theorem dX1_enter_47 : decode cX1_enter 47 = .ok (.getfield 47, 3) := by decide +kernel
theorem dX1_enter_50 : decode cX1_enter 50 = .ok (.iload_n 2, 1) := by decide +kernel
theorem dX1_enter_51 : decode cX1_enter 51 = .ok (.iastore, 1) := by decide +kernel
theorem dX1_enter_52 : decode cX1_enter 52 = .ok (.aload_n 0, 1) := by decide +kernel
theorem dX1_enter_53 : decode cX1_enter 53 = .ok (.dup, 1) := by decide +kernel
theorem dX1_enter_54 : decode cX1_enter 54 = .ok (.getfield 47, 3) := by decide +kernel
theorem dX1_enter_57 : decode cX1_enter 57 = .ok (.iconst 1, 1) := by decide +kernel
theorem dX1_enter_58 : decode cX1_enter 58 = .ok (.iadd, 1) := by decide +kernel
theorem dX1_enter_59 : decode cX1_enter 59 = .ok (.putfield 47, 3) := by decide +kernel
theorem dX1_enter_62 : decode cX1_enter 62 = .ok (.aload_n 0, 1) := by decide +kernel
theorem dX1_enter_63 : decode cX1_enter 63 = .ok (.getfield 34, 3) := by decide +kernel
theorem dX1_enter_66 : decode cX1_enter 66 = .ok (.aload_n 0, 1) := by decide +kernel
theorem dX1_enter_67 : decode cX1_enter 67 = .ok (.getfield 50, 3) := by decide +kernel
theorem dX1_enter_70 : decode cX1_enter 70 = .ok (.iload_n 2, 1) := by decide +kernel
theorem dX1_enter_71 : decode cX1_enter 71 = .ok (.iastore, 1) := by decide +kernel
theorem dX1_enter_72 : decode cX1_enter 72 = .ok (.aload_n 0, 1) := by decide +kernel
theorem dX1_enter_73 : decode cX1_enter 73 = .ok (.dup, 1) := by decide +kernel
theorem dX1_enter_74 : decode cX1_enter 74 = .ok (.getfield 50, 3) := by decide +kernel
theorem dX1_enter_77 : decode cX1_enter 77 = .ok (.iconst 1, 1) := by decide +kernel
theorem dX1_enter_78 : decode cX1_enter 78 = .ok (.iadd, 1) := by decide +kernel
theorem dX1_enter_79 : decode cX1_enter 79 = .ok (.putfield 50, 3) := by decide +kernel
theorem dX1_enter_82 : decode cX1_enter 82 = .ok (.return_, 1) := by decide +kernel
theorem dX1_lower_0 : decode cX1_lower 0 = .ok (.iload_n 2, 1) := by decide +kernel
theorem dX1_lower_1 : decode cX1_lower 1 = .ok (.aload_n 0, 1) := by decide +kernel
theorem dX1_lower_2 : decode cX1_lower 2 = .ok (.getfield 25, 3) := by decide +kernel
theorem dX1_lower_5 : decode cX1_lower 5 = .ok (.iload_n 1, 1) := by decide +kernel
theorem dX1_lower_6 : decode cX1_lower 6 = .ok (.iaload, 1) := by decide +kernel
theorem dX1_lower_7 : decode cX1_lower 7 = .ok (.if_icmp .ge 10, 3) := by decide +kernel
theorem dX1_lower_10 : decode cX1_lower 10 = .ok (.aload_n 0, 1) := by decide +kernel
theorem dX1_lower_11 : decode cX1_lower 11 = .ok (.getfield 25, 3) := by decide +kernel
theorem dX1_lower_14 : decode cX1_lower 14 = .ok (.iload_n 1, 1) := by decide +kernel
theorem dX1_lower_15 : decode cX1_lower 15 = .ok (.iload_n 2, 1) := by decide +kernel
theorem dX1_lower_16 : decode cX1_lower 16 = .ok (.iastore, 1) := by decide +kernel
theorem dX1_lower_17 : decode cX1_lower 17 = .ok (.return_, 1) := by decide +kernel
theorem dX1_closeKnotBegunBy_0 : decode cX1_closeKnotBegunBy 0 = .ok (.aload_n 0, 1) := by decide +kernel
theorem dX1_closeKnotBegunBy_1 : decode cX1_closeKnotBegunBy 1 = .ok (.getfield 25, 3) := by decide +kernel
theorem dX1_closeKnotBegunBy_4 : decode cX1_closeKnotBegunBy 4 = .ok (.iload_n 1, 1) := by decide +kernel
theorem dX1_closeKnotBegunBy_5 : decode cX1_closeKnotBegunBy 5 = .ok (.iaload, 1) := by decide +kernel
theorem dX1_closeKnotBegunBy_6 : decode cX1_closeKnotBegunBy 6 = .ok (.aload_n 0, 1) := by decide +kernel
theorem dX1_closeKnotBegunBy_7 : decode cX1_closeKnotBegunBy 7 = .ok (.getfield 22, 3) := by decide +kernel
theorem dX1_closeKnotBegunBy_10 : decode cX1_closeKnotBegunBy 10 = .ok (.iload_n 1, 1) := by decide +kernel
theorem dX1_closeKnotBegunBy_11 : decode cX1_closeKnotBegunBy 11 = .ok (.iaload, 1) := by decide +kernel
theorem dX1_closeKnotBegunBy_12 : decode cX1_closeKnotBegunBy 12 = .ok (.if_icmp .eq 4, 3) := by decide +kernel
theorem dX1_closeKnotBegunBy_15 : decode cX1_closeKnotBegunBy 15 = .ok (.return_, 1) := by decide +kernel
theorem dX1_closeKnotBegunBy_16 : decode cX1_closeKnotBegunBy 16 = .ok (.aload_n 0, 1) := by decide +kernel
theorem dX1_closeKnotBegunBy_17 : decode cX1_closeKnotBegunBy 17 = .ok (.getfield 50, 3) := by decide +kernel
theorem dX1_closeKnotBegunBy_20 : decode cX1_closeKnotBegunBy 20 = .ok (.ifCond .le 66, 3) := by decide +kernel
theorem dX1_closeKnotBegunBy_23 : decode cX1_closeKnotBegunBy 23 = .ok (.aload_n 0, 1) := by decide +kernel
theorem dX1_closeKnotBegunBy_24 : decode cX1_closeKnotBegunBy 24 = .ok (.getfield 15, 3) := by decide +kernel
theorem dX1_closeKnotBegunBy_27 : decode cX1_closeKnotBegunBy 27 = .ok (.iload_n 1, 1) := by decide +kernel
theorem dX1_closeKnotBegunBy_28 : decode cX1_closeKnotBegunBy 28 = .ok (.iaload, 1) := by decide +kernel
theorem dX1_closeKnotBegunBy_29 : decode cX1_closeKnotBegunBy 29 = .ok (.iconst (-1), 1) := by decide +kernel
theorem dX1_closeKnotBegunBy_30 : decode cX1_closeKnotBegunBy 30 = .ok (.if_icmp .ne 56, 3) := by decide +kernel
theorem dX1_closeKnotBegunBy_33 : decode cX1_closeKnotBegunBy 33 = .ok (.aload_n 0, 1) := by decide +kernel
theorem dX1_closeKnotBegunBy_34 : decode cX1_closeKnotBegunBy 34 = .ok (.dup, 1) := by decide +kernel
theorem dX1_closeKnotBegunBy_35 : decode cX1_closeKnotBegunBy 35 = .ok (.getfield 50, 3) := by decide +kernel
theorem dX1_closeKnotBegunBy_38 : decode cX1_closeKnotBegunBy 38 = .ok (.iconst 1, 1) := by decide +kernel
theorem dX1_closeKnotBegunBy_39 : decode cX1_closeKnotBegunBy 39 = .ok (.isub, 1) := by decide +kernel
theorem dX1_closeKnotBegunBy_40 : decode cX1_closeKnotBegunBy 40 = .ok (.putfield 50, 3) := by decide +kernel
theorem dX1_closeKnotBegunBy_43 : decode cX1_closeKnotBegunBy 43 = .ok (.aload_n 0, 1) := by decide +kernel
theorem dX1_closeKnotBegunBy_44 : decode cX1_closeKnotBegunBy 44 = .ok (.getfield 34, 3) := by decide +kernel
theorem dX1_closeKnotBegunBy_47 : decode cX1_closeKnotBegunBy 47 = .ok (.aload_n 0, 1) := by decide +kernel
theorem dX1_closeKnotBegunBy_48 : decode cX1_closeKnotBegunBy 48 = .ok (.getfield 50, 3) := by decide +kernel
theorem dX1_closeKnotBegunBy_51 : decode cX1_closeKnotBegunBy 51 = .ok (.iaload, 1) := by decide +kernel
theorem dX1_closeKnotBegunBy_52 : decode cX1_closeKnotBegunBy 52 = .ok (.istore_n 2, 1) := by decide +kernel
theorem dX1_closeKnotBegunBy_53 : decode cX1_closeKnotBegunBy 53 = .ok (.aload_n 0, 1) := by decide +kernel
theorem dX1_closeKnotBegunBy_54 : decode cX1_closeKnotBegunBy 54 = .ok (.getfield 15, 3) := by decide +kernel
theorem dX1_closeKnotBegunBy_57 : decode cX1_closeKnotBegunBy 57 = .ok (.iload_n 2, 1) := by decide +kernel
theorem dX1_closeKnotBegunBy_58 : decode cX1_closeKnotBegunBy 58 = .ok (.aload_n 0, 1) := by decide +kernel
theorem dX1_closeKnotBegunBy_59 : decode cX1_closeKnotBegunBy 59 = .ok (.getfield 37, 3) := by decide +kernel
theorem dX1_closeKnotBegunBy_62 : decode cX1_closeKnotBegunBy 62 = .ok (.iastore, 1) := by decide +kernel
theorem dX1_closeKnotBegunBy_63 : decode cX1_closeKnotBegunBy 63 = .ok (.aload_n 0, 1) := by decide +kernel
theorem dX1_closeKnotBegunBy_64 : decode cX1_closeKnotBegunBy 64 = .ok (.getfield 19, 3) := by decide +kernel
theorem dX1_closeKnotBegunBy_67 : decode cX1_closeKnotBegunBy 67 = .ok (.aload_n 0, 1) := by decide +kernel
theorem dX1_closeKnotBegunBy_68 : decode cX1_closeKnotBegunBy 68 = .ok (.getfield 41, 3) := by decide +kernel
theorem dX1_closeKnotBegunBy_71 : decode cX1_closeKnotBegunBy 71 = .ok (.iload_n 2, 1) := by decide +kernel
theorem dX1_closeKnotBegunBy_72 : decode cX1_closeKnotBegunBy 72 = .ok (.iastore, 1) := by decide +kernel
theorem dX1_closeKnotBegunBy_73 : decode cX1_closeKnotBegunBy 73 = .ok (.aload_n 0, 1) := by decide +kernel
theorem dX1_closeKnotBegunBy_74 : decode cX1_closeKnotBegunBy 74 = .ok (.dup, 1) := by decide +kernel
theorem dX1_closeKnotBegunBy_75 : decode cX1_closeKnotBegunBy 75 = .ok (.getfield 41, 3) := by decide +kernel
theorem dX1_closeKnotBegunBy_78 : decode cX1_closeKnotBegunBy 78 = .ok (.iconst 1, 1) := by decide +kernel
theorem dX1_closeKnotBegunBy_79 : decode cX1_closeKnotBegunBy 79 = .ok (.iadd, 1) := by decide +kernel
theorem dX1_closeKnotBegunBy_80 : decode cX1_closeKnotBegunBy 80 = .ok (.putfield 41, 3) := by decide +kernel
theorem dX1_closeKnotBegunBy_83 : decode cX1_closeKnotBegunBy 83 = .ok (.goto (-67), 3) := by decide +kernel
theorem dX1_closeKnotBegunBy_86 : decode cX1_closeKnotBegunBy 86 = .ok (.aload_n 0, 1) := by decide +kernel
theorem dX1_closeKnotBegunBy_87 : decode cX1_closeKnotBegunBy 87 = .ok (.dup, 1) := by decide +kernel
theorem dX1_closeKnotBegunBy_88 : decode cX1_closeKnotBegunBy 88 = .ok (.getfield 37, 3) := by decide +kernel
theorem dX1_closeKnotBegunBy_91 : decode cX1_closeKnotBegunBy 91 = .ok (.iconst 1, 1) := by decide +kernel
theorem dX1_closeKnotBegunBy_92 : decode cX1_closeKnotBegunBy 92 = .ok (.iadd, 1) := by decide +kernel
theorem dX1_closeKnotBegunBy_93 : decode cX1_closeKnotBegunBy 93 = .ok (.putfield 37, 3) := by decide +kernel
theorem dX1_closeKnotBegunBy_96 : decode cX1_closeKnotBegunBy 96 = .ok (.return_, 1) := by decide +kernel
theorem dX1_leave_0 : decode cX1_leave 0 = .ok (.aload_n 0, 1) := by decide +kernel
theorem dX1_leave_1 : decode cX1_leave 1 = .ok (.dup, 1) := by decide +kernel
theorem dX1_leave_2 : decode cX1_leave 2 = .ok (.getfield 47, 3) := by decide +kernel
theorem dX1_leave_5 : decode cX1_leave 5 = .ok (.iconst 1, 1) := by decide +kernel
theorem dX1_leave_6 : decode cX1_leave 6 = .ok (.isub, 1) := by decide +kernel
theorem dX1_leave_7 : decode cX1_leave 7 = .ok (.putfield 47, 3) := by decide +kernel
theorem dX1_leave_10 : decode cX1_leave 10 = .ok (.aload_n 0, 1) := by decide +kernel
theorem dX1_leave_11 : decode cX1_leave 11 = .ok (.getfield 47, 3) := by decide +kernel
theorem dX1_leave_14 : decode cX1_leave 14 = .ok (.ifCond .le 24, 3) := by decide +kernel
theorem dX1_leave_17 : decode cX1_leave 17 = .ok (.aload_n 0, 1) := by decide +kernel
theorem dX1_leave_18 : decode cX1_leave 18 = .ok (.aload_n 0, 1) := by decide +kernel
theorem dX1_leave_19 : decode cX1_leave 19 = .ok (.getfield 31, 3) := by decide +kernel
theorem dX1_leave_22 : decode cX1_leave 22 = .ok (.aload_n 0, 1) := by decide +kernel
theorem dX1_leave_23 : decode cX1_leave 23 = .ok (.getfield 47, 3) := by decide +kernel
theorem dX1_leave_26 : decode cX1_leave 26 = .ok (.iconst 1, 1) := by decide +kernel
theorem dX1_leave_27 : decode cX1_leave 27 = .ok (.isub, 1) := by decide +kernel
theorem dX1_leave_28 : decode cX1_leave 28 = .ok (.iaload, 1) := by decide +kernel
theorem dX1_leave_29 : decode cX1_leave 29 = .ok (.aload_n 0, 1) := by decide +kernel
theorem dX1_leave_30 : decode cX1_leave 30 = .ok (.getfield 25, 3) := by decide +kernel
theorem dX1_leave_33 : decode cX1_leave 33 = .ok (.iload_n 1, 1) := by decide +kernel
theorem dX1_leave_34 : decode cX1_leave 34 = .ok (.iaload, 1) := by decide +kernel
theorem dX1_leave_35 : decode cX1_leave 35 = .ok (.invokevirtual 84, 3) := by decide +kernel
theorem dX1_leave_38 : decode cX1_leave 38 = .ok (.return_, 1) := by decide +kernel
theorem dX2_init_0 : decode cX2_init 0 = .ok (.aload_n 0, 1) := by decide +kernel
theorem dX2_init_1 : decode cX2_init 1 = .ok (.invokespecial 3, 3) := by decide +kernel
theorem dX2_init_4 : decode cX2_init 4 = .ok (.aload_n 0, 1) := by decide +kernel
theorem dX2_init_5 : decode cX2_init 5 = .ok (.sipush 200, 3) := by decide +kernel
theorem dX2_init_8 : decode cX2_init 8 = .ok (.newarray .int, 2) := by decide +kernel
theorem dX2_init_10 : decode cX2_init 10 = .ok (.putfield 9, 3) := by decide +kernel
theorem dX2_init_13 : decode cX2_init 13 = .ok (.aload_n 0, 1) := by decide +kernel
theorem dX2_init_14 : decode cX2_init 14 = .ok (.sipush 200, 3) := by decide +kernel
theorem dX2_init_17 : decode cX2_init 17 = .ok (.newarray .int, 2) := by decide +kernel
theorem dX2_init_19 : decode cX2_init 19 = .ok (.putfield 15, 3) := by decide +kernel
theorem dX2_init_22 : decode cX2_init 22 = .ok (.aload_n 0, 1) := by decide +kernel
theorem dX2_init_23 : decode cX2_init 23 = .ok (.sipush 200, 3) := by decide +kernel
theorem dX2_init_26 : decode cX2_init 26 = .ok (.newarray .int, 2) := by decide +kernel
theorem dX2_init_28 : decode cX2_init 28 = .ok (.putfield 18, 3) := by decide +kernel
theorem dX2_init_31 : decode cX2_init 31 = .ok (.return_, 1) := by decide +kernel
theorem dX2_walk_0 : decode cX2_walk 0 = .ok (.iconst 0, 1) := by decide +kernel
theorem dX2_walk_1 : decode cX2_walk 1 = .ok (.istore_n 2, 1) := by decide +kernel
theorem dX2_walk_2 : decode cX2_walk 2 = .ok (.iload_n 2, 1) := by decide +kernel
theorem dX2_walk_3 : decode cX2_walk 3 = .ok (.aload_n 1, 1) := by decide +kernel
theorem dX2_walk_4 : decode cX2_walk 4 = .ok (.getfield 21, 3) := by decide +kernel
theorem dX2_walk_7 : decode cX2_walk 7 = .ok (.if_icmp .ge 16, 3) := by decide +kernel
theorem dX2_walk_10 : decode cX2_walk 10 = .ok (.aload_n 0, 1) := by decide +kernel
theorem dX2_walk_11 : decode cX2_walk 11 = .ok (.getfield 15, 3) := by decide +kernel
theorem dX2_walk_14 : decode cX2_walk 14 = .ok (.iload_n 2, 1) := by decide +kernel
theorem dX2_walk_15 : decode cX2_walk 15 = .ok (.iconst (-1), 1) := by decide +kernel
theorem dX2_walk_16 : decode cX2_walk 16 = .ok (.iastore, 1) := by decide +kernel
theorem dX2_walk_17 : decode cX2_walk 17 = .ok (.iinc 2 1, 3) := by decide +kernel
theorem dX2_walk_20 : decode cX2_walk 20 = .ok (.goto (-18), 3) := by decide +kernel
theorem dX2_walk_23 : decode cX2_walk 23 = .ok (.aload_n 0, 1) := by decide +kernel
theorem dX2_walk_24 : decode cX2_walk 24 = .ok (.iconst 0, 1) := by decide +kernel
theorem dX2_walk_25 : decode cX2_walk 25 = .ok (.putfield 27, 3) := by decide +kernel
theorem dX2_walk_28 : decode cX2_walk 28 = .ok (.aload_n 1, 1) := by decide +kernel
theorem dX2_walk_29 : decode cX2_walk 29 = .ok (.getfield 21, 3) := by decide +kernel
theorem dX2_walk_32 : decode cX2_walk 32 = .ok (.ifCond .le 10, 3) := by decide +kernel
theorem dX2_walk_35 : decode cX2_walk 35 = .ok (.aload_n 0, 1) := by decide +kernel
theorem dX2_walk_36 : decode cX2_walk 36 = .ok (.iconst 0, 1) := by decide +kernel
theorem dX2_walk_37 : decode cX2_walk 37 = .ok (.iconst 0, 1) := by decide +kernel
theorem dX2_walk_38 : decode cX2_walk 38 = .ok (.iconst (-1), 1) := by decide +kernel
theorem dX2_walk_39 : decode cX2_walk 39 = .ok (.invokevirtual 30, 3) := by decide +kernel
theorem dX2_walk_42 : decode cX2_walk 42 = .ok (.iconst 0, 1) := by decide +kernel
theorem dX2_walk_43 : decode cX2_walk 43 = .ok (.istore_n 2, 1) := by decide +kernel
theorem dX2_walk_44 : decode cX2_walk 44 = .ok (.iload_n 2, 1) := by decide +kernel
theorem dX2_walk_45 : decode cX2_walk 45 = .ok (.aload_n 1, 1) := by decide +kernel
theorem dX2_walk_46 : decode cX2_walk 46 = .ok (.getfield 21, 3) := by decide +kernel
theorem dX2_walk_49 : decode cX2_walk 49 = .ok (.if_icmp .ge 97, 3) := by decide +kernel
theorem dX2_walk_52 : decode cX2_walk 52 = .ok (.iload_n 2, 1) := by decide +kernel
theorem dX2_walk_53 : decode cX2_walk 53 = .ok (.aload_n 0, 1) := by decide +kernel
theorem dX2_walk_54 : decode cX2_walk 54 = .ok (.getfield 27, 3) := by decide +kernel
theorem dX2_walk_57 : decode cX2_walk 57 = .ok (.if_icmp .ge 89, 3) := by decide +kernel
theorem dX2_walk_60 : decode cX2_walk 60 = .ok (.aload_n 0, 1) := by decide +kernel
theorem dX2_walk_61 : decode cX2_walk 61 = .ok (.getfield 9, 3) := by decide +kernel
theorem dX2_walk_64 : decode cX2_walk 64 = .ok (.iload_n 2, 1) := by decide +kernel
theorem dX2_walk_65 : decode cX2_walk 65 = .ok (.iaload, 1) := by decide +kernel
theorem dX2_walk_66 : decode cX2_walk 66 = .ok (.istore_n 3, 1) := by decide +kernel
theorem dX2_walk_67 : decode cX2_walk 67 = .ok (.aload_n 1, 1) := by decide +kernel
theorem dX2_walk_68 : decode cX2_walk 68 = .ok (.getfield 34, 3) := by decide +kernel
theorem dX2_walk_71 : decode cX2_walk 71 = .ok (.iload_n 3, 1) := by decide +kernel
theorem dX2_walk_72 : decode cX2_walk 72 = .ok (.iaload, 1) := by decide +kernel
theorem dX2_walk_73 : decode cX2_walk 73 = .ok (.istore 4, 2) := by decide +kernel
theorem dX2_walk_75 : decode cX2_walk 75 = .ok (.iload 4, 2) := by decide +kernel
theorem dX2_walk_77 : decode cX2_walk 77 = .ok (.aload_n 1, 1) := by decide +kernel
theorem dX2_walk_78 : decode cX2_walk 78 = .ok (.getfield 34, 3) := by decide +kernel
theorem dX2_walk_81 : decode cX2_walk 81 = .ok (.iload_n 3, 1) := by decide +kernel
theorem dX2_walk_82 : decode cX2_walk 82 = .ok (.iconst 1, 1) := by decide +kernel
theorem dX2_walk_83 : decode cX2_walk 83 = .ok (.iadd, 1) := by decide +kernel
theorem dX2_walk_84 : decode cX2_walk 84 = .ok (.iaload, 1) := by decide +kernel
theorem dX2_walk_85 : decode cX2_walk 85 = .ok (.if_icmp .ge 55, 3) := by decide +kernel
theorem dX2_walk_88 : decode cX2_walk 88 = .ok (.aload_n 1, 1) := by decide +kernel
theorem dX2_walk_89 : decode cX2_walk 89 = .ok (.getfield 37, 3) := by decide +kernel
theorem dX2_walk_92 : decode cX2_walk 92 = .ok (.iload 4, 2) := by decide +kernel
theorem dX2_walk_94 : decode cX2_walk 94 = .ok (.iaload, 1) := by decide +kernel
theorem dX2_walk_95 : decode cX2_walk 95 = .ok (.istore 5, 2) := by decide +kernel
theorem dX2_walk_97 : decode cX2_walk 97 = .ok (.aload_n 0, 1) := by decide +kernel
theorem dX2_walk_98 : decode cX2_walk 98 = .ok (.getfield 15, 3) := by decide +kernel
theorem dX2_walk_101 : decode cX2_walk 101 = .ok (.aload_n 1, 1) := by decide +kernel
theorem dX2_walk_102 : decode cX2_walk 102 = .ok (.getfield 40, 3) := by decide +kernel
theorem dX2_walk_105 : decode cX2_walk 105 = .ok (.iload 5, 2) := by decide +kernel
theorem dX2_walk_107 : decode cX2_walk 107 = .ok (.iaload, 1) := by decide +kernel
theorem dX2_walk_108 : decode cX2_walk 108 = .ok (.iaload, 1) := by decide +kernel
theorem dX2_walk_109 : decode cX2_walk 109 = .ok (.iconst (-1), 1) := by decide +kernel
theorem dX2_walk_110 : decode cX2_walk 110 = .ok (.if_icmp .ne 24, 3) := by decide +kernel
theorem dX2_walk_113 : decode cX2_walk 113 = .ok (.aload_n 0, 1) := by decide +kernel
theorem dX2_walk_114 : decode cX2_walk 114 = .ok (.aload_n 1, 1) := by decide +kernel
theorem dX2_walk_115 : decode cX2_walk 115 = .ok (.getfield 40, 3) := by decide +kernel
theorem dX2_walk_118 : decode cX2_walk 118 = .ok (.iload 5, 2) := by decide +kernel
theorem dX2_walk_120 : decode cX2_walk 120 = .ok (.iaload, 1) := by decide +kernel
theorem dX2_walk_121 : decode cX2_walk 121 = .ok (.aload_n 0, 1) := by decide +kernel
theorem dX2_walk_122 : decode cX2_walk 122 = .ok (.getfield 15, 3) := by decide +kernel
theorem dX2_walk_125 : decode cX2_walk 125 = .ok (.iload_n 3, 1) := by decide +kernel
theorem dX2_walk_126 : decode cX2_walk 126 = .ok (.iaload, 1) := by decide +kernel
theorem dX2_walk_127 : decode cX2_walk 127 = .ok (.iconst 1, 1) := by decide +kernel
theorem dX2_walk_128 : decode cX2_walk 128 = .ok (.iadd, 1) := by decide +kernel
theorem dX2_walk_129 : decode cX2_walk 129 = .ok (.iload 5, 2) := by decide +kernel
theorem dX2_walk_131 : decode cX2_walk 131 = .ok (.invokevirtual 30, 3) := by decide +kernel
theorem dX2_walk_134 : decode cX2_walk 134 = .ok (.iinc 4 1, 3) := by decide +kernel
theorem dX2_walk_137 : decode cX2_walk 137 = .ok (.goto (-62), 3) := by decide +kernel
theorem dX2_walk_140 : decode cX2_walk 140 = .ok (.iinc 2 1, 3) := by decide +kernel
theorem dX2_walk_143 : decode cX2_walk 143 = .ok (.goto (-99), 3) := by decide +kernel
theorem dX2_walk_146 : decode cX2_walk 146 = .ok (.return_, 1) := by decide +kernel
theorem dX2_join_0 : decode cX2_join 0 = .ok (.aload_n 0, 1) := by decide +kernel
theorem dX2_join_1 : decode cX2_join 1 = .ok (.getfield 15, 3) := by decide +kernel
theorem dX2_join_4 : decode cX2_join 4 = .ok (.iload_n 1, 1) := by decide +kernel
theorem dX2_join_5 : decode cX2_join 5 = .ok (.iload_n 2, 1) := by decide +kernel
theorem dX2_join_6 : decode cX2_join 6 = .ok (.iastore, 1) := by decide +kernel
theorem dX2_join_7 : decode cX2_join 7 = .ok (.aload_n 0, 1) := by decide +kernel
theorem dX2_join_8 : decode cX2_join 8 = .ok (.getfield 18, 3) := by decide +kernel
theorem dX2_join_11 : decode cX2_join 11 = .ok (.iload_n 1, 1) := by decide +kernel
theorem dX2_join_12 : decode cX2_join 12 = .ok (.iload_n 3, 1) := by decide +kernel
theorem dX2_join_13 : decode cX2_join 13 = .ok (.iastore, 1) := by decide +kernel
theorem dX2_join_14 : decode cX2_join 14 = .ok (.aload_n 0, 1) := by decide +kernel
theorem dX2_join_15 : decode cX2_join 15 = .ok (.getfield 9, 3) := by decide +kernel
theorem dX2_join_18 : decode cX2_join 18 = .ok (.aload_n 0, 1) := by decide +kernel
theorem dX2_join_19 : decode cX2_join 19 = .ok (.getfield 27, 3) := by decide +kernel
theorem dX2_join_22 : decode cX2_join 22 = .ok (.iload_n 1, 1) := by decide +kernel
theorem dX2_join_23 : decode cX2_join 23 = .ok (.iastore, 1) := by decide +kernel
theorem dX2_join_24 : decode cX2_join 24 = .ok (.aload_n 0, 1) := by decide +kernel
theorem dX2_join_25 : decode cX2_join 25 = .ok (.dup, 1) := by decide +kernel
theorem dX2_join_26 : decode cX2_join 26 = .ok (.getfield 27, 3) := by decide +kernel
theorem dX2_join_29 : decode cX2_join 29 = .ok (.iconst 1, 1) := by decide +kernel
theorem dX2_join_30 : decode cX2_join 30 = .ok (.iadd, 1) := by decide +kernel
theorem dX2_join_31 : decode cX2_join 31 = .ok (.putfield 27, 3) := by decide +kernel
theorem dX2_join_34 : decode cX2_join 34 = .ok (.return_, 1) := by decide +kernel
theorem dX2_moveOnWayTo_0 : decode cX2_moveOnWayTo 0 = .ok (.iload_n 3, 1) := by decide +kernel
theorem dX2_moveOnWayTo_1 : decode cX2_moveOnWayTo 1 = .ok (.aload_n 0, 1) := by decide +kernel
theorem dX2_moveOnWayTo_2 : decode cX2_moveOnWayTo 2 = .ok (.getfield 15, 3) := by decide +kernel
theorem dX2_moveOnWayTo_5 : decode cX2_moveOnWayTo 5 = .ok (.iload_n 2, 1) := by decide +kernel
theorem dX2_moveOnWayTo_6 : decode cX2_moveOnWayTo 6 = .ok (.iaload, 1) := by decide +kernel
theorem dX2_moveOnWayTo_7 : decode cX2_moveOnWayTo 7 = .ok (.if_icmp .lt 5, 3) := by decide +kernel
theorem dX2_moveOnWayTo_10 : decode cX2_moveOnWayTo 10 = .ok (.iconst (-1), 1) := by decide +kernel
theorem dX2_moveOnWayTo_11 : decode cX2_moveOnWayTo 11 = .ok (.ireturn, 1) := by decide +kernel
theorem dX2_moveOnWayTo_12 : decode cX2_moveOnWayTo 12 = .ok (.iload_n 2, 1) := by decide +kernel
theorem dX2_moveOnWayTo_13 : decode cX2_moveOnWayTo 13 = .ok (.istore 4, 2) := by decide +kernel
theorem dX2_moveOnWayTo_15 : decode cX2_moveOnWayTo 15 = .ok (.aload_n 0, 1) := by decide +kernel
theorem dX2_moveOnWayTo_16 : decode cX2_moveOnWayTo 16 = .ok (.getfield 15, 3) := by decide +kernel
theorem dX2_moveOnWayTo_19 : decode cX2_moveOnWayTo 19 = .ok (.iload_n 2, 1) := by decide +kernel
theorem dX2_moveOnWayTo_20 : decode cX2_moveOnWayTo 20 = .ok (.iaload, 1) := by decide +kernel
theorem dX2_moveOnWayTo_21 : decode cX2_moveOnWayTo 21 = .ok (.iconst 1, 1) := by decide +kernel
theorem dX2_moveOnWayTo_22 : decode cX2_moveOnWayTo 22 = .ok (.isub, 1) := by decide +kernel
theorem dX2_moveOnWayTo_23 : decode cX2_moveOnWayTo 23 = .ok (.istore 5, 2) := by decide +kernel
theorem dX2_moveOnWayTo_25 : decode cX2_moveOnWayTo 25 = .ok (.iload 5, 2) := by decide +kernel
theorem dX2_moveOnWayTo_27 : decode cX2_moveOnWayTo 27 = .ok (.iload_n 3, 1) := by decide +kernel
theorem dX2_moveOnWayTo_28 : decode cX2_moveOnWayTo 28 = .ok (.if_icmp .le 23, 3) := by decide +kernel
theorem dX2_moveOnWayTo_31 : decode cX2_moveOnWayTo 31 = .ok (.aload_n 1, 1) := by decide +kernel
theorem dX2_moveOnWayTo_32 : decode cX2_moveOnWayTo 32 = .ok (.getfield 43, 3) := by decide +kernel
theorem dX2_moveOnWayTo_35 : decode cX2_moveOnWayTo 35 = .ok (.aload_n 0, 1) := by decide +kernel
theorem dX2_moveOnWayTo_36 : decode cX2_moveOnWayTo 36 = .ok (.getfield 18, 3) := by decide +kernel
theorem dX2_moveOnWayTo_39 : decode cX2_moveOnWayTo 39 = .ok (.iload 4, 2) := by decide +kernel
theorem dX2_moveOnWayTo_41 : decode cX2_moveOnWayTo 41 = .ok (.iaload, 1) := by decide +kernel
theorem dX2_moveOnWayTo_42 : decode cX2_moveOnWayTo 42 = .ok (.iaload, 1) := by decide +kernel
theorem dX2_moveOnWayTo_43 : decode cX2_moveOnWayTo 43 = .ok (.istore 4, 2) := by decide +kernel
theorem dX2_moveOnWayTo_45 : decode cX2_moveOnWayTo 45 = .ok (.iinc 5 (-1), 3) := by decide +kernel
theorem dX2_moveOnWayTo_48 : decode cX2_moveOnWayTo 48 = .ok (.goto (-23), 3) := by decide +kernel
theorem dX2_moveOnWayTo_51 : decode cX2_moveOnWayTo 51 = .ok (.aload_n 0, 1) := by decide +kernel
theorem dX2_moveOnWayTo_52 : decode cX2_moveOnWayTo 52 = .ok (.getfield 18, 3) := by decide +kernel
theorem dX2_moveOnWayTo_55 : decode cX2_moveOnWayTo 55 = .ok (.iload 4, 2) := by decide +kernel
theorem dX2_moveOnWayTo_57 : decode cX2_moveOnWayTo 57 = .ok (.iaload, 1) := by decide +kernel
theorem dX2_moveOnWayTo_58 : decode cX2_moveOnWayTo 58 = .ok (.ireturn, 1) := by decide +kernel
theorem dX3_init_0 : decode cX3_init 0 = .ok (.aload_n 0, 1) := by decide +kernel
theorem dX3_init_1 : decode cX3_init 1 = .ok (.invokespecial 3, 3) := by decide +kernel
theorem dX3_init_4 : decode cX3_init 4 = .ok (.aload_n 0, 1) := by decide +kernel
theorem dX3_init_5 : decode cX3_init 5 = .ok (.sipush 200, 3) := by decide +kernel
theorem dX3_init_8 : decode cX3_init 8 = .ok (.newarray .int, 2) := by decide +kernel
theorem dX3_init_10 : decode cX3_init 10 = .ok (.putfield 9, 3) := by decide +kernel
theorem dX3_init_13 : decode cX3_init 13 = .ok (.aload_n 0, 1) := by decide +kernel
theorem dX3_init_14 : decode cX3_init 14 = .ok (.sipush 200, 3) := by decide +kernel
theorem dX3_init_17 : decode cX3_init 17 = .ok (.newarray .int, 2) := by decide +kernel
theorem dX3_init_19 : decode cX3_init 19 = .ok (.putfield 15, 3) := by decide +kernel
theorem dX3_init_22 : decode cX3_init 22 = .ok (.aload_n 0, 1) := by decide +kernel
theorem dX3_init_23 : decode cX3_init 23 = .ok (.sipush 200, 3) := by decide +kernel
theorem dX3_init_26 : decode cX3_init 26 = .ok (.newarray .int, 2) := by decide +kernel
theorem dX3_init_28 : decode cX3_init 28 = .ok (.putfield 18, 3) := by decide +kernel
theorem dX3_init_31 : decode cX3_init 31 = .ok (.aload_n 0, 1) := by decide +kernel
theorem dX3_init_32 : decode cX3_init 32 = .ok (.sipush 200, 3) := by decide +kernel
theorem dX3_init_35 : decode cX3_init 35 = .ok (.newarray .int, 2) := by decide +kernel
theorem dX3_init_37 : decode cX3_init 37 = .ok (.putfield 21, 3) := by decide +kernel
theorem dX3_init_40 : decode cX3_init 40 = .ok (.aload_n 0, 1) := by decide +kernel
theorem dX3_init_41 : decode cX3_init 41 = .ok (.sipush 200, 3) := by decide +kernel
theorem dX3_init_44 : decode cX3_init 44 = .ok (.newarray .boolean, 2) := by decide +kernel
theorem dX3_init_46 : decode cX3_init 46 = .ok (.putfield 24, 3) := by decide +kernel
theorem dX3_init_49 : decode cX3_init 49 = .ok (.return_, 1) := by decide +kernel
theorem dX3_take_0 : decode cX3_take 0 = .ok (.iconst 0, 1) := by decide +kernel
theorem dX3_take_1 : decode cX3_take 1 = .ok (.istore_n 3, 1) := by decide +kernel
theorem dX3_take_2 : decode cX3_take 2 = .ok (.iload_n 3, 1) := by decide +kernel
theorem dX3_take_3 : decode cX3_take 3 = .ok (.aload_n 2, 1) := by decide +kernel
theorem dX3_take_4 : decode cX3_take 4 = .ok (.getfield 28, 3) := by decide +kernel
theorem dX3_take_7 : decode cX3_take 7 = .ok (.if_icmp .ge 37, 3) := by decide +kernel
theorem dX3_take_10 : decode cX3_take 10 = .ok (.aload_n 0, 1) := by decide +kernel
theorem dX3_take_11 : decode cX3_take 11 = .ok (.getfield 9, 3) := by decide +kernel
theorem dX3_take_14 : decode cX3_take 14 = .ok (.iload_n 3, 1) := by decide +kernel
theorem dX3_take_15 : decode cX3_take 15 = .ok (.iconst 0, 1) := by decide +kernel
theorem dX3_take_16 : decode cX3_take 16 = .ok (.iastore, 1) := by decide +kernel
theorem dX3_take_17 : decode cX3_take 17 = .ok (.aload_n 0, 1) := by decide +kernel
theorem dX3_take_18 : decode cX3_take 18 = .ok (.getfield 18, 3) := by decide +kernel
theorem dX3_take_21 : decode cX3_take 21 = .ok (.iload_n 3, 1) := by decide +kernel
theorem dX3_take_22 : decode cX3_take 22 = .ok (.iconst (-1), 1) := by decide +kernel
theorem dX3_take_23 : decode cX3_take 23 = .ok (.iastore, 1) := by decide +kernel
theorem dX3_take_24 : decode cX3_take 24 = .ok (.aload_n 0, 1) := by decide +kernel
theorem dX3_take_25 : decode cX3_take 25 = .ok (.getfield 21, 3) := by decide +kernel
theorem dX3_take_28 : decode cX3_take 28 = .ok (.iload_n 3, 1) := by decide +kernel
theorem dX3_take_29 : decode cX3_take 29 = .ok (.iconst 0, 1) := by decide +kernel
theorem dX3_take_30 : decode cX3_take 30 = .ok (.iastore, 1) := by decide +kernel
theorem dX3_take_31 : decode cX3_take 31 = .ok (.aload_n 0, 1) := by decide +kernel
theorem dX3_take_32 : decode cX3_take 32 = .ok (.getfield 24, 3) := by decide +kernel
theorem dX3_take_35 : decode cX3_take 35 = .ok (.iload_n 3, 1) := by decide +kernel
theorem dX3_take_36 : decode cX3_take 36 = .ok (.iconst 0, 1) := by decide +kernel
theorem dX3_take_37 : decode cX3_take 37 = .ok (.bastore, 1) := by decide +kernel
theorem dX3_take_38 : decode cX3_take 38 = .ok (.iinc 3 1, 3) := by decide +kernel
theorem dX3_take_41 : decode cX3_take 41 = .ok (.goto (-39), 3) := by decide +kernel
theorem dX3_take_44 : decode cX3_take 44 = .ok (.iconst 0, 1) := by decide +kernel
theorem dX3_take_45 : decode cX3_take 45 = .ok (.istore_n 3, 1) := by decide +kernel
theorem dX3_take_46 : decode cX3_take 46 = .ok (.iload_n 3, 1) := by decide +kernel
theorem dX3_take_47 : decode cX3_take 47 = .ok (.aload_n 1, 1) := by decide +kernel
theorem dX3_take_48 : decode cX3_take 48 = .ok (.getfield 34, 3) := by decide +kernel
theorem dX3_take_51 : decode cX3_take 51 = .ok (.if_icmp .ge 35, 3) := by decide +kernel
theorem dX3_take_54 : decode cX3_take 54 = .ok (.aload_n 2, 1) := by decide +kernel
theorem dX3_take_55 : decode cX3_take 55 = .ok (.getfield 39, 3) := by decide +kernel
theorem dX3_take_58 : decode cX3_take 58 = .ok (.iload_n 3, 1) := by decide +kernel
theorem dX3_take_59 : decode cX3_take 59 = .ok (.baload, 1) := by decide +kernel
theorem dX3_take_60 : decode cX3_take 60 = .ok (.ifCond .eq 20, 3) := by decide +kernel
theorem dX3_take_63 : decode cX3_take 63 = .ok (.aload_n 0, 1) := by decide +kernel
theorem dX3_take_64 : decode cX3_take 64 = .ok (.iload_n 3, 1) := by decide +kernel
theorem dX3_take_65 : decode cX3_take 65 = .ok (.aload_n 2, 1) := by decide +kernel
theorem dX3_take_66 : decode cX3_take 66 = .ok (.getfield 42, 3) := by decide +kernel
theorem dX3_take_69 : decode cX3_take 69 = .ok (.iload_n 3, 1) := by decide +kernel
theorem dX3_take_70 : decode cX3_take 70 = .ok (.iaload, 1) := by decide +kernel
theorem dX3_take_71 : decode cX3_take 71 = .ok (.aload_n 1, 1) := by decide +kernel
theorem dX3_take_72 : decode cX3_take 72 = .ok (.getfield 45, 3) := by decide +kernel
theorem dX3_take_75 : decode cX3_take 75 = .ok (.iload_n 3, 1) := by decide +kernel
theorem dX3_take_76 : decode cX3_take 76 = .ok (.iaload, 1) := by decide +kernel
theorem dX3_take_77 : decode cX3_take 77 = .ok (.invokevirtual 48, 3) := by decide +kernel
theorem dX3_take_80 : decode cX3_take 80 = .ok (.iinc 3 1, 3) := by decide +kernel
theorem dX3_take_83 : decode cX3_take 83 = .ok (.goto (-37), 3) := by decide +kernel
theorem dX3_take_86 : decode cX3_take 86 = .ok (.iconst 0, 1) := by decide +kernel
theorem dX3_take_87 : decode cX3_take 87 = .ok (.istore_n 3, 1) := by decide +kernel
theorem dX3_take_88 : decode cX3_take 88 = .ok (.iload_n 3, 1) := by decide +kernel
theorem dX3_take_89 : decode cX3_take 89 = .ok (.aload_n 1, 1) := by decide +kernel
theorem dX3_take_90 : decode cX3_take 90 = .ok (.getfield 52, 3) := by decide +kernel
theorem dX3_take_93 : decode cX3_take 93 = .ok (.if_icmp .ge 79, 3) := by decide +kernel
theorem dX3_take_96 : decode cX3_take 96 = .ok (.aload_n 1, 1) := by decide +kernel
theorem dX3_take_97 : decode cX3_take 97 = .ok (.getfield 55, 3) := by decide +kernel
theorem dX3_take_100 : decode cX3_take 100 = .ok (.iload_n 3, 1) := by decide +kernel
theorem dX3_take_101 : decode cX3_take 101 = .ok (.iaload, 1) := by decide +kernel
theorem dX3_take_102 : decode cX3_take 102 = .ok (.istore 4, 2) := by decide +kernel
theorem dX3_take_104 : decode cX3_take 104 = .ok (.aload_n 1, 1) := by decide +kernel
theorem dX3_take_105 : decode cX3_take 105 = .ok (.getfield 58, 3) := by decide +kernel
theorem dX3_take_108 : decode cX3_take 108 = .ok (.iload_n 3, 1) := by decide +kernel
theorem dX3_take_109 : decode cX3_take 109 = .ok (.iaload, 1) := by decide +kernel
theorem dX3_take_110 : decode cX3_take 110 = .ok (.istore 5, 2) := by decide +kernel
theorem dX3_take_112 : decode cX3_take 112 = .ok (.aload_n 2, 1) := by decide +kernel
theorem dX3_take_113 : decode cX3_take 113 = .ok (.getfield 39, 3) := by decide +kernel
theorem dX3_take_116 : decode cX3_take 116 = .ok (.iload 4, 2) := by decide +kernel
theorem dX3_take_118 : decode cX3_take 118 = .ok (.baload, 1) := by decide +kernel
theorem dX3_take_119 : decode cX3_take 119 = .ok (.ifCond .eq 47, 3) := by decide +kernel
theorem dX3_take_122 : decode cX3_take 122 = .ok (.aload_n 2, 1) := by decide +kernel
theorem dX3_take_123 : decode cX3_take 123 = .ok (.getfield 39, 3) := by decide +kernel
theorem dX3_take_126 : decode cX3_take 126 = .ok (.iload 5, 2) := by decide +kernel
theorem dX3_take_128 : decode cX3_take 128 = .ok (.baload, 1) := by decide +kernel
theorem dX3_take_129 : decode cX3_take 129 = .ok (.ifCond .eq 37, 3) := by decide +kernel
theorem dX3_take_132 : decode cX3_take 132 = .ok (.aload_n 2, 1) := by decide +kernel
theorem dX3_take_133 : decode cX3_take 133 = .ok (.getfield 42, 3) := by decide +kernel
theorem dX3_take_136 : decode cX3_take 136 = .ok (.iload 4, 2) := by decide +kernel
theorem dX3_take_138 : decode cX3_take 138 = .ok (.iaload, 1) := by decide +kernel
theorem dX3_take_139 : decode cX3_take 139 = .ok (.aload_n 2, 1) := by decide +kernel
theorem dX3_take_140 : decode cX3_take 140 = .ok (.getfield 42, 3) := by decide +kernel
theorem dX3_take_143 : decode cX3_take 143 = .ok (.iload 5, 2) := by decide +kernel
theorem dX3_take_145 : decode cX3_take 145 = .ok (.iaload, 1) := by decide +kernel
theorem dX3_take_146 : decode cX3_take 146 = .ok (.if_icmp .ne 20, 3) := by decide +kernel
theorem dX3_take_149 : decode cX3_take 149 = .ok (.aload_n 0, 1) := by decide +kernel
theorem dX3_take_150 : decode cX3_take 150 = .ok (.aload_n 2, 1) := by decide +kernel
theorem dX3_take_151 : decode cX3_take 151 = .ok (.getfield 42, 3) := by decide +kernel
theorem dX3_take_154 : decode cX3_take 154 = .ok (.iload 4, 2) := by decide +kernel
theorem dX3_take_156 : decode cX3_take 156 = .ok (.iaload, 1) := by decide +kernel
theorem dX3_take_157 : decode cX3_take 157 = .ok (.aload_n 1, 1) := by decide +kernel
theorem dX3_take_158 : decode cX3_take 158 = .ok (.getfield 61, 3) := by decide +kernel
theorem dX3_take_161 : decode cX3_take 161 = .ok (.iload_n 3, 1) := by decide +kernel
theorem dX3_take_162 : decode cX3_take 162 = .ok (.iaload, 1) := by decide +kernel
theorem dX3_take_163 : decode cX3_take 163 = .ok (.invokevirtual 64, 3) := by decide +kernel
