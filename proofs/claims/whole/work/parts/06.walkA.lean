theorem dX0_forget_0 : decode cX0_forget 0 = .ok (.aload_n 0, 1) := by decide +kernel
theorem dX0_forget_1 : decode cX0_forget 1 = .ok (.getfield 15, 3) := by decide +kernel
theorem dX0_forget_4 : decode cX0_forget 4 = .ok (.ifCond .ne 4, 3) := by decide +kernel
theorem dX0_forget_7 : decode cX0_forget 7 = .ok (.return_, 1) := by decide +kernel
theorem dX0_forget_8 : decode cX0_forget 8 = .ok (.aload_n 0, 1) := by decide +kernel
theorem dX0_forget_9 : decode cX0_forget 9 = .ok (.iconst 0, 1) := by decide +kernel
theorem dX0_forget_10 : decode cX0_forget 10 = .ok (.putfield 15, 3) := by decide +kernel
theorem dX0_forget_13 : decode cX0_forget 13 = .ok (.iconst 0, 1) := by decide +kernel
theorem dX0_forget_14 : decode cX0_forget 14 = .ok (.istore_n 1, 1) := by decide +kernel
theorem dX0_forget_15 : decode cX0_forget 15 = .ok (.iload_n 1, 1) := by decide +kernel
theorem dX0_forget_16 : decode cX0_forget 16 = .ok (.aload_n 0, 1) := by decide +kernel
theorem dX0_forget_17 : decode cX0_forget 17 = .ok (.getfield 9, 3) := by decide +kernel
theorem dX0_forget_20 : decode cX0_forget 20 = .ok (.arraylength, 1) := by decide +kernel
theorem dX0_forget_21 : decode cX0_forget 21 = .ok (.if_icmp .ge 16, 3) := by decide +kernel
theorem dX0_forget_24 : decode cX0_forget 24 = .ok (.aload_n 0, 1) := by decide +kernel
theorem dX0_forget_25 : decode cX0_forget 25 = .ok (.getfield 9, 3) := by decide +kernel
theorem dX0_forget_28 : decode cX0_forget 28 = .ok (.iload_n 1, 1) := by decide +kernel
theorem dX0_forget_29 : decode cX0_forget 29 = .ok (.iconst 0, 1) := by decide +kernel
theorem dX0_forget_30 : decode cX0_forget 30 = .ok (.iastore, 1) := by decide +kernel
theorem dX0_forget_31 : decode cX0_forget 31 = .ok (.iinc 1 1, 3) := by decide +kernel
theorem dX0_forget_34 : decode cX0_forget 34 = .ok (.goto (-19), 3) := by decide +kernel
theorem dX0_forget_37 : decode cX0_forget 37 = .ok (.return_, 1) := by decide +kernel
theorem dX0_learn_0 : decode cX0_learn 0 = .ok (.aload_n 0, 1) := by decide +kernel
theorem dX0_learn_1 : decode cX0_learn 1 = .ok (.getfield 15, 3) := by decide +kernel
theorem dX0_learn_4 : decode cX0_learn 4 = .ok (.istore_n 2, 1) := by decide +kernel
theorem dX0_learn_5 : decode cX0_learn 5 = .ok (.iload_n 2, 1) := by decide +kernel
theorem dX0_learn_6 : decode cX0_learn 6 = .ok (.aload_n 1, 1) := by decide +kernel
theorem dX0_learn_7 : decode cX0_learn 7 = .ok (.getfield 19, 3) := by decide +kernel
theorem dX0_learn_10 : decode cX0_learn 10 = .ok (.getfield 25, 3) := by decide +kernel
theorem dX0_learn_13 : decode cX0_learn 13 = .ok (.if_icmp .ge 15, 3) := by decide +kernel
theorem dX0_learn_16 : decode cX0_learn 16 = .ok (.aload_n 0, 1) := by decide +kernel
theorem dX0_learn_17 : decode cX0_learn 17 = .ok (.aload_n 1, 1) := by decide +kernel
theorem dX0_learn_18 : decode cX0_learn 18 = .ok (.iload_n 2, 1) := by decide +kernel
theorem dX0_learn_19 : decode cX0_learn 19 = .ok (.invokevirtual 30, 3) := by decide +kernel
theorem dX0_learn_22 : decode cX0_learn 22 = .ok (.iinc 2 1, 3) := by decide +kernel
theorem dX0_learn_25 : decode cX0_learn 25 = .ok (.goto (-20), 3) := by decide +kernel
theorem dX0_learn_28 : decode cX0_learn 28 = .ok (.aload_n 0, 1) := by decide +kernel
theorem dX0_learn_29 : decode cX0_learn 29 = .ok (.aload_n 1, 1) := by decide +kernel
theorem dX0_learn_30 : decode cX0_learn 30 = .ok (.getfield 19, 3) := by decide +kernel
theorem dX0_learn_33 : decode cX0_learn 33 = .ok (.getfield 25, 3) := by decide +kernel
theorem dX0_learn_36 : decode cX0_learn 36 = .ok (.putfield 15, 3) := by decide +kernel
theorem dX0_learn_39 : decode cX0_learn 39 = .ok (.return_, 1) := by decide +kernel
theorem dX0_learnLook_0 : decode cX0_learnLook 0 = .ok (.aload_n 1, 1) := by decide +kernel
theorem dX0_learnLook_1 : decode cX0_learnLook 1 = .ok (.getfield 19, 3) := by decide +kernel
theorem dX0_learnLook_4 : decode cX0_learnLook 4 = .ok (.getfield 34, 3) := by decide +kernel
theorem dX0_learnLook_7 : decode cX0_learnLook 7 = .ok (.iload_n 2, 1) := by decide +kernel
theorem dX0_learnLook_8 : decode cX0_learnLook 8 = .ok (.invokestatic 37, 3) := by decide +kernel
theorem dX0_learnLook_11 : decode cX0_learnLook 11 = .ok (.istore_n 3, 1) := by decide +kernel
theorem dX0_learnLook_12 : decode cX0_learnLook 12 = .ok (.aload_n 1, 1) := by decide +kernel
theorem dX0_learnLook_13 : decode cX0_learnLook 13 = .ok (.getfield 19, 3) := by decide +kernel
theorem dX0_learnLook_16 : decode cX0_learnLook 16 = .ok (.getfield 41, 3) := by decide +kernel
theorem dX0_learnLook_19 : decode cX0_learnLook 19 = .ok (.iload_n 2, 1) := by decide +kernel
theorem dX0_learnLook_20 : decode cX0_learnLook 20 = .ok (.invokestatic 37, 3) := by decide +kernel
theorem dX0_learnLook_23 : decode cX0_learnLook 23 = .ok (.istore 4, 2) := by decide +kernel
theorem dX0_learnLook_25 : decode cX0_learnLook 25 = .ok (.aload_n 1, 1) := by decide +kernel
theorem dX0_learnLook_26 : decode cX0_learnLook 26 = .ok (.getfield 19, 3) := by decide +kernel
theorem dX0_learnLook_29 : decode cX0_learnLook 29 = .ok (.getfield 44, 3) := by decide +kernel
theorem dX0_learnLook_32 : decode cX0_learnLook 32 = .ok (.iload_n 2, 1) := by decide +kernel
theorem dX0_learnLook_33 : decode cX0_learnLook 33 = .ok (.invokestatic 37, 3) := by decide +kernel
theorem dX0_learnLook_36 : decode cX0_learnLook 36 = .ok (.istore 5, 2) := by decide +kernel
theorem dX0_learnLook_38 : decode cX0_learnLook 38 = .ok (.aload_n 1, 1) := by decide +kernel
theorem dX0_learnLook_39 : decode cX0_learnLook 39 = .ok (.getfield 19, 3) := by decide +kernel
theorem dX0_learnLook_42 : decode cX0_learnLook 42 = .ok (.getfield 47, 3) := by decide +kernel
theorem dX0_learnLook_45 : decode cX0_learnLook 45 = .ok (.iload_n 2, 1) := by decide +kernel
theorem dX0_learnLook_46 : decode cX0_learnLook 46 = .ok (.invokestatic 37, 3) := by decide +kernel
theorem dX0_learnLook_49 : decode cX0_learnLook 49 = .ok (.istore 6, 2) := by decide +kernel
theorem dX0_learnLook_51 : decode cX0_learnLook 51 = .ok (.aload_n 1, 1) := by decide +kernel
theorem dX0_learnLook_52 : decode cX0_learnLook 52 = .ok (.iload_n 3, 1) := by decide +kernel
theorem dX0_learnLook_53 : decode cX0_learnLook 53 = .ok (.iload 4, 2) := by decide +kernel
theorem dX0_learnLook_55 : decode cX0_learnLook 55 = .ok (.invokevirtual 50, 3) := by decide +kernel
theorem dX0_learnLook_58 : decode cX0_learnLook 58 = .ok (.iconst 0, 1) := by decide +kernel
theorem dX0_learnLook_59 : decode cX0_learnLook 59 = .ok (.istore 7, 2) := by decide +kernel
theorem dX0_learnLook_61 : decode cX0_learnLook 61 = .ok (.iload 7, 2) := by decide +kernel
theorem dX0_learnLook_63 : decode cX0_learnLook 63 = .ok (.sipush 300, 3) := by decide +kernel
theorem dX0_learnLook_66 : decode cX0_learnLook 66 = .ok (.if_icmp .ge 73, 3) := by decide +kernel
theorem dX0_learnLook_69 : decode cX0_learnLook 69 = .ok (.aload_n 1, 1) := by decide +kernel
theorem dX0_learnLook_70 : decode cX0_learnLook 70 = .ok (.getfield 54, 3) := by decide +kernel
theorem dX0_learnLook_73 : decode cX0_learnLook 73 = .ok (.iload 7, 2) := by decide +kernel
theorem dX0_learnLook_75 : decode cX0_learnLook 75 = .ok (.invokestatic 37, 3) := by decide +kernel
theorem dX0_learnLook_78 : decode cX0_learnLook 78 = .ok (.istore 8, 2) := by decide +kernel
theorem dX0_learnLook_80 : decode cX0_learnLook 80 = .ok (.iload 7, 2) := by decide +kernel
theorem dX0_learnLook_82 : decode cX0_learnLook 82 = .ok (.iload 4, 2) := by decide +kernel
theorem dX0_learnLook_84 : decode cX0_learnLook 84 = .ok (.if_icmp .gt 17, 3) := by decide +kernel
theorem dX0_learnLook_87 : decode cX0_learnLook 87 = .ok (.iload 8, 2) := by decide +kernel
theorem dX0_learnLook_89 : decode cX0_learnLook 89 = .ok (.iload 5, 2) := by decide +kernel
theorem dX0_learnLook_91 : decode cX0_learnLook 91 = .ok (.if_icmp .lt 10, 3) := by decide +kernel
theorem dX0_learnLook_94 : decode cX0_learnLook 94 = .ok (.iload 8, 2) := by decide +kernel
theorem dX0_learnLook_96 : decode cX0_learnLook 96 = .ok (.iload 6, 2) := by decide +kernel
theorem dX0_learnLook_98 : decode cX0_learnLook 98 = .ok (.if_icmp .le 35, 3) := by decide +kernel
theorem dX0_learnLook_101 : decode cX0_learnLook 101 = .ok (.iload_n 3, 1) := by decide +kernel
theorem dX0_learnLook_102 : decode cX0_learnLook 102 = .ok (.sipush 300, 3) := by decide +kernel
theorem dX0_learnLook_105 : decode cX0_learnLook 105 = .ok (.imul, 1) := by decide +kernel
theorem dX0_learnLook_106 : decode cX0_learnLook 106 = .ok (.iload 7, 2) := by decide +kernel
theorem dX0_learnLook_108 : decode cX0_learnLook 108 = .ok (.iadd, 1) := by decide +kernel
theorem dX0_learnLook_109 : decode cX0_learnLook 109 = .ok (.istore 9, 2) := by decide +kernel
theorem dX0_learnLook_111 : decode cX0_learnLook 111 = .ok (.aload_n 0, 1) := by decide +kernel
theorem dX0_learnLook_112 : decode cX0_learnLook 112 = .ok (.getfield 9, 3) := by decide +kernel
theorem dX0_learnLook_115 : decode cX0_learnLook 115 = .ok (.iload 9, 2) := by decide +kernel
theorem dX0_learnLook_117 : decode cX0_learnLook 117 = .ok (.aload_n 0, 1) := by decide +kernel
theorem dX0_learnLook_118 : decode cX0_learnLook 118 = .ok (.getfield 9, 3) := by decide +kernel
theorem dX0_learnLook_121 : decode cX0_learnLook 121 = .ok (.iload 9, 2) := by decide +kernel
theorem dX0_learnLook_123 : decode cX0_learnLook 123 = .ok (.invokestatic 37, 3) := by decide +kernel
theorem dX0_learnLook_126 : decode cX0_learnLook 126 = .ok (.iconst 1, 1) := by decide +kernel
theorem dX0_learnLook_127 : decode cX0_learnLook 127 = .ok (.iload_n 2, 1) := by decide +kernel
theorem dX0_learnLook_128 : decode cX0_learnLook 128 = .ok (.ishl, 1) := by decide +kernel
theorem dX0_learnLook_129 : decode cX0_learnLook 129 = .ok (.ior, 1) := by decide +kernel
theorem dX0_learnLook_130 : decode cX0_learnLook 130 = .ok (.invokestatic 57, 3) := by decide +kernel
theorem dX0_learnLook_133 : decode cX0_learnLook 133 = .ok (.iinc 7 1, 3) := by decide +kernel
theorem dX0_learnLook_136 : decode cX0_learnLook 136 = .ok (.goto (-75), 3) := by decide +kernel
theorem dX0_learnLook_139 : decode cX0_learnLook 139 = .ok (.return_, 1) := by decide +kernel
theorem dX0_speaking_0 : decode cX0_speaking 0 = .ok (.aload_n 0, 1) := by decide +kernel
theorem dX0_speaking_1 : decode cX0_speaking 1 = .ok (.getfield 9, 3) := by decide +kernel
theorem dX0_speaking_4 : decode cX0_speaking 4 = .ok (.iload_n 2, 1) := by decide +kernel
theorem dX0_speaking_5 : decode cX0_speaking 5 = .ok (.sipush 300, 3) := by decide +kernel
theorem dX0_speaking_8 : decode cX0_speaking 8 = .ok (.imul, 1) := by decide +kernel
theorem dX0_speaking_9 : decode cX0_speaking 9 = .ok (.iload_n 3, 1) := by decide +kernel
theorem dX0_speaking_10 : decode cX0_speaking 10 = .ok (.iadd, 1) := by decide +kernel
theorem dX0_speaking_11 : decode cX0_speaking 11 = .ok (.invokestatic 37, 3) := by decide +kernel
theorem dX0_speaking_14 : decode cX0_speaking 14 = .ok (.aload_n 1, 1) := by decide +kernel
theorem dX0_speaking_15 : decode cX0_speaking 15 = .ok (.getfield 19, 3) := by decide +kernel
theorem dX0_speaking_18 : decode cX0_speaking 18 = .ok (.getfield 61, 3) := by decide +kernel
theorem dX0_speaking_21 : decode cX0_speaking 21 = .ok (.iconst (-1), 1) := by decide +kernel
theorem dX0_speaking_22 : decode cX0_speaking 22 = .ok (.ixor, 1) := by decide +kernel
theorem dX0_speaking_23 : decode cX0_speaking 23 = .ok (.iand, 1) := by decide +kernel
theorem dX0_speaking_24 : decode cX0_speaking 24 = .ok (.ireturn, 1) := by decide +kernel
theorem dX1_none_0 : decode cX1_none 0 = .ok (.lconst 0, 1) := by decide +kernel
theorem dX1_none_1 : decode cX1_none 1 = .ok (.lreturn, 1) := by decide +kernel
theorem dX1_load_0 : decode cX1_load 0 = .ok (.lconst 0, 1) := by decide +kernel
theorem dX1_load_1 : decode cX1_load 1 = .ok (.lstore_n 3, 1) := by decide +kernel
theorem dX1_load_2 : decode cX1_load 2 = .ok (.iconst 0, 1) := by decide +kernel
theorem dX1_load_3 : decode cX1_load 3 = .ok (.istore 5, 2) := by decide +kernel
theorem dX1_load_5 : decode cX1_load 5 = .ok (.iload 5, 2) := by decide +kernel
theorem dX1_load_7 : decode cX1_load 7 = .ok (.sipush 300, 3) := by decide +kernel
theorem dX1_load_10 : decode cX1_load 10 = .ok (.if_icmp .ge 32, 3) := by decide +kernel
theorem dX1_load_13 : decode cX1_load 13 = .ok (.lload_n 3, 1) := by decide +kernel
theorem dX1_load_14 : decode cX1_load 14 = .ok (.aload_n 1, 1) := by decide +kernel
theorem dX1_load_15 : decode cX1_load 15 = .ok (.iload_n 2, 1) := by decide +kernel
theorem dX1_load_16 : decode cX1_load 16 = .ok (.iload 5, 2) := by decide +kernel
theorem dX1_load_18 : decode cX1_load 18 = .ok (.iadd, 1) := by decide +kernel
theorem dX1_load_19 : decode cX1_load 19 = .ok (.invokestatic 15, 3) := by decide +kernel
theorem dX1_load_22 : decode cX1_load 22 = .ok (.ladd, 1) := by decide +kernel
theorem dX1_load_23 : decode cX1_load 23 = .ok (.lstore_n 3, 1) := by decide +kernel
theorem dX1_load_24 : decode cX1_load 24 = .ok (.aload_n 0, 1) := by decide +kernel
theorem dX1_load_25 : decode cX1_load 25 = .ok (.getfield 9, 3) := by decide +kernel
theorem dX1_load_28 : decode cX1_load 28 = .ok (.iload 5, 2) := by decide +kernel
theorem dX1_load_30 : decode cX1_load 30 = .ok (.iconst 1, 1) := by decide +kernel
theorem dX1_load_31 : decode cX1_load 31 = .ok (.iadd, 1) := by decide +kernel
theorem dX1_load_32 : decode cX1_load 32 = .ok (.lload_n 3, 1) := by decide +kernel
theorem dX1_load_33 : decode cX1_load 33 = .ok (.invokestatic 19, 3) := by decide +kernel
theorem dX1_load_36 : decode cX1_load 36 = .ok (.iinc 5 1, 3) := by decide +kernel
theorem dX1_load_39 : decode cX1_load 39 = .ok (.goto (-34), 3) := by decide +kernel
theorem dX1_load_42 : decode cX1_load 42 = .ok (.return_, 1) := by decide +kernel
theorem dX1_over_0 : decode cX1_over 0 = .ok (.aload_n 0, 1) := by decide +kernel
theorem dX1_over_1 : decode cX1_over 1 = .ok (.getfield 9, 3) := by decide +kernel
theorem dX1_over_4 : decode cX1_over 4 = .ok (.iload_n 2, 1) := by decide +kernel
theorem dX1_over_5 : decode cX1_over 5 = .ok (.iconst 1, 1) := by decide +kernel
theorem dX1_over_6 : decode cX1_over 6 = .ok (.iadd, 1) := by decide +kernel
theorem dX1_over_7 : decode cX1_over 7 = .ok (.invokestatic 15, 3) := by decide +kernel
theorem dX1_over_10 : decode cX1_over 10 = .ok (.aload_n 0, 1) := by decide +kernel
theorem dX1_over_11 : decode cX1_over 11 = .ok (.getfield 9, 3) := by decide +kernel
theorem dX1_over_14 : decode cX1_over 14 = .ok (.iload_n 1, 1) := by decide +kernel
theorem dX1_over_15 : decode cX1_over 15 = .ok (.invokestatic 15, 3) := by decide +kernel
theorem dX1_over_18 : decode cX1_over 18 = .ok (.lsub, 1) := by decide +kernel
theorem dX1_over_19 : decode cX1_over 19 = .ok (.lreturn, 1) := by decide +kernel
theorem dX2_set_0 : decode cX2_set 0 = .ok (.aload_n 0, 1) := by decide +kernel
theorem dX2_set_1 : decode cX2_set 1 = .ok (.getfield 9, 3) := by decide +kernel
theorem dX2_set_4 : decode cX2_set 4 = .ok (.iload_n 1, 1) := by decide +kernel
theorem dX2_set_5 : decode cX2_set 5 = .ok (.sipush 300, 3) := by decide +kernel
theorem dX2_set_8 : decode cX2_set 8 = .ok (.imul, 1) := by decide +kernel
theorem dX2_set_9 : decode cX2_set 9 = .ok (.iload_n 2, 1) := by decide +kernel
theorem dX2_set_10 : decode cX2_set 10 = .ok (.iadd, 1) := by decide +kernel
theorem dX2_set_11 : decode cX2_set 11 = .ok (.lload_n 3, 1) := by decide +kernel
theorem dX2_set_12 : decode cX2_set 12 = .ok (.invokestatic 19, 3) := by decide +kernel
theorem dX2_set_15 : decode cX2_set 15 = .ok (.return_, 1) := by decide +kernel
theorem dX2_findPath_0 : decode cX2_findPath 0 = .ok (.aload_n 0, 1) := by decide +kernel
theorem dX2_findPath_1 : decode cX2_findPath 1 = .ok (.iconst 0, 1) := by decide +kernel
theorem dX2_findPath_2 : decode cX2_findPath 2 = .ok (.putfield 61, 3) := by decide +kernel
theorem dX2_findPath_5 : decode cX2_findPath 5 = .ok (.iload_n 2, 1) := by decide +kernel
theorem dX2_findPath_6 : decode cX2_findPath 6 = .ok (.istore_n 3, 1) := by decide +kernel
theorem dX2_findPath_7 : decode cX2_findPath 7 = .ok (.iload_n 3, 1) := by decide +kernel
theorem dX2_findPath_8 : decode cX2_findPath 8 = .ok (.ifCond .lt 46, 3) := by decide +kernel
theorem dX2_findPath_11 : decode cX2_findPath 11 = .ok (.aload_n 0, 1) := by decide +kernel
theorem dX2_findPath_12 : decode cX2_findPath 12 = .ok (.getfield 61, 3) := by decide +kernel
theorem dX2_findPath_15 : decode cX2_findPath 15 = .ok (.bipush 6, 2) := by decide +kernel
theorem dX2_findPath_17 : decode cX2_findPath 17 = .ok (.if_icmp .ge 37, 3) := by decide +kernel
theorem dX2_findPath_20 : decode cX2_findPath 20 = .ok (.aload_n 0, 1) := by decide +kernel
theorem dX2_findPath_21 : decode cX2_findPath 21 = .ok (.getfield 15, 3) := by decide +kernel
theorem dX2_findPath_24 : decode cX2_findPath 24 = .ok (.aload_n 0, 1) := by decide +kernel
theorem dX2_findPath_25 : decode cX2_findPath 25 = .ok (.getfield 61, 3) := by decide +kernel
theorem dX2_findPath_28 : decode cX2_findPath 28 = .ok (.iload_n 3, 1) := by decide +kernel
theorem dX2_findPath_29 : decode cX2_findPath 29 = .ok (.invokestatic 68, 3) := by decide +kernel
theorem dX2_findPath_32 : decode cX2_findPath 32 = .ok (.aload_n 0, 1) := by decide +kernel
theorem dX2_findPath_33 : decode cX2_findPath 33 = .ok (.dup, 1) := by decide +kernel
theorem dX2_findPath_34 : decode cX2_findPath 34 = .ok (.getfield 61, 3) := by decide +kernel
theorem dX2_findPath_37 : decode cX2_findPath 37 = .ok (.iconst 1, 1) := by decide +kernel
theorem dX2_findPath_38 : decode cX2_findPath 38 = .ok (.iadd, 1) := by decide +kernel
theorem dX2_findPath_39 : decode cX2_findPath 39 = .ok (.putfield 61, 3) := by decide +kernel
theorem dX2_findPath_42 : decode cX2_findPath 42 = .ok (.aload_n 1, 1) := by decide +kernel
theorem dX2_findPath_43 : decode cX2_findPath 43 = .ok (.getfield 47, 3) := by decide +kernel
theorem dX2_findPath_46 : decode cX2_findPath 46 = .ok (.iload_n 3, 1) := by decide +kernel
theorem dX2_findPath_47 : decode cX2_findPath 47 = .ok (.invokestatic 50, 3) := by decide +kernel
theorem dX2_findPath_50 : decode cX2_findPath 50 = .ok (.istore_n 3, 1) := by decide +kernel
theorem dX2_findPath_51 : decode cX2_findPath 51 = .ok (.goto (-44), 3) := by decide +kernel
theorem dX2_findPath_54 : decode cX2_findPath 54 = .ok (.return_, 1) := by decide +kernel
theorem dX2_onPath_0 : decode cX2_onPath 0 = .ok (.iconst 0, 1) := by decide +kernel
theorem dX2_onPath_1 : decode cX2_onPath 1 = .ok (.istore_n 2, 1) := by decide +kernel
theorem dX2_onPath_2 : decode cX2_onPath 2 = .ok (.iload_n 2, 1) := by decide +kernel
theorem dX2_onPath_3 : decode cX2_onPath 3 = .ok (.aload_n 0, 1) := by decide +kernel
theorem dX2_onPath_4 : decode cX2_onPath 4 = .ok (.getfield 61, 3) := by decide +kernel
theorem dX2_onPath_7 : decode cX2_onPath 7 = .ok (.if_icmp .ge 23, 3) := by decide +kernel
theorem dX2_onPath_10 : decode cX2_onPath 10 = .ok (.aload_n 0, 1) := by decide +kernel
theorem dX2_onPath_11 : decode cX2_onPath 11 = .ok (.getfield 15, 3) := by decide +kernel
theorem dX2_onPath_14 : decode cX2_onPath 14 = .ok (.iload_n 2, 1) := by decide +kernel
theorem dX2_onPath_15 : decode cX2_onPath 15 = .ok (.invokestatic 50, 3) := by decide +kernel
theorem dX2_onPath_18 : decode cX2_onPath 18 = .ok (.iload_n 1, 1) := by decide +kernel
theorem dX2_onPath_19 : decode cX2_onPath 19 = .ok (.if_icmp .ne 5, 3) := by decide +kernel
theorem dX2_onPath_22 : decode cX2_onPath 22 = .ok (.iconst 1, 1) := by decide +kernel
theorem dX2_onPath_23 : decode cX2_onPath 23 = .ok (.ireturn, 1) := by decide +kernel
theorem dX2_onPath_24 : decode cX2_onPath 24 = .ok (.iinc 2 1, 3) := by decide +kernel
theorem dX2_onPath_27 : decode cX2_onPath 27 = .ok (.goto (-25), 3) := by decide +kernel
theorem dX2_onPath_30 : decode cX2_onPath 30 = .ok (.iconst 0, 1) := by decide +kernel
theorem dX2_onPath_31 : decode cX2_onPath 31 = .ok (.ireturn, 1) := by decide +kernel
theorem dX4_add_0 : decode cX4_add 0 = .ok (.aload_n 0, 1) := by decide +kernel
theorem dX4_add_1 : decode cX4_add 1 = .ok (.getfield 9, 3) := by decide +kernel
theorem dX4_add_4 : decode cX4_add 4 = .ok (.aload_n 0, 1) := by decide +kernel
theorem dX4_add_5 : decode cX4_add 5 = .ok (.getfield 24, 3) := by decide +kernel
theorem dX4_add_8 : decode cX4_add 8 = .ok (.iload_n 1, 1) := by decide +kernel
theorem dX4_add_9 : decode cX4_add 9 = .ok (.invokestatic 28, 3) := by decide +kernel
theorem dX4_add_12 : decode cX4_add 12 = .ok (.aload_n 0, 1) := by decide +kernel
theorem dX4_add_13 : decode cX4_add 13 = .ok (.getfield 15, 3) := by decide +kernel
theorem dX4_add_16 : decode cX4_add 16 = .ok (.aload_n 0, 1) := by decide +kernel
theorem dX4_add_17 : decode cX4_add 17 = .ok (.getfield 24, 3) := by decide +kernel
theorem dX4_add_20 : decode cX4_add 20 = .ok (.iload_n 2, 1) := by decide +kernel
theorem dX4_add_21 : decode cX4_add 21 = .ok (.invokestatic 28, 3) := by decide +kernel
theorem dX4_add_24 : decode cX4_add 24 = .ok (.aload_n 0, 1) := by decide +kernel
theorem dX4_add_25 : decode cX4_add 25 = .ok (.getfield 18, 3) := by decide +kernel
theorem dX4_add_28 : decode cX4_add 28 = .ok (.aload_n 0, 1) := by decide +kernel
theorem dX4_add_29 : decode cX4_add 29 = .ok (.getfield 24, 3) := by decide +kernel
theorem dX4_add_32 : decode cX4_add 32 = .ok (.iload_n 3, 1) := by decide +kernel
theorem dX4_add_33 : decode cX4_add 33 = .ok (.invokestatic 28, 3) := by decide +kernel
theorem dX4_add_36 : decode cX4_add 36 = .ok (.aload_n 0, 1) := by decide +kernel
theorem dX4_add_37 : decode cX4_add 37 = .ok (.getfield 21, 3) := by decide +kernel
theorem dX4_add_40 : decode cX4_add 40 = .ok (.aload_n 0, 1) := by decide +kernel
theorem dX4_add_41 : decode cX4_add 41 = .ok (.getfield 24, 3) := by decide +kernel
theorem dX4_add_44 : decode cX4_add 44 = .ok (.iload 4, 2) := by decide +kernel
theorem dX4_add_46 : decode cX4_add 46 = .ok (.invokestatic 28, 3) := by decide +kernel
theorem dX4_add_49 : decode cX4_add 49 = .ok (.aload_n 0, 1) := by decide +kernel
theorem dX4_add_50 : decode cX4_add 50 = .ok (.dup, 1) := by decide +kernel
theorem dX4_add_51 : decode cX4_add 51 = .ok (.getfield 24, 3) := by decide +kernel
theorem dX4_add_54 : decode cX4_add 54 = .ok (.iconst 1, 1) := by decide +kernel
theorem dX4_add_55 : decode cX4_add 55 = .ok (.iadd, 1) := by decide +kernel
theorem dX4_add_56 : decode cX4_add 56 = .ok (.putfield 24, 3) := by decide +kernel
theorem dX4_add_59 : decode cX4_add 59 = .ok (.aload_n 0, 1) := by decide +kernel
theorem dX4_add_60 : decode cX4_add 60 = .ok (.getfield 24, 3) := by decide +kernel
theorem dX4_add_63 : decode cX4_add 63 = .ok (.iconst 1, 1) := by decide +kernel
theorem dX4_add_64 : decode cX4_add 64 = .ok (.isub, 1) := by decide +kernel
theorem dX4_add_65 : decode cX4_add 65 = .ok (.ireturn, 1) := by decide +kernel
theorem dX4_mark_0 : decode cX4_mark 0 = .ok (.iconst 1, 1) := by decide +kernel
theorem dX4_mark_1 : decode cX4_mark 1 = .ok (.iload_n 1, 1) := by decide +kernel
theorem dX4_mark_2 : decode cX4_mark 2 = .ok (.ishl, 1) := by decide +kernel
theorem dX4_mark_3 : decode cX4_mark 3 = .ok (.istore_n 3, 1) := by decide +kernel
theorem dX4_mark_4 : decode cX4_mark 4 = .ok (.aload_n 0, 1) := by decide +kernel
theorem dX4_mark_5 : decode cX4_mark 5 = .ok (.getfield 32, 3) := by decide +kernel
theorem dX4_mark_8 : decode cX4_mark 8 = .ok (.istore 4, 2) := by decide +kernel
theorem dX4_mark_10 : decode cX4_mark 10 = .ok (.aload_n 0, 1) := by decide +kernel
theorem dX4_mark_11 : decode cX4_mark 11 = .ok (.iload_n 2, 1) := by decide +kernel
theorem dX4_mark_12 : decode cX4_mark 12 = .ok (.ifCond .eq 12, 3) := by decide +kernel
theorem dX4_mark_15 : decode cX4_mark 15 = .ok (.aload_n 0, 1) := by decide +kernel
theorem dX4_mark_16 : decode cX4_mark 16 = .ok (.getfield 32, 3) := by decide +kernel
theorem dX4_mark_19 : decode cX4_mark 19 = .ok (.iload_n 3, 1) := by decide +kernel
theorem dX4_mark_20 : decode cX4_mark 20 = .ok (.ior, 1) := by decide +kernel
theorem dX4_mark_21 : decode cX4_mark 21 = .ok (.goto 11, 3) := by decide +kernel
theorem dX4_mark_24 : decode cX4_mark 24 = .ok (.aload_n 0, 1) := by decide +kernel
theorem dX4_mark_25 : decode cX4_mark 25 = .ok (.getfield 32, 3) := by decide +kernel
theorem dX4_mark_28 : decode cX4_mark 28 = .ok (.iload_n 3, 1) := by decide +kernel
theorem dX4_mark_29 : decode cX4_mark 29 = .ok (.iconst (-1), 1) := by decide +kernel
theorem dX4_mark_30 : decode cX4_mark 30 = .ok (.ixor, 1) := by decide +kernel
theorem dX4_mark_31 : decode cX4_mark 31 = .ok (.iand, 1) := by decide +kernel
theorem dX4_mark_32 : decode cX4_mark 32 = .ok (.putfield 32, 3) := by decide +kernel
theorem dX4_mark_35 : decode cX4_mark 35 = .ok (.aload_n 0, 1) := by decide +kernel
theorem dX4_mark_36 : decode cX4_mark 36 = .ok (.getfield 32, 3) := by decide +kernel
theorem dX4_mark_39 : decode cX4_mark 39 = .ok (.iload 4, 2) := by decide +kernel
theorem dX4_mark_41 : decode cX4_mark 41 = .ok (.if_icmp .eq 7, 3) := by decide +kernel
theorem dX4_mark_44 : decode cX4_mark 44 = .ok (.iconst 1, 1) := by decide +kernel
theorem dX4_mark_45 : decode cX4_mark 45 = .ok (.goto 4, 3) := by decide +kernel
theorem dX4_mark_48 : decode cX4_mark 48 = .ok (.iconst 0, 1) := by decide +kernel
theorem dX4_mark_49 : decode cX4_mark 49 = .ok (.ireturn, 1) := by decide +kernel
theorem dX5_within_0 : decode cX5_within 0 = .ok (.iconst 0, 1) := by decide +kernel
theorem dX5_within_1 : decode cX5_within 1 = .ok (.iload_n 1, 1) := by decide +kernel
theorem dX5_within_2 : decode cX5_within 2 = .ok (.invokestatic 9, 3) := by decide +kernel
theorem dX5_within_5 : decode cX5_within 5 = .ok (.istore_n 3, 1) := by decide +kernel
theorem dX5_within_6 : decode cX5_within 6 = .ok (.sipush 299, 3) := by decide +kernel
theorem dX5_within_9 : decode cX5_within 9 = .ok (.iload_n 2, 1) := by decide +kernel
theorem dX5_within_10 : decode cX5_within 10 = .ok (.invokestatic 15, 3) := by decide +kernel
theorem dX5_within_13 : decode cX5_within 13 = .ok (.istore 4, 2) := by decide +kernel
theorem dX5_within_15 : decode cX5_within 15 = .ok (.iload_n 3, 1) := by decide +kernel
theorem dX5_within_16 : decode cX5_within 16 = .ok (.iload 4, 2) := by decide +kernel
theorem dX5_within_18 : decode cX5_within 18 = .ok (.if_icmp .le 10, 3) := by decide +kernel
theorem dX5_within_21 : decode cX5_within 21 = .ok (.aload_n 0, 1) := by decide +kernel
theorem dX5_within_22 : decode cX5_within 22 = .ok (.invokevirtual 18, 3) := by decide +kernel
theorem dX5_within_25 : decode cX5_within 25 = .ok (.goto 10, 3) := by decide +kernel
theorem dX5_within_28 : decode cX5_within 28 = .ok (.aload_n 0, 1) := by decide +kernel
theorem dX5_within_29 : decode cX5_within 29 = .ok (.iload_n 3, 1) := by decide +kernel
theorem dX5_within_30 : decode cX5_within 30 = .ok (.iload 4, 2) := by decide +kernel
theorem dX5_within_32 : decode cX5_within 32 = .ok (.invokevirtual 24, 3) := by decide +kernel
theorem dX5_within_35 : decode cX5_within 35 = .ok (.lreturn, 1) := by decide +kernel
theorem dX6_take_0 : decode cX6_take 0 = .ok (.iconst 0, 1) := by decide +kernel
theorem dX6_take_1 : decode cX6_take 1 = .ok (.istore 4, 2) := by decide +kernel
theorem dX6_take_3 : decode cX6_take 3 = .ok (.iload 4, 2) := by decide +kernel
theorem dX6_take_5 : decode cX6_take 5 = .ok (.iload_n 1, 1) := by decide +kernel
theorem dX6_take_6 : decode cX6_take 6 = .ok (.if_icmp .ge 42, 3) := by decide +kernel
theorem dX6_take_9 : decode cX6_take 9 = .ok (.aload_n 0, 1) := by decide +kernel
theorem dX6_take_10 : decode cX6_take 10 = .ok (.getfield 9, 3) := by decide +kernel
theorem dX6_take_13 : decode cX6_take 13 = .ok (.aload_n 0, 1) := by decide +kernel
theorem dX6_take_14 : decode cX6_take 14 = .ok (.getfield 15, 3) := by decide +kernel
theorem dX6_take_17 : decode cX6_take 17 = .ok (.lload_n 2, 1) := by decide +kernel
theorem dX6_take_18 : decode cX6_take 18 = .ok (.bipush 8, 2) := by decide +kernel
theorem dX6_take_20 : decode cX6_take 20 = .ok (.iload 4, 2) := by decide +kernel
theorem dX6_take_22 : decode cX6_take 22 = .ok (.imul, 1) := by decide +kernel
theorem dX6_take_23 : decode cX6_take 23 = .ok (.lushr, 1) := by decide +kernel
theorem dX6_take_24 : decode cX6_take 24 = .ok (.l2i, 1) := by decide +kernel
theorem dX6_take_25 : decode cX6_take 25 = .ok (.sipush 255, 3) := by decide +kernel
theorem dX6_take_28 : decode cX6_take 28 = .ok (.iand, 1) := by decide +kernel
theorem dX6_take_29 : decode cX6_take 29 = .ok (.invokestatic 19, 3) := by decide +kernel
theorem dX6_take_32 : decode cX6_take 32 = .ok (.aload_n 0, 1) := by decide +kernel
theorem dX6_take_33 : decode cX6_take 33 = .ok (.dup, 1) := by decide +kernel
theorem dX6_take_34 : decode cX6_take 34 = .ok (.getfield 15, 3) := by decide +kernel
theorem dX6_take_37 : decode cX6_take 37 = .ok (.iconst 1, 1) := by decide +kernel
theorem dX6_take_38 : decode cX6_take 38 = .ok (.iadd, 1) := by decide +kernel
theorem dX6_take_39 : decode cX6_take 39 = .ok (.putfield 15, 3) := by decide +kernel
theorem dX6_take_42 : decode cX6_take 42 = .ok (.iinc 4 1, 3) := by decide +kernel
theorem dX6_take_45 : decode cX6_take 45 = .ok (.goto (-42), 3) := by decide +kernel
theorem dX6_take_48 : decode cX6_take 48 = .ok (.aload_n 0, 1) := by decide +kernel
theorem dX6_take_49 : decode cX6_take 49 = .ok (.getfield 15, 3) := by decide +kernel
theorem dX6_take_52 : decode cX6_take 52 = .ok (.ireturn, 1) := by decide +kernel
theorem dX6_read_0 : decode cX6_read 0 = .ok (.aload_n 0, 1) := by decide +kernel
theorem dX6_read_1 : decode cX6_read 1 = .ok (.iconst 0, 1) := by decide +kernel
theorem dX6_read_2 : decode cX6_read 2 = .ok (.putfield 23, 3) := by decide +kernel
theorem dX6_read_5 : decode cX6_read 5 = .ok (.aload_n 0, 1) := by decide +kernel
theorem dX6_read_6 : decode cX6_read 6 = .ok (.aload_n 0, 1) := by decide +kernel
theorem dX6_read_7 : decode cX6_read 7 = .ok (.invokevirtual 26, 3) := by decide +kernel
theorem dX6_read_10 : decode cX6_read 10 = .ok (.invokestatic 30, 3) := by decide +kernel
theorem dX6_read_13 : decode cX6_read 13 = .ok (.putfield 34, 3) := by decide +kernel
theorem dX6_read_16 : decode cX6_read 16 = .ok (.aload_n 0, 1) := by decide +kernel
theorem dX6_read_17 : decode cX6_read 17 = .ok (.getfield 34, 3) := by decide +kernel
theorem dX6_read_20 : decode cX6_read 20 = .ok (.ifCond .ge 8, 3) := by decide +kernel
theorem dX6_read_23 : decode cX6_read 23 = .ok (.aload_n 0, 1) := by decide +kernel
theorem dX6_read_24 : decode cX6_read 24 = .ok (.getfield 23, 3) := by decide +kernel
theorem dX6_read_27 : decode cX6_read 27 = .ok (.ireturn, 1) := by decide +kernel
theorem dX6_read_28 : decode cX6_read 28 = .ok (.aload_n 0, 1) := by decide +kernel
theorem dX6_read_29 : decode cX6_read 29 = .ok (.dup, 1) := by decide +kernel
theorem dX6_read_30 : decode cX6_read 30 = .ok (.getfield 23, 3) := by decide +kernel
theorem dX6_read_33 : decode cX6_read 33 = .ok (.iconst 1, 1) := by decide +kernel
theorem dX6_read_34 : decode cX6_read 34 = .ok (.iadd, 1) := by decide +kernel
theorem dX6_read_35 : decode cX6_read 35 = .ok (.putfield 23, 3) := by decide +kernel
theorem dX6_read_38 : decode cX6_read 38 = .ok (.aload_n 0, 1) := by decide +kernel
theorem dX6_read_39 : decode cX6_read 39 = .ok (.aload_n 0, 1) := by decide +kernel
theorem dX6_read_40 : decode cX6_read 40 = .ok (.iconst 4, 1) := by decide +kernel
theorem dX6_read_41 : decode cX6_read 41 = .ok (.invokevirtual 37, 3) := by decide +kernel
theorem dX6_read_44 : decode cX6_read 44 = .ok (.putfield 40, 3) := by decide +kernel
theorem dX6_read_47 : decode cX6_read 47 = .ok (.aload_n 0, 1) := by decide +kernel
theorem dX6_read_48 : decode cX6_read 48 = .ok (.getfield 40, 3) := by decide +kernel
theorem dX6_read_51 : decode cX6_read 51 = .ok (.ifCond .lt 12, 3) := by decide +kernel
theorem dX6_read_54 : decode cX6_read 54 = .ok (.aload_n 0, 1) := by decide +kernel
theorem dX6_read_55 : decode cX6_read 55 = .ok (.invokevirtual 26, 3) := by decide +kernel
theorem dX6_read_58 : decode cX6_read 58 = .ok (.bipush 44, 2) := by decide +kernel
theorem dX6_read_60 : decode cX6_read 60 = .ok (.if_icmp .eq 8, 3) := by decide +kernel
theorem dX6_read_63 : decode cX6_read 63 = .ok (.aload_n 0, 1) := by decide +kernel
theorem dX6_read_64 : decode cX6_read 64 = .ok (.getfield 23, 3) := by decide +kernel
theorem dX6_read_67 : decode cX6_read 67 = .ok (.ireturn, 1) := by decide +kernel
theorem dX6_read_68 : decode cX6_read 68 = .ok (.aload_n 0, 1) := by decide +kernel
theorem dX6_read_69 : decode cX6_read 69 = .ok (.dup, 1) := by decide +kernel
theorem dX6_read_70 : decode cX6_read 70 = .ok (.getfield 23, 3) := by decide +kernel
theorem dX6_read_73 : decode cX6_read 73 = .ok (.iconst 1, 1) := by decide +kernel
theorem dX6_read_74 : decode cX6_read 74 = .ok (.iadd, 1) := by decide +kernel
theorem dX6_read_75 : decode cX6_read 75 = .ok (.putfield 23, 3) := by decide +kernel
theorem dX6_read_78 : decode cX6_read 78 = .ok (.aload_n 0, 1) := by decide +kernel
theorem dX6_read_79 : decode cX6_read 79 = .ok (.aload_n 0, 1) := by decide +kernel
theorem dX6_read_80 : decode cX6_read 80 = .ok (.iconst 2, 1) := by decide +kernel
theorem dX6_read_81 : decode cX6_read 81 = .ok (.invokevirtual 37, 3) := by decide +kernel
theorem dX6_read_84 : decode cX6_read 84 = .ok (.putfield 43, 3) := by decide +kernel
theorem dX6_read_87 : decode cX6_read 87 = .ok (.aload_n 0, 1) := by decide +kernel
theorem dX6_read_88 : decode cX6_read 88 = .ok (.getfield 43, 3) := by decide +kernel
theorem dX6_read_91 : decode cX6_read 91 = .ok (.ifCond .lt 14, 3) := by decide +kernel
theorem dX6_read_94 : decode cX6_read 94 = .ok (.aload_n 0, 1) := by decide +kernel
theorem dX6_read_95 : decode cX6_read 95 = .ok (.getfield 23, 3) := by decide +kernel
theorem dX6_read_98 : decode cX6_read 98 = .ok (.aload_n 0, 1) := by decide +kernel
theorem dX6_read_99 : decode cX6_read 99 = .ok (.getfield 15, 3) := by decide +kernel
theorem dX6_read_102 : decode cX6_read 102 = .ok (.if_icmp .ge 10, 3) := by decide +kernel
theorem dX6_read_105 : decode cX6_read 105 = .ok (.aload_n 0, 1) := by decide +kernel
theorem dX6_read_106 : decode cX6_read 106 = .ok (.getfield 23, 3) := by decide +kernel
theorem dX6_read_109 : decode cX6_read 109 = .ok (.goto 4, 3) := by decide +kernel
theorem dX6_read_112 : decode cX6_read 112 = .ok (.iconst (-1), 1) := by decide +kernel
theorem dX6_read_113 : decode cX6_read 113 = .ok (.ireturn, 1) := by decide +kernel
theorem dX6_readNumber_0 : decode cX6_readNumber 0 = .ok (.iconst 0, 1) := by decide +kernel
theorem dX6_readNumber_1 : decode cX6_readNumber 1 = .ok (.istore_n 2, 1) := by decide +kernel
theorem dX6_readNumber_2 : decode cX6_readNumber 2 = .ok (.iconst 0, 1) := by decide +kernel
theorem dX6_readNumber_3 : decode cX6_readNumber 3 = .ok (.istore_n 3, 1) := by decide +kernel
theorem dX6_readNumber_4 : decode cX6_readNumber 4 = .ok (.iload_n 3, 1) := by decide +kernel
theorem dX6_readNumber_5 : decode cX6_readNumber 5 = .ok (.iload_n 1, 1) := by decide +kernel
theorem dX6_readNumber_6 : decode cX6_readNumber 6 = .ok (.if_icmp .ge 50, 3) := by decide +kernel
theorem dX6_readNumber_9 : decode cX6_readNumber 9 = .ok (.aload_n 0, 1) := by decide +kernel
theorem dX6_readNumber_10 : decode cX6_readNumber 10 = .ok (.invokevirtual 26, 3) := by decide +kernel
theorem dX6_readNumber_13 : decode cX6_readNumber 13 = .ok (.bipush 48, 2) := by decide +kernel
theorem dX6_readNumber_15 : decode cX6_readNumber 15 = .ok (.if_icmp .lt 41, 3) := by decide +kernel
theorem dX6_readNumber_18 : decode cX6_readNumber 18 = .ok (.aload_n 0, 1) := by decide +kernel
theorem dX6_readNumber_19 : decode cX6_readNumber 19 = .ok (.invokevirtual 26, 3) := by decide +kernel
theorem dX6_readNumber_22 : decode cX6_readNumber 22 = .ok (.bipush 57, 2) := by decide +kernel
theorem dX6_readNumber_24 : decode cX6_readNumber 24 = .ok (.if_icmp .gt 32, 3) := by decide +kernel
theorem dX6_readNumber_27 : decode cX6_readNumber 27 = .ok (.iload_n 2, 1) := by decide +kernel
theorem dX6_readNumber_28 : decode cX6_readNumber 28 = .ok (.bipush 10, 2) := by decide +kernel
theorem dX6_readNumber_30 : decode cX6_readNumber 30 = .ok (.imul, 1) := by decide +kernel
theorem dX6_readNumber_31 : decode cX6_readNumber 31 = .ok (.aload_n 0, 1) := by decide +kernel
theorem dX6_readNumber_32 : decode cX6_readNumber 32 = .ok (.invokevirtual 26, 3) := by decide +kernel
theorem dX6_readNumber_35 : decode cX6_readNumber 35 = .ok (.iadd, 1) := by decide +kernel
theorem dX6_readNumber_36 : decode cX6_readNumber 36 = .ok (.bipush 48, 2) := by decide +kernel
theorem dX6_readNumber_38 : decode cX6_readNumber 38 = .ok (.isub, 1) := by decide +kernel
theorem dX6_readNumber_39 : decode cX6_readNumber 39 = .ok (.istore_n 2, 1) := by decide +kernel
theorem dX6_readNumber_40 : decode cX6_readNumber 40 = .ok (.iinc 3 1, 3) := by decide +kernel
theorem dX6_readNumber_43 : decode cX6_readNumber 43 = .ok (.aload_n 0, 1) := by decide +kernel
theorem dX6_readNumber_44 : decode cX6_readNumber 44 = .ok (.dup, 1) := by decide +kernel
theorem dX6_readNumber_45 : decode cX6_readNumber 45 = .ok (.getfield 23, 3) := by decide +kernel
theorem dX6_readNumber_48 : decode cX6_readNumber 48 = .ok (.iconst 1, 1) := by decide +kernel
theorem dX6_readNumber_49 : decode cX6_readNumber 49 = .ok (.iadd, 1) := by decide +kernel
theorem dX6_readNumber_50 : decode cX6_readNumber 50 = .ok (.putfield 23, 3) := by decide +kernel
theorem dX6_readNumber_53 : decode cX6_readNumber 53 = .ok (.goto (-49), 3) := by decide +kernel
theorem dX6_readNumber_56 : decode cX6_readNumber 56 = .ok (.iload_n 3, 1) := by decide +kernel
theorem dX6_readNumber_57 : decode cX6_readNumber 57 = .ok (.ifCond .ne 7, 3) := by decide +kernel
theorem dX6_readNumber_60 : decode cX6_readNumber 60 = .ok (.iconst (-1), 1) := by decide +kernel
theorem dX6_readNumber_61 : decode cX6_readNumber 61 = .ok (.goto 4, 3) := by decide +kernel
theorem dX6_readNumber_64 : decode cX6_readNumber 64 = .ok (.iload_n 2, 1) := by decide +kernel
theorem dX6_readNumber_65 : decode cX6_readNumber 65 = .ok (.ireturn, 1) := by decide +kernel
theorem dX6_byteHere_0 : decode cX6_byteHere 0 = .ok (.aload_n 0, 1) := by decide +kernel
theorem dX6_byteHere_1 : decode cX6_byteHere 1 = .ok (.getfield 23, 3) := by decide +kernel
theorem dX6_byteHere_4 : decode cX6_byteHere 4 = .ok (.aload_n 0, 1) := by decide +kernel
theorem dX6_byteHere_5 : decode cX6_byteHere 5 = .ok (.getfield 15, 3) := by decide +kernel
theorem dX6_byteHere_8 : decode cX6_byteHere 8 = .ok (.if_icmp .ge 17, 3) := by decide +kernel
theorem dX6_byteHere_11 : decode cX6_byteHere 11 = .ok (.aload_n 0, 1) := by decide +kernel
theorem dX6_byteHere_12 : decode cX6_byteHere 12 = .ok (.getfield 9, 3) := by decide +kernel
theorem dX6_byteHere_15 : decode cX6_byteHere 15 = .ok (.aload_n 0, 1) := by decide +kernel
theorem dX6_byteHere_16 : decode cX6_byteHere 16 = .ok (.getfield 23, 3) := by decide +kernel
theorem dX6_byteHere_19 : decode cX6_byteHere 19 = .ok (.invokestatic 46, 3) := by decide +kernel
theorem dX6_byteHere_22 : decode cX6_byteHere 22 = .ok (.goto 4, 3) := by decide +kernel
theorem dX6_byteHere_25 : decode cX6_byteHere 25 = .ok (.iconst (-1), 1) := by decide +kernel
theorem dX6_byteHere_26 : decode cX6_byteHere 26 = .ok (.ireturn, 1) := by decide +kernel
theorem dX6_lawOf_0 : decode cX6_lawOf 0 = .ok (.iload_n 0, 1) := by decide +kernel
theorem dX6_lawOf_1 : decode cX6_lawOf 1 = .ok (.tableswitch 107 100 119 #[103, 95, 107, 107, 107, 107, 107, 105, 107, 107, 107, 107, 107, 107, 107, 99, 97, 107, 107, 101], 95) := by decide +kernel
theorem dX6_lawOf_96 : decode cX6_lawOf 96 = .ok (.iconst 0, 1) := by decide +kernel
theorem dX6_lawOf_97 : decode cX6_lawOf 97 = .ok (.ireturn, 1) := by decide +kernel
theorem dX6_lawOf_98 : decode cX6_lawOf 98 = .ok (.iconst 1, 1) := by decide +kernel
theorem dX6_lawOf_99 : decode cX6_lawOf 99 = .ok (.ireturn, 1) := by decide +kernel
theorem dX6_lawOf_100 : decode cX6_lawOf 100 = .ok (.iconst 2, 1) := by decide +kernel
theorem dX6_lawOf_101 : decode cX6_lawOf 101 = .ok (.ireturn, 1) := by decide +kernel
theorem dX6_lawOf_102 : decode cX6_lawOf 102 = .ok (.iconst 3, 1) := by decide +kernel
theorem dX6_lawOf_103 : decode cX6_lawOf 103 = .ok (.ireturn, 1) := by decide +kernel
theorem dX6_lawOf_104 : decode cX6_lawOf 104 = .ok (.iconst 4, 1) := by decide +kernel
theorem dX6_lawOf_105 : decode cX6_lawOf 105 = .ok (.ireturn, 1) := by decide +kernel
theorem dX6_lawOf_106 : decode cX6_lawOf 106 = .ok (.iconst 5, 1) := by decide +kernel
theorem dX6_lawOf_107 : decode cX6_lawOf 107 = .ok (.ireturn, 1) := by decide +kernel
theorem dX6_lawOf_108 : decode cX6_lawOf 108 = .ok (.iconst (-1), 1) := by decide +kernel
theorem dX6_lawOf_109 : decode cX6_lawOf 109 = .ok (.ireturn, 1) := by decide +kernel
theorem dX7_add_0 : decode cX7_add 0 = .ok (.aload_n 0, 1) := by decide +kernel
theorem dX7_add_1 : decode cX7_add 1 = .ok (.getfield 9, 3) := by decide +kernel
theorem dX7_add_4 : decode cX7_add 4 = .ok (.aload_n 0, 1) := by decide +kernel
theorem dX7_add_5 : decode cX7_add 5 = .ok (.getfield 30, 3) := by decide +kernel
theorem dX7_add_8 : decode cX7_add 8 = .ok (.iload_n 1, 1) := by decide +kernel
theorem dX7_add_9 : decode cX7_add 9 = .ok (.invokestatic 34, 3) := by decide +kernel
theorem dX7_add_12 : decode cX7_add 12 = .ok (.aload_n 0, 1) := by decide +kernel
theorem dX7_add_13 : decode cX7_add 13 = .ok (.getfield 15, 3) := by decide +kernel
theorem dX7_add_16 : decode cX7_add 16 = .ok (.aload_n 0, 1) := by decide +kernel
theorem dX7_add_17 : decode cX7_add 17 = .ok (.getfield 30, 3) := by decide +kernel
theorem dX7_add_20 : decode cX7_add 20 = .ok (.iload_n 2, 1) := by decide +kernel
theorem dX7_add_21 : decode cX7_add 21 = .ok (.invokestatic 34, 3) := by decide +kernel
theorem dX7_add_24 : decode cX7_add 24 = .ok (.aload_n 0, 1) := by decide +kernel
theorem dX7_add_25 : decode cX7_add 25 = .ok (.getfield 18, 3) := by decide +kernel
theorem dX7_add_28 : decode cX7_add 28 = .ok (.aload_n 0, 1) := by decide +kernel
theorem dX7_add_29 : decode cX7_add 29 = .ok (.getfield 30, 3) := by decide +kernel
theorem dX7_add_32 : decode cX7_add 32 = .ok (.iload_n 3, 1) := by decide +kernel
theorem dX7_add_33 : decode cX7_add 33 = .ok (.invokestatic 34, 3) := by decide +kernel
theorem dX7_add_36 : decode cX7_add 36 = .ok (.aload_n 0, 1) := by decide +kernel
theorem dX7_add_37 : decode cX7_add 37 = .ok (.aload_n 0, 1) := by decide +kernel
theorem dX7_add_38 : decode cX7_add 38 = .ok (.getfield 30, 3) := by decide +kernel
theorem dX7_add_41 : decode cX7_add 41 = .ok (.iconst (-1), 1) := by decide +kernel
theorem dX7_add_42 : decode cX7_add 42 = .ok (.iconst 0, 1) := by decide +kernel
theorem dX7_add_43 : decode cX7_add 43 = .ok (.iconst 0, 1) := by decide +kernel
theorem dX7_add_44 : decode cX7_add 44 = .ok (.invokevirtual 38, 3) := by decide +kernel
theorem dX7_add_47 : decode cX7_add 47 = .ok (.pop, 1) := by decide +kernel
theorem dX7_add_48 : decode cX7_add 48 = .ok (.aload_n 0, 1) := by decide +kernel
theorem dX7_add_49 : decode cX7_add 49 = .ok (.dup, 1) := by decide +kernel
theorem dX7_add_50 : decode cX7_add 50 = .ok (.getfield 30, 3) := by decide +kernel
theorem dX7_add_53 : decode cX7_add 53 = .ok (.iconst 1, 1) := by decide +kernel
theorem dX7_add_54 : decode cX7_add 54 = .ok (.iadd, 1) := by decide +kernel
theorem dX7_add_55 : decode cX7_add 55 = .ok (.putfield 30, 3) := by decide +kernel
theorem dX7_add_58 : decode cX7_add 58 = .ok (.aload_n 0, 1) := by decide +kernel
theorem dX7_add_59 : decode cX7_add 59 = .ok (.getfield 30, 3) := by decide +kernel
theorem dX7_add_62 : decode cX7_add 62 = .ok (.iconst 1, 1) := by decide +kernel
theorem dX7_add_63 : decode cX7_add 63 = .ok (.isub, 1) := by decide +kernel
theorem dX7_add_64 : decode cX7_add 64 = .ok (.ireturn, 1) := by decide +kernel
theorem dX7_tie_0 : decode cX7_tie 0 = .ok (.aload_n 0, 1) := by decide +kernel
theorem dX7_tie_1 : decode cX7_tie 1 = .ok (.getfield 21, 3) := by decide +kernel
theorem dX7_tie_4 : decode cX7_tie 4 = .ok (.iload_n 1, 1) := by decide +kernel
theorem dX7_tie_5 : decode cX7_tie 5 = .ok (.iload_n 2, 1) := by decide +kernel
theorem dX7_tie_6 : decode cX7_tie 6 = .ok (.invokestatic 34, 3) := by decide +kernel
theorem dX7_tie_9 : decode cX7_tie 9 = .ok (.aload_n 0, 1) := by decide +kernel
theorem dX7_tie_10 : decode cX7_tie 10 = .ok (.getfield 24, 3) := by decide +kernel
theorem dX7_tie_13 : decode cX7_tie 13 = .ok (.iload_n 1, 1) := by decide +kernel
theorem dX7_tie_14 : decode cX7_tie 14 = .ok (.iload_n 3, 1) := by decide +kernel
theorem dX7_tie_15 : decode cX7_tie 15 = .ok (.invokestatic 34, 3) := by decide +kernel
theorem dX7_tie_18 : decode cX7_tie 18 = .ok (.aload_n 0, 1) := by decide +kernel
theorem dX7_tie_19 : decode cX7_tie 19 = .ok (.getfield 27, 3) := by decide +kernel
theorem dX7_tie_22 : decode cX7_tie 22 = .ok (.iload_n 1, 1) := by decide +kernel
theorem dX7_tie_23 : decode cX7_tie 23 = .ok (.iload 4, 2) := by decide +kernel
theorem dX7_tie_25 : decode cX7_tie 25 = .ok (.invokestatic 34, 3) := by decide +kernel
theorem dX7_tie_28 : decode cX7_tie 28 = .ok (.iconst 1, 1) := by decide +kernel
theorem dX7_tie_29 : decode cX7_tie 29 = .ok (.ireturn, 1) := by decide +kernel
theorem dX7_lowest_0 : decode cX7_lowest 0 = .ok (.aload_n 0, 1) := by decide +kernel
theorem dX7_lowest_1 : decode cX7_lowest 1 = .ok (.getfield 27, 3) := by decide +kernel
theorem dX7_lowest_4 : decode cX7_lowest 4 = .ok (.iload_n 1, 1) := by decide +kernel
theorem dX7_lowest_5 : decode cX7_lowest 5 = .ok (.invokestatic 42, 3) := by decide +kernel
theorem dX7_lowest_8 : decode cX7_lowest 8 = .ok (.istore 4, 2) := by decide +kernel
theorem dX7_lowest_10 : decode cX7_lowest 10 = .ok (.aload_n 0, 1) := by decide +kernel
theorem dX7_lowest_11 : decode cX7_lowest 11 = .ok (.getfield 24, 3) := by decide +kernel
theorem dX7_lowest_14 : decode cX7_lowest 14 = .ok (.iload_n 1, 1) := by decide +kernel
theorem dX7_lowest_15 : decode cX7_lowest 15 = .ok (.invokestatic 42, 3) := by decide +kernel
theorem dX7_lowest_18 : decode cX7_lowest 18 = .ok (.tableswitch 68 0 2 #[26, 42, 55], 26) := by decide +kernel
theorem dX7_lowest_44 : decode cX7_lowest 44 = .ok (.iload_n 3, 1) := by decide +kernel
theorem dX7_lowest_45 : decode cX7_lowest 45 = .ok (.ifCond .eq 10, 3) := by decide +kernel
theorem dX7_lowest_48 : decode cX7_lowest 48 = .ok (.iload_n 2, 1) := by decide +kernel
theorem dX7_lowest_49 : decode cX7_lowest 49 = .ok (.iload 4, 2) := by decide +kernel
theorem dX7_lowest_51 : decode cX7_lowest 51 = .ok (.iadd, 1) := by decide +kernel
theorem dX7_lowest_52 : decode cX7_lowest 52 = .ok (.goto 7, 3) := by decide +kernel
theorem dX7_lowest_55 : decode cX7_lowest 55 = .ok (.iload_n 2, 1) := by decide +kernel
theorem dX7_lowest_56 : decode cX7_lowest 56 = .ok (.iload 4, 2) := by decide +kernel
theorem dX7_lowest_58 : decode cX7_lowest 58 = .ok (.isub, 1) := by decide +kernel
theorem dX7_lowest_59 : decode cX7_lowest 59 = .ok (.ireturn, 1) := by decide +kernel
theorem dX7_lowest_60 : decode cX7_lowest 60 = .ok (.iload_n 3, 1) := by decide +kernel
theorem dX7_lowest_61 : decode cX7_lowest 61 = .ok (.ifCond .eq 10, 3) := by decide +kernel
theorem dX7_lowest_64 : decode cX7_lowest 64 = .ok (.iload_n 2, 1) := by decide +kernel
theorem dX7_lowest_65 : decode cX7_lowest 65 = .ok (.iload 4, 2) := by decide +kernel
theorem dX7_lowest_67 : decode cX7_lowest 67 = .ok (.iadd, 1) := by decide +kernel
theorem dX7_lowest_68 : decode cX7_lowest 68 = .ok (.goto 4, 3) := by decide +kernel
theorem dX7_lowest_71 : decode cX7_lowest 71 = .ok (.iconst 0, 1) := by decide +kernel
theorem dX7_lowest_72 : decode cX7_lowest 72 = .ok (.ireturn, 1) := by decide +kernel
theorem dX7_lowest_73 : decode cX7_lowest 73 = .ok (.iload_n 3, 1) := by decide +kernel
theorem dX7_lowest_74 : decode cX7_lowest 74 = .ok (.ifCond .eq 7, 3) := by decide +kernel
theorem dX7_lowest_77 : decode cX7_lowest 77 = .ok (.iconst 0, 1) := by decide +kernel
theorem dX7_lowest_78 : decode cX7_lowest 78 = .ok (.goto 7, 3) := by decide +kernel
theorem dX7_lowest_81 : decode cX7_lowest 81 = .ok (.iload_n 2, 1) := by decide +kernel
theorem dX7_lowest_82 : decode cX7_lowest 82 = .ok (.iload 4, 2) := by decide +kernel
theorem dX7_lowest_84 : decode cX7_lowest 84 = .ok (.iadd, 1) := by decide +kernel
theorem dX7_lowest_85 : decode cX7_lowest 85 = .ok (.ireturn, 1) := by decide +kernel
theorem dX7_lowest_86 : decode cX7_lowest 86 = .ok (.iload_n 2, 1) := by decide +kernel
theorem dX7_lowest_87 : decode cX7_lowest 87 = .ok (.iload 4, 2) := by decide +kernel
theorem dX7_lowest_89 : decode cX7_lowest 89 = .ok (.isub, 1) := by decide +kernel
theorem dX7_lowest_90 : decode cX7_lowest 90 = .ok (.ireturn, 1) := by decide +kernel
theorem dX7_highest_0 : decode cX7_highest 0 = .ok (.aload_n 0, 1) := by decide +kernel
theorem dX7_highest_1 : decode cX7_highest 1 = .ok (.getfield 27, 3) := by decide +kernel
theorem dX7_highest_4 : decode cX7_highest 4 = .ok (.iload_n 1, 1) := by decide +kernel
theorem dX7_highest_5 : decode cX7_highest 5 = .ok (.invokestatic 42, 3) := by decide +kernel
theorem dX7_highest_8 : decode cX7_highest 8 = .ok (.istore 4, 2) := by decide +kernel
theorem dX7_highest_10 : decode cX7_highest 10 = .ok (.aload_n 0, 1) := by decide +kernel
theorem dX7_highest_11 : decode cX7_highest 11 = .ok (.getfield 24, 3) := by decide +kernel
theorem dX7_highest_14 : decode cX7_highest 14 = .ok (.iload_n 1, 1) := by decide +kernel
theorem dX7_highest_15 : decode cX7_highest 15 = .ok (.invokestatic 42, 3) := by decide +kernel
theorem dX7_highest_18 : decode cX7_highest 18 = .ok (.tableswitch 72 0 2 #[26, 42, 57], 26) := by decide +kernel
theorem dX7_highest_44 : decode cX7_highest 44 = .ok (.iload_n 3, 1) := by decide +kernel
theorem dX7_highest_45 : decode cX7_highest 45 = .ok (.ifCond .eq 10, 3) := by decide +kernel
theorem dX7_highest_48 : decode cX7_highest 48 = .ok (.iload_n 2, 1) := by decide +kernel
theorem dX7_highest_49 : decode cX7_highest 49 = .ok (.iload 4, 2) := by decide +kernel
theorem dX7_highest_51 : decode cX7_highest 51 = .ok (.iadd, 1) := by decide +kernel
theorem dX7_highest_52 : decode cX7_highest 52 = .ok (.goto 7, 3) := by decide +kernel
theorem dX7_highest_55 : decode cX7_highest 55 = .ok (.iload_n 2, 1) := by decide +kernel
theorem dX7_highest_56 : decode cX7_highest 56 = .ok (.iload 4, 2) := by decide +kernel
theorem dX7_highest_58 : decode cX7_highest 58 = .ok (.isub, 1) := by decide +kernel
theorem dX7_highest_59 : decode cX7_highest 59 = .ok (.ireturn, 1) := by decide +kernel
theorem dX7_highest_60 : decode cX7_highest 60 = .ok (.iload_n 3, 1) := by decide +kernel
theorem dX7_highest_61 : decode cX7_highest 61 = .ok (.ifCond .eq 9, 3) := by decide +kernel
theorem dX7_highest_64 : decode cX7_highest 64 = .ok (.sipush 299, 3) := by decide +kernel
theorem dX7_highest_67 : decode cX7_highest 67 = .ok (.goto 7, 3) := by decide +kernel
theorem dX7_highest_70 : decode cX7_highest 70 = .ok (.iload_n 2, 1) := by decide +kernel
theorem dX7_highest_71 : decode cX7_highest 71 = .ok (.iload 4, 2) := by decide +kernel
theorem dX7_highest_73 : decode cX7_highest 73 = .ok (.isub, 1) := by decide +kernel
theorem dX7_highest_74 : decode cX7_highest 74 = .ok (.ireturn, 1) := by decide +kernel
theorem dX7_highest_75 : decode cX7_highest 75 = .ok (.iload_n 3, 1) := by decide +kernel
theorem dX7_highest_76 : decode cX7_highest 76 = .ok (.ifCond .eq 10, 3) := by decide +kernel
theorem dX7_highest_79 : decode cX7_highest 79 = .ok (.iload_n 2, 1) := by decide +kernel
theorem dX7_highest_80 : decode cX7_highest 80 = .ok (.iload 4, 2) := by decide +kernel
theorem dX7_highest_82 : decode cX7_highest 82 = .ok (.isub, 1) := by decide +kernel
theorem dX7_highest_83 : decode cX7_highest 83 = .ok (.goto 6, 3) := by decide +kernel
theorem dX7_highest_86 : decode cX7_highest 86 = .ok (.sipush 299, 3) := by decide +kernel
theorem dX7_highest_89 : decode cX7_highest 89 = .ok (.ireturn, 1) := by decide +kernel
theorem dX7_highest_90 : decode cX7_highest 90 = .ok (.iload_n 2, 1) := by decide +kernel
theorem dX7_highest_91 : decode cX7_highest 91 = .ok (.iload 4, 2) := by decide +kernel
theorem dX7_highest_93 : decode cX7_highest 93 = .ok (.iadd, 1) := by decide +kernel
theorem dX7_highest_94 : decode cX7_highest 94 = .ok (.ireturn, 1) := by decide +kernel
theorem dX8_open_0 : decode cX8_open 0 = .ok (.aload_n 0, 1) := by decide +kernel
theorem dX8_open_1 : decode cX8_open 1 = .ok (.iload_n 1, 1) := by decide +kernel
theorem dX8_open_2 : decode cX8_open 2 = .ok (.putfield 29, 3) := by decide +kernel
theorem dX8_open_5 : decode cX8_open 5 = .ok (.aload_n 0, 1) := by decide +kernel
theorem dX8_open_6 : decode cX8_open 6 = .ok (.iload_n 2, 1) := by decide +kernel
theorem dX8_open_7 : decode cX8_open 7 = .ok (.putfield 32, 3) := by decide +kernel
theorem dX8_open_10 : decode cX8_open 10 = .ok (.return_, 1) := by decide +kernel
theorem dX8_shut_0 : decode cX8_shut 0 = .ok (.aload_n 0, 1) := by decide +kernel
theorem dX8_shut_1 : decode cX8_shut 1 = .ok (.iconst 0, 1) := by decide +kernel
theorem dX8_shut_2 : decode cX8_shut 2 = .ok (.iconst (-1), 1) := by decide +kernel
theorem dX8_shut_3 : decode cX8_shut 3 = .ok (.invokevirtual 45, 3) := by decide +kernel
theorem dX8_shut_6 : decode cX8_shut 6 = .ok (.return_, 1) := by decide +kernel
theorem dX8_addCandidate_0 : decode cX8_addCandidate 0 = .ok (.aload_n 0, 1) := by decide +kernel
theorem dX8_addCandidate_1 : decode cX8_addCandidate 1 = .ok (.getfield 35, 3) := by decide +kernel
theorem dX8_addCandidate_4 : decode cX8_addCandidate 4 = .ok (.aload_n 0, 1) := by decide +kernel
theorem dX8_addCandidate_5 : decode cX8_addCandidate 5 = .ok (.getfield 49, 3) := by decide +kernel
theorem dX8_addCandidate_8 : decode cX8_addCandidate 8 = .ok (.iload_n 1, 1) := by decide +kernel
theorem dX8_addCandidate_9 : decode cX8_addCandidate 9 = .ok (.invokestatic 52, 3) := by decide +kernel
theorem dX8_addCandidate_12 : decode cX8_addCandidate 12 = .ok (.aload_n 0, 1) := by decide +kernel
theorem dX8_addCandidate_13 : decode cX8_addCandidate 13 = .ok (.getfield 39, 3) := by decide +kernel
theorem dX8_addCandidate_16 : decode cX8_addCandidate 16 = .ok (.aload_n 0, 1) := by decide +kernel
theorem dX8_addCandidate_17 : decode cX8_addCandidate 17 = .ok (.getfield 49, 3) := by decide +kernel
theorem dX8_addCandidate_20 : decode cX8_addCandidate 20 = .ok (.iload_n 2, 1) := by decide +kernel
theorem dX8_addCandidate_21 : decode cX8_addCandidate 21 = .ok (.invokestatic 52, 3) := by decide +kernel
theorem dX8_addCandidate_24 : decode cX8_addCandidate 24 = .ok (.aload_n 0, 1) := by decide +kernel
theorem dX8_addCandidate_25 : decode cX8_addCandidate 25 = .ok (.dup, 1) := by decide +kernel
theorem dX8_addCandidate_26 : decode cX8_addCandidate 26 = .ok (.getfield 49, 3) := by decide +kernel
theorem dX8_addCandidate_29 : decode cX8_addCandidate 29 = .ok (.iconst 1, 1) := by decide +kernel
theorem dX8_addCandidate_30 : decode cX8_addCandidate 30 = .ok (.iadd, 1) := by decide +kernel
theorem dX8_addCandidate_31 : decode cX8_addCandidate 31 = .ok (.putfield 49, 3) := by decide +kernel
theorem dX8_addCandidate_34 : decode cX8_addCandidate 34 = .ok (.aload_n 0, 1) := by decide +kernel
theorem dX8_addCandidate_35 : decode cX8_addCandidate 35 = .ok (.getfield 49, 3) := by decide +kernel
theorem dX8_addCandidate_38 : decode cX8_addCandidate 38 = .ok (.ireturn, 1) := by decide +kernel
theorem dX8_leftAfter_0 : decode cX8_leftAfter 0 = .ok (.aload_n 0, 1) := by decide +kernel
theorem dX8_leftAfter_1 : decode cX8_leftAfter 1 = .ok (.getfield 12, 3) := by decide +kernel
theorem dX8_leftAfter_4 : decode cX8_leftAfter 4 = .ok (.getfield 67, 3) := by decide +kernel
theorem dX8_leftAfter_7 : decode cX8_leftAfter 7 = .ok (.iload_n 1, 1) := by decide +kernel
theorem dX8_leftAfter_8 : decode cX8_leftAfter 8 = .ok (.invokestatic 70, 3) := by decide +kernel
theorem dX8_leftAfter_11 : decode cX8_leftAfter 11 = .ok (.istore 4, 2) := by decide +kernel
theorem dX8_leftAfter_13 : decode cX8_leftAfter 13 = .ok (.aload_n 0, 1) := by decide +kernel
theorem dX8_leftAfter_14 : decode cX8_leftAfter 14 = .ok (.getfield 12, 3) := by decide +kernel
theorem dX8_leftAfter_17 : decode cX8_leftAfter 17 = .ok (.getfield 74, 3) := by decide +kernel
theorem dX8_leftAfter_20 : decode cX8_leftAfter 20 = .ok (.iload_n 1, 1) := by decide +kernel
theorem dX8_leftAfter_21 : decode cX8_leftAfter 21 = .ok (.invokestatic 70, 3) := by decide +kernel
theorem dX8_leftAfter_24 : decode cX8_leftAfter 24 = .ok (.istore 5, 2) := by decide +kernel
theorem dX8_leftAfter_26 : decode cX8_leftAfter 26 = .ok (.aload_n 0, 1) := by decide +kernel
theorem dX8_leftAfter_27 : decode cX8_leftAfter 27 = .ok (.getfield 12, 3) := by decide +kernel
theorem dX8_leftAfter_30 : decode cX8_leftAfter 30 = .ok (.getfield 77, 3) := by decide +kernel
theorem dX8_leftAfter_33 : decode cX8_leftAfter 33 = .ok (.iload_n 1, 1) := by decide +kernel
theorem dX8_leftAfter_34 : decode cX8_leftAfter 34 = .ok (.invokestatic 70, 3) := by decide +kernel
theorem dX8_leftAfter_37 : decode cX8_leftAfter 37 = .ok (.tableswitch 123 0 4 #[35, 86, 47, 65, 101], 35) := by decide +kernel
theorem dX8_leftAfter_72 : decode cX8_leftAfter 72 = .ok (.iconst 0, 1) := by decide +kernel
theorem dX8_leftAfter_73 : decode cX8_leftAfter 73 = .ok (.iload 4, 2) := by decide +kernel
theorem dX8_leftAfter_75 : decode cX8_leftAfter 75 = .ok (.iload 5, 2) := by decide +kernel
theorem dX8_leftAfter_77 : decode cX8_leftAfter 77 = .ok (.iload_n 3, 1) := by decide +kernel
theorem dX8_leftAfter_78 : decode cX8_leftAfter 78 = .ok (.imul, 1) := by decide +kernel
theorem dX8_leftAfter_79 : decode cX8_leftAfter 79 = .ok (.isub, 1) := by decide +kernel
theorem dX8_leftAfter_80 : decode cX8_leftAfter 80 = .ok (.invokestatic 80, 3) := by decide +kernel
theorem dX8_leftAfter_83 : decode cX8_leftAfter 83 = .ok (.ireturn, 1) := by decide +kernel
theorem dX8_leftAfter_84 : decode cX8_leftAfter 84 = .ok (.iconst 0, 1) := by decide +kernel
theorem dX8_leftAfter_85 : decode cX8_leftAfter 85 = .ok (.iload 4, 2) := by decide +kernel
theorem dX8_leftAfter_87 : decode cX8_leftAfter 87 = .ok (.iload 5, 2) := by decide +kernel
theorem dX8_leftAfter_89 : decode cX8_leftAfter 89 = .ok (.bipush 10, 2) := by decide +kernel
theorem dX8_leftAfter_91 : decode cX8_leftAfter 91 = .ok (.imul, 1) := by decide +kernel
theorem dX8_leftAfter_92 : decode cX8_leftAfter 92 = .ok (.iload_n 3, 1) := by decide +kernel
theorem dX8_leftAfter_93 : decode cX8_leftAfter 93 = .ok (.bipush 10, 2) := by decide +kernel
theorem dX8_leftAfter_95 : decode cX8_leftAfter 95 = .ok (.idiv, 1) := by decide +kernel
theorem dX8_leftAfter_96 : decode cX8_leftAfter 96 = .ok (.imul, 1) := by decide +kernel
theorem dX8_leftAfter_97 : decode cX8_leftAfter 97 = .ok (.isub, 1) := by decide +kernel
theorem dX8_leftAfter_98 : decode cX8_leftAfter 98 = .ok (.invokestatic 80, 3) := by decide +kernel
theorem dX8_leftAfter_101 : decode cX8_leftAfter 101 = .ok (.ireturn, 1) := by decide +kernel
theorem dX8_leftAfter_102 : decode cX8_leftAfter 102 = .ok (.iconst 0, 1) := by decide +kernel
theorem dX8_leftAfter_103 : decode cX8_leftAfter 103 = .ok (.iload 4, 2) := by decide +kernel
theorem dX8_leftAfter_105 : decode cX8_leftAfter 105 = .ok (.iload 5, 2) := by decide +kernel
theorem dX8_leftAfter_107 : decode cX8_leftAfter 107 = .ok (.aload_n 0, 1) := by decide +kernel
theorem dX8_leftAfter_108 : decode cX8_leftAfter 108 = .ok (.iload_n 2, 1) := by decide +kernel
theorem dX8_leftAfter_109 : decode cX8_leftAfter 109 = .ok (.iload_n 2, 1) := by decide +kernel
theorem dX8_leftAfter_110 : decode cX8_leftAfter 110 = .ok (.iload_n 3, 1) := by decide +kernel
theorem dX8_leftAfter_111 : decode cX8_leftAfter 111 = .ok (.iadd, 1) := by decide +kernel
theorem dX8_leftAfter_112 : decode cX8_leftAfter 112 = .ok (.iconst 1, 1) := by decide +kernel
theorem dX8_leftAfter_113 : decode cX8_leftAfter 113 = .ok (.isub, 1) := by decide +kernel
theorem dX8_leftAfter_114 : decode cX8_leftAfter 114 = .ok (.invokevirtual 86, 3) := by decide +kernel
theorem dX8_leftAfter_117 : decode cX8_leftAfter 117 = .ok (.imul, 1) := by decide +kernel
theorem dX8_leftAfter_118 : decode cX8_leftAfter 118 = .ok (.isub, 1) := by decide +kernel
theorem dX8_leftAfter_119 : decode cX8_leftAfter 119 = .ok (.invokestatic 80, 3) := by decide +kernel
theorem dX8_leftAfter_122 : decode cX8_leftAfter 122 = .ok (.ireturn, 1) := by decide +kernel
theorem dX8_leftAfter_123 : decode cX8_leftAfter 123 = .ok (.aload_n 0, 1) := by decide +kernel
theorem dX8_leftAfter_124 : decode cX8_leftAfter 124 = .ok (.iload 4, 2) := by decide +kernel
theorem dX8_leftAfter_126 : decode cX8_leftAfter 126 = .ok (.iload 5, 2) := by decide +kernel
theorem dX8_leftAfter_128 : decode cX8_leftAfter 128 = .ok (.iload 5, 2) := by decide +kernel
theorem dX8_leftAfter_130 : decode cX8_leftAfter 130 = .ok (.iload_n 2, 1) := by decide +kernel
theorem dX8_leftAfter_131 : decode cX8_leftAfter 131 = .ok (.iload_n 2, 1) := by decide +kernel
theorem dX8_leftAfter_132 : decode cX8_leftAfter 132 = .ok (.iload_n 3, 1) := by decide +kernel
theorem dX8_leftAfter_133 : decode cX8_leftAfter 133 = .ok (.iadd, 1) := by decide +kernel
theorem dX8_leftAfter_134 : decode cX8_leftAfter 134 = .ok (.invokevirtual 89, 3) := by decide +kernel
theorem dX8_leftAfter_137 : decode cX8_leftAfter 137 = .ok (.ireturn, 1) := by decide +kernel
theorem dX8_leftAfter_138 : decode cX8_leftAfter 138 = .ok (.aload_n 0, 1) := by decide +kernel
theorem dX8_leftAfter_139 : decode cX8_leftAfter 139 = .ok (.iload 4, 2) := by decide +kernel
theorem dX8_leftAfter_141 : decode cX8_leftAfter 141 = .ok (.iload 5, 2) := by decide +kernel
theorem dX8_leftAfter_143 : decode cX8_leftAfter 143 = .ok (.bipush 100, 2) := by decide +kernel
theorem dX8_leftAfter_145 : decode cX8_leftAfter 145 = .ok (.iconst 2, 1) := by decide +kernel
theorem dX8_leftAfter_146 : decode cX8_leftAfter 146 = .ok (.iload 5, 2) := by decide +kernel
theorem dX8_leftAfter_148 : decode cX8_leftAfter 148 = .ok (.imul, 1) := by decide +kernel
theorem dX8_leftAfter_149 : decode cX8_leftAfter 149 = .ok (.invokestatic 93, 3) := by decide +kernel
theorem dX8_leftAfter_152 : decode cX8_leftAfter 152 = .ok (.iload_n 2, 1) := by decide +kernel
theorem dX8_leftAfter_153 : decode cX8_leftAfter 153 = .ok (.iload_n 2, 1) := by decide +kernel
theorem dX8_leftAfter_154 : decode cX8_leftAfter 154 = .ok (.iload_n 3, 1) := by decide +kernel
theorem dX8_leftAfter_155 : decode cX8_leftAfter 155 = .ok (.iadd, 1) := by decide +kernel
theorem dX8_leftAfter_156 : decode cX8_leftAfter 156 = .ok (.invokevirtual 89, 3) := by decide +kernel
theorem dX8_leftAfter_159 : decode cX8_leftAfter 159 = .ok (.ireturn, 1) := by decide +kernel
theorem dX8_leftAfter_160 : decode cX8_leftAfter 160 = .ok (.iload 4, 2) := by decide +kernel
theorem dX8_leftAfter_162 : decode cX8_leftAfter 162 = .ok (.ireturn, 1) := by decide +kernel
theorem dX8_minutesInWindow_0 : decode cX8_minutesInWindow 0 = .ok (.iconst 0, 1) := by decide +kernel
theorem dX8_minutesInWindow_1 : decode cX8_minutesInWindow 1 = .ok (.iload_n 2, 1) := by decide +kernel
theorem dX8_minutesInWindow_2 : decode cX8_minutesInWindow 2 = .ok (.aload_n 0, 1) := by decide +kernel
theorem dX8_minutesInWindow_3 : decode cX8_minutesInWindow 3 = .ok (.getfield 32, 3) := by decide +kernel
theorem dX8_minutesInWindow_6 : decode cX8_minutesInWindow 6 = .ok (.invokestatic 93, 3) := by decide +kernel
theorem dX8_minutesInWindow_9 : decode cX8_minutesInWindow 9 = .ok (.iload_n 1, 1) := by decide +kernel
theorem dX8_minutesInWindow_10 : decode cX8_minutesInWindow 10 = .ok (.aload_n 0, 1) := by decide +kernel
theorem dX8_minutesInWindow_11 : decode cX8_minutesInWindow 11 = .ok (.getfield 29, 3) := by decide +kernel
theorem dX8_minutesInWindow_14 : decode cX8_minutesInWindow 14 = .ok (.invokestatic 80, 3) := by decide +kernel
theorem dX8_minutesInWindow_17 : decode cX8_minutesInWindow 17 = .ok (.isub, 1) := by decide +kernel
theorem dX8_minutesInWindow_18 : decode cX8_minutesInWindow 18 = .ok (.iconst 1, 1) := by decide +kernel
theorem dX8_minutesInWindow_19 : decode cX8_minutesInWindow 19 = .ok (.iadd, 1) := by decide +kernel
theorem dX8_minutesInWindow_20 : decode cX8_minutesInWindow 20 = .ok (.invokestatic 80, 3) := by decide +kernel
theorem dX8_minutesInWindow_23 : decode cX8_minutesInWindow 23 = .ok (.ireturn, 1) := by decide +kernel
theorem dX8_inWindow_0 : decode cX8_inWindow 0 = .ok (.iload_n 1, 1) := by decide +kernel
theorem dX8_inWindow_1 : decode cX8_inWindow 1 = .ok (.aload_n 0, 1) := by decide +kernel
theorem dX8_inWindow_2 : decode cX8_inWindow 2 = .ok (.getfield 29, 3) := by decide +kernel
theorem dX8_inWindow_5 : decode cX8_inWindow 5 = .ok (.if_icmp .lt 15, 3) := by decide +kernel
theorem dX8_inWindow_8 : decode cX8_inWindow 8 = .ok (.iload_n 1, 1) := by decide +kernel
theorem dX8_inWindow_9 : decode cX8_inWindow 9 = .ok (.aload_n 0, 1) := by decide +kernel
theorem dX8_inWindow_10 : decode cX8_inWindow 10 = .ok (.getfield 32, 3) := by decide +kernel
theorem dX8_inWindow_13 : decode cX8_inWindow 13 = .ok (.if_icmp .gt 7, 3) := by decide +kernel
theorem dX8_inWindow_16 : decode cX8_inWindow 16 = .ok (.iconst 1, 1) := by decide +kernel
theorem dX8_inWindow_17 : decode cX8_inWindow 17 = .ok (.goto 4, 3) := by decide +kernel
theorem dX8_inWindow_20 : decode cX8_inWindow 20 = .ok (.iconst 0, 1) := by decide +kernel
theorem dX8_inWindow_21 : decode cX8_inWindow 21 = .ok (.ireturn, 1) := by decide +kernel
theorem dX8_nearing_0 : decode cX8_nearing 0 = .ok (.iload_n 1, 1) := by decide +kernel
theorem dX8_nearing_1 : decode cX8_nearing 1 = .ok (.istore 6, 2) := by decide +kernel
theorem dX8_nearing_3 : decode cX8_nearing 3 = .ok (.iload 4, 2) := by decide +kernel
theorem dX8_nearing_5 : decode cX8_nearing 5 = .ok (.istore 7, 2) := by decide +kernel
theorem dX8_nearing_7 : decode cX8_nearing 7 = .ok (.iload 7, 2) := by decide +kernel
theorem dX8_nearing_9 : decode cX8_nearing 9 = .ok (.iload 5, 2) := by decide +kernel
theorem dX8_nearing_11 : decode cX8_nearing 11 = .ok (.if_icmp .ge 57, 3) := by decide +kernel
theorem dX8_nearing_14 : decode cX8_nearing 14 = .ok (.aload_n 0, 1) := by decide +kernel
theorem dX8_nearing_15 : decode cX8_nearing 15 = .ok (.iload 6, 2) := by decide +kernel
theorem dX8_nearing_17 : decode cX8_nearing 17 = .ok (.aload_n 0, 1) := by decide +kernel
theorem dX8_nearing_18 : decode cX8_nearing 18 = .ok (.iload 7, 2) := by decide +kernel
theorem dX8_nearing_20 : decode cX8_nearing 20 = .ok (.invokevirtual 96, 3) := by decide +kernel
theorem dX8_nearing_23 : decode cX8_nearing 23 = .ok (.ifCond .eq 7, 3) := by decide +kernel
theorem dX8_nearing_26 : decode cX8_nearing 26 = .ok (.iload_n 3, 1) := by decide +kernel
theorem dX8_nearing_27 : decode cX8_nearing 27 = .ok (.goto 4, 3) := by decide +kernel
theorem dX8_nearing_30 : decode cX8_nearing 30 = .ok (.iload_n 2, 1) := by decide +kernel
theorem dX8_nearing_31 : decode cX8_nearing 31 = .ok (.invokevirtual 100, 3) := by decide +kernel
theorem dX8_nearing_34 : decode cX8_nearing 34 = .ok (.istore 8, 2) := by decide +kernel
theorem dX8_nearing_36 : decode cX8_nearing 36 = .ok (.iload 8, 2) := by decide +kernel
theorem dX8_nearing_38 : decode cX8_nearing 38 = .ok (.iload 6, 2) := by decide +kernel
theorem dX8_nearing_40 : decode cX8_nearing 40 = .ok (.if_icmp .ne 18, 3) := by decide +kernel
theorem dX8_nearing_43 : decode cX8_nearing 43 = .ok (.aload_n 0, 1) := by decide +kernel
theorem dX8_nearing_44 : decode cX8_nearing 44 = .ok (.iload 6, 2) := by decide +kernel
theorem dX8_nearing_46 : decode cX8_nearing 46 = .ok (.iload_n 3, 1) := by decide +kernel
theorem dX8_nearing_47 : decode cX8_nearing 47 = .ok (.invokevirtual 100, 3) := by decide +kernel
theorem dX8_nearing_50 : decode cX8_nearing 50 = .ok (.iload 6, 2) := by decide +kernel
theorem dX8_nearing_52 : decode cX8_nearing 52 = .ok (.if_icmp .ne 6, 3) := by decide +kernel
theorem dX8_nearing_55 : decode cX8_nearing 55 = .ok (.iload 6, 2) := by decide +kernel
theorem dX8_nearing_57 : decode cX8_nearing 57 = .ok (.ireturn, 1) := by decide +kernel
theorem dX8_nearing_58 : decode cX8_nearing 58 = .ok (.iload 8, 2) := by decide +kernel
theorem dX8_nearing_60 : decode cX8_nearing 60 = .ok (.istore 6, 2) := by decide +kernel
theorem dX8_nearing_62 : decode cX8_nearing 62 = .ok (.iinc 7 1, 3) := by decide +kernel
theorem dX8_nearing_65 : decode cX8_nearing 65 = .ok (.goto (-58), 3) := by decide +kernel
theorem dX8_nearing_68 : decode cX8_nearing 68 = .ok (.iload 6, 2) := by decide +kernel
theorem dX8_nearing_70 : decode cX8_nearing 70 = .ok (.ireturn, 1) := by decide +kernel
theorem dX8_nearer_0 : decode cX8_nearer 0 = .ok (.iload_n 1, 1) := by decide +kernel
theorem dX8_nearer_1 : decode cX8_nearer 1 = .ok (.aload_n 0, 1) := by decide +kernel
theorem dX8_nearer_2 : decode cX8_nearer 2 = .ok (.getfield 25, 3) := by decide +kernel
theorem dX8_nearer_5 : decode cX8_nearer 5 = .ok (.iload_n 1, 1) := by decide +kernel
theorem dX8_nearer_6 : decode cX8_nearer 6 = .ok (.isub, 1) := by decide +kernel
theorem dX8_nearer_7 : decode cX8_nearer 7 = .ok (.iload_n 2, 1) := by decide +kernel
theorem dX8_nearer_8 : decode cX8_nearer 8 = .ok (.imul, 1) := by decide +kernel
theorem dX8_nearer_9 : decode cX8_nearer 9 = .ok (.bipush 100, 2) := by decide +kernel
theorem dX8_nearer_11 : decode cX8_nearer 11 = .ok (.idiv, 1) := by decide +kernel
theorem dX8_nearer_12 : decode cX8_nearer 12 = .ok (.iadd, 1) := by decide +kernel
theorem dX8_nearer_13 : decode cX8_nearer 13 = .ok (.ireturn, 1) := by decide +kernel
theorem dX8_fillLefts_0 : decode cX8_fillLefts 0 = .ok (.aload_n 0, 1) := by decide +kernel
theorem dX8_fillLefts_1 : decode cX8_fillLefts 1 = .ok (.getfield 12, 3) := by decide +kernel
theorem dX8_fillLefts_4 : decode cX8_fillLefts 4 = .ok (.getfield 77, 3) := by decide +kernel
theorem dX8_fillLefts_7 : decode cX8_fillLefts 7 = .ok (.iload_n 1, 1) := by decide +kernel
theorem dX8_fillLefts_8 : decode cX8_fillLefts 8 = .ok (.invokestatic 70, 3) := by decide +kernel
theorem dX8_fillLefts_11 : decode cX8_fillLefts 11 = .ok (.iconst 1, 1) := by decide +kernel
theorem dX8_fillLefts_12 : decode cX8_fillLefts 12 = .ok (.if_icmp .ne 10, 3) := by decide +kernel
theorem dX8_fillLefts_15 : decode cX8_fillLefts 15 = .ok (.aload_n 0, 1) := by decide +kernel
theorem dX8_fillLefts_16 : decode cX8_fillLefts 16 = .ok (.iload_n 1, 1) := by decide +kernel
theorem dX8_fillLefts_17 : decode cX8_fillLefts 17 = .ok (.iload_n 2, 1) := by decide +kernel
theorem dX8_fillLefts_18 : decode cX8_fillLefts 18 = .ok (.invokevirtual 103, 3) := by decide +kernel
theorem dX8_fillLefts_21 : decode cX8_fillLefts 21 = .ok (.return_, 1) := by decide +kernel
theorem dX8_fillLefts_22 : decode cX8_fillLefts 22 = .ok (.iconst 0, 1) := by decide +kernel
theorem dX8_fillLefts_23 : decode cX8_fillLefts 23 = .ok (.istore_n 3, 1) := by decide +kernel
theorem dX8_fillLefts_24 : decode cX8_fillLefts 24 = .ok (.iload_n 3, 1) := by decide +kernel
theorem dX8_fillLefts_25 : decode cX8_fillLefts 25 = .ok (.iload_n 2, 1) := by decide +kernel
theorem dX8_fillLefts_26 : decode cX8_fillLefts 26 = .ok (.if_icmp .gt 33, 3) := by decide +kernel
theorem dX8_fillLefts_29 : decode cX8_fillLefts 29 = .ok (.iload_n 3, 1) := by decide +kernel
theorem dX8_fillLefts_30 : decode cX8_fillLefts 30 = .ok (.sipush 300, 3) := by decide +kernel
theorem dX8_fillLefts_33 : decode cX8_fillLefts 33 = .ok (.if_icmp .ge 26, 3) := by decide +kernel
theorem dX8_fillLefts_36 : decode cX8_fillLefts 36 = .ok (.aload_n 0, 1) := by decide +kernel
theorem dX8_fillLefts_37 : decode cX8_fillLefts 37 = .ok (.getfield 42, 3) := by decide +kernel
theorem dX8_fillLefts_40 : decode cX8_fillLefts 40 = .ok (.iload_n 3, 1) := by decide +kernel
theorem dX8_fillLefts_41 : decode cX8_fillLefts 41 = .ok (.aload_n 0, 1) := by decide +kernel
theorem dX8_fillLefts_42 : decode cX8_fillLefts 42 = .ok (.iload_n 1, 1) := by decide +kernel
theorem dX8_fillLefts_43 : decode cX8_fillLefts 43 = .ok (.iload_n 3, 1) := by decide +kernel
theorem dX8_fillLefts_44 : decode cX8_fillLefts 44 = .ok (.iload_n 2, 1) := by decide +kernel
theorem dX8_fillLefts_45 : decode cX8_fillLefts 45 = .ok (.iload_n 3, 1) := by decide +kernel
theorem dX8_fillLefts_46 : decode cX8_fillLefts 46 = .ok (.isub, 1) := by decide +kernel
theorem dX8_fillLefts_47 : decode cX8_fillLefts 47 = .ok (.invokevirtual 106, 3) := by decide +kernel
theorem dX8_fillLefts_50 : decode cX8_fillLefts 50 = .ok (.invokestatic 52, 3) := by decide +kernel
theorem dX8_fillLefts_53 : decode cX8_fillLefts 53 = .ok (.iinc 3 1, 3) := by decide +kernel
theorem dX8_fillLefts_56 : decode cX8_fillLefts 56 = .ok (.goto (-32), 3) := by decide +kernel
theorem dX8_fillLefts_59 : decode cX8_fillLefts 59 = .ok (.return_, 1) := by decide +kernel
theorem dX8_fillToward_0 : decode cX8_fillToward 0 = .ok (.aload_n 0, 1) := by decide +kernel
theorem dX8_fillToward_1 : decode cX8_fillToward 1 = .ok (.getfield 12, 3) := by decide +kernel
theorem dX8_fillToward_4 : decode cX8_fillToward 4 = .ok (.getfield 67, 3) := by decide +kernel
theorem dX8_fillToward_7 : decode cX8_fillToward 7 = .ok (.iload_n 1, 1) := by decide +kernel
theorem dX8_fillToward_8 : decode cX8_fillToward 8 = .ok (.invokestatic 70, 3) := by decide +kernel
theorem dX8_fillToward_11 : decode cX8_fillToward 11 = .ok (.istore_n 3, 1) := by decide +kernel
theorem dX8_fillToward_12 : decode cX8_fillToward 12 = .ok (.iload_n 2, 1) := by decide +kernel
theorem dX8_fillToward_13 : decode cX8_fillToward 13 = .ok (.istore 4, 2) := by decide +kernel
theorem dX8_fillToward_15 : decode cX8_fillToward 15 = .ok (.iload 4, 2) := by decide +kernel
theorem dX8_fillToward_17 : decode cX8_fillToward 17 = .ok (.ifCond .lt 36, 3) := by decide +kernel
theorem dX8_fillToward_20 : decode cX8_fillToward 20 = .ok (.aload_n 0, 1) := by decide +kernel
theorem dX8_fillToward_21 : decode cX8_fillToward 21 = .ok (.getfield 42, 3) := by decide +kernel
theorem dX8_fillToward_24 : decode cX8_fillToward 24 = .ok (.iload 4, 2) := by decide +kernel
theorem dX8_fillToward_26 : decode cX8_fillToward 26 = .ok (.iload_n 3, 1) := by decide +kernel
theorem dX8_fillToward_27 : decode cX8_fillToward 27 = .ok (.invokestatic 52, 3) := by decide +kernel
theorem dX8_fillToward_30 : decode cX8_fillToward 30 = .ok (.aload_n 0, 1) := by decide +kernel
theorem dX8_fillToward_31 : decode cX8_fillToward 31 = .ok (.iload_n 3, 1) := by decide +kernel
theorem dX8_fillToward_32 : decode cX8_fillToward 32 = .ok (.aload_n 0, 1) := by decide +kernel
theorem dX8_fillToward_33 : decode cX8_fillToward 33 = .ok (.getfield 12, 3) := by decide +kernel
theorem dX8_fillToward_36 : decode cX8_fillToward 36 = .ok (.getfield 74, 3) := by decide +kernel
theorem dX8_fillToward_39 : decode cX8_fillToward 39 = .ok (.iload_n 1, 1) := by decide +kernel
theorem dX8_fillToward_40 : decode cX8_fillToward 40 = .ok (.invokestatic 70, 3) := by decide +kernel
theorem dX8_fillToward_43 : decode cX8_fillToward 43 = .ok (.invokevirtual 100, 3) := by decide +kernel
theorem dX8_fillToward_46 : decode cX8_fillToward 46 = .ok (.istore_n 3, 1) := by decide +kernel
theorem dX8_fillToward_47 : decode cX8_fillToward 47 = .ok (.iinc 4 (-1), 3) := by decide +kernel
theorem dX8_fillToward_50 : decode cX8_fillToward 50 = .ok (.goto (-35), 3) := by decide +kernel
theorem dX8_fillToward_53 : decode cX8_fillToward 53 = .ok (.return_, 1) := by decide +kernel
theorem dX9_feed_0 : decode cX9_feed 0 = .ok (.iload_n 1, 1) := by decide +kernel
theorem dX9_feed_1 : decode cX9_feed 1 = .ok (.iconst 1, 1) := by decide +kernel
theorem dX9_feed_2 : decode cX9_feed 2 = .ok (.if_icmp .ge 10, 3) := by decide +kernel
theorem dX9_feed_5 : decode cX9_feed 5 = .ok (.aload_n 0, 1) := by decide +kernel
theorem dX9_feed_6 : decode cX9_feed 6 = .ok (.bipush (-4), 2) := by decide +kernel
theorem dX9_feed_8 : decode cX9_feed 8 = .ok (.invokevirtual 61, 3) := by decide +kernel
theorem dX9_feed_11 : decode cX9_feed 11 = .ok (.ireturn, 1) := by decide +kernel
theorem dX9_feed_12 : decode cX9_feed 12 = .ok (.iload_n 1, 1) := by decide +kernel
theorem dX9_feed_13 : decode cX9_feed 13 = .ok (.bipush 8, 2) := by decide +kernel
theorem dX9_feed_15 : decode cX9_feed 15 = .ok (.if_icmp .gt 17, 3) := by decide +kernel
theorem dX9_feed_18 : decode cX9_feed 18 = .ok (.aload_n 0, 1) := by decide +kernel
theorem dX9_feed_19 : decode cX9_feed 19 = .ok (.getfield 22, 3) := by decide +kernel
theorem dX9_feed_22 : decode cX9_feed 22 = .ok (.getfield 65, 3) := by decide +kernel
theorem dX9_feed_25 : decode cX9_feed 25 = .ok (.iload_n 1, 1) := by decide +kernel
theorem dX9_feed_26 : decode cX9_feed 26 = .ok (.iadd, 1) := by decide +kernel
theorem dX9_feed_27 : decode cX9_feed 27 = .ok (.bipush 20, 2) := by decide +kernel
theorem dX9_feed_29 : decode cX9_feed 29 = .ok (.if_icmp .le 10, 3) := by decide +kernel
theorem dX9_feed_32 : decode cX9_feed 32 = .ok (.aload_n 0, 1) := by decide +kernel
theorem dX9_feed_33 : decode cX9_feed 33 = .ok (.bipush (-6), 2) := by decide +kernel
theorem dX9_feed_35 : decode cX9_feed 35 = .ok (.invokevirtual 61, 3) := by decide +kernel
theorem dX9_feed_38 : decode cX9_feed 38 = .ok (.ireturn, 1) := by decide +kernel
theorem dX9_feed_39 : decode cX9_feed 39 = .ok (.aload_n 0, 1) := by decide +kernel
theorem dX9_feed_40 : decode cX9_feed 40 = .ok (.getfield 22, 3) := by decide +kernel
theorem dX9_feed_43 : decode cX9_feed 43 = .ok (.iload_n 1, 1) := by decide +kernel
theorem dX9_feed_44 : decode cX9_feed 44 = .ok (.lload_n 2, 1) := by decide +kernel
theorem dX9_feed_45 : decode cX9_feed 45 = .ok (.invokevirtual 69, 3) := by decide +kernel
theorem dX9_feed_48 : decode cX9_feed 48 = .ok (.ireturn, 1) := by decide +kernel
theorem dX9_thing_0 : decode cX9_thing 0 = .ok (.aload_n 0, 1) := by decide +kernel
theorem dX9_thing_1 : decode cX9_thing 1 = .ok (.getfield 12, 3) := by decide +kernel
theorem dX9_thing_4 : decode cX9_thing 4 = .ok (.getfield 73, 3) := by decide +kernel
theorem dX9_thing_7 : decode cX9_thing 7 = .ok (.getfield 77, 3) := by decide +kernel
theorem dX9_thing_10 : decode cX9_thing 10 = .ok (.bipush 6, 2) := by decide +kernel
theorem dX9_thing_12 : decode cX9_thing 12 = .ok (.if_icmp .lt 10, 3) := by decide +kernel
theorem dX9_thing_15 : decode cX9_thing 15 = .ok (.aload_n 0, 1) := by decide +kernel
theorem dX9_thing_16 : decode cX9_thing 16 = .ok (.bipush (-6), 2) := by decide +kernel
theorem dX9_thing_18 : decode cX9_thing 18 = .ok (.invokevirtual 61, 3) := by decide +kernel
theorem dX9_thing_21 : decode cX9_thing 21 = .ok (.ireturn, 1) := by decide +kernel
theorem dX9_thing_22 : decode cX9_thing 22 = .ok (.aload_n 0, 1) := by decide +kernel
theorem dX9_thing_23 : decode cX9_thing 23 = .ok (.getfield 22, 3) := by decide +kernel
theorem dX9_thing_26 : decode cX9_thing 26 = .ok (.invokevirtual 82, 3) := by decide +kernel
theorem dX9_thing_29 : decode cX9_thing 29 = .ok (.istore_n 1, 1) := by decide +kernel
theorem dX9_thing_30 : decode cX9_thing 30 = .ok (.aload_n 0, 1) := by decide +kernel
theorem dX9_thing_31 : decode cX9_thing 31 = .ok (.getfield 22, 3) := by decide +kernel
theorem dX9_thing_34 : decode cX9_thing 34 = .ok (.iconst 0, 1) := by decide +kernel
theorem dX9_thing_35 : decode cX9_thing 35 = .ok (.putfield 65, 3) := by decide +kernel
theorem dX9_thing_38 : decode cX9_thing 38 = .ok (.iload_n 1, 1) := by decide +kernel
theorem dX9_thing_39 : decode cX9_thing 39 = .ok (.ifCond .lt 8, 3) := by decide +kernel
theorem dX9_thing_42 : decode cX9_thing 42 = .ok (.bipush (-20), 2) := by decide +kernel
theorem dX9_thing_44 : decode cX9_thing 44 = .ok (.iload_n 1, 1) := by decide +kernel
theorem dX9_thing_45 : decode cX9_thing 45 = .ok (.isub, 1) := by decide +kernel
theorem dX9_thing_46 : decode cX9_thing 46 = .ok (.ireturn, 1) := by decide +kernel
theorem dX9_thing_47 : decode cX9_thing 47 = .ok (.aload_n 0, 1) := by decide +kernel
theorem dX9_thing_48 : decode cX9_thing 48 = .ok (.getfield 12, 3) := by decide +kernel
theorem dX9_thing_51 : decode cX9_thing 51 = .ok (.getfield 73, 3) := by decide +kernel
theorem dX9_thing_54 : decode cX9_thing 54 = .ok (.aload_n 0, 1) := by decide +kernel
theorem dX9_thing_55 : decode cX9_thing 55 = .ok (.getfield 22, 3) := by decide +kernel
theorem dX9_thing_58 : decode cX9_thing 58 = .ok (.getfield 86, 3) := by decide +kernel
theorem dX9_thing_61 : decode cX9_thing 61 = .ok (.aload_n 0, 1) := by decide +kernel
theorem dX9_thing_62 : decode cX9_thing 62 = .ok (.getfield 22, 3) := by decide +kernel
theorem dX9_thing_65 : decode cX9_thing 65 = .ok (.getfield 89, 3) := by decide +kernel
theorem dX9_thing_68 : decode cX9_thing 68 = .ok (.aload_n 0, 1) := by decide +kernel
theorem dX9_thing_69 : decode cX9_thing 69 = .ok (.getfield 22, 3) := by decide +kernel
theorem dX9_thing_72 : decode cX9_thing 72 = .ok (.getfield 92, 3) := by decide +kernel
theorem dX9_thing_75 : decode cX9_thing 75 = .ok (.invokevirtual 95, 3) := by decide +kernel
theorem dX9_thing_78 : decode cX9_thing 78 = .ok (.ireturn, 1) := by decide +kernel
theorem dX9_thingOf_0 : decode cX9_thingOf 0 = .ok (.aload_n 0, 1) := by decide +kernel
theorem dX9_thingOf_1 : decode cX9_thingOf 1 = .ok (.iload_n 1, 1) := by decide +kernel
theorem dX9_thingOf_2 : decode cX9_thingOf 2 = .ok (.invokevirtual 99, 3) := by decide +kernel
theorem dX9_thingOf_5 : decode cX9_thingOf 5 = .ok (.ifCond .ne 9, 3) := by decide +kernel
theorem dX9_thingOf_8 : decode cX9_thingOf 8 = .ok (.aload_n 0, 1) := by decide +kernel
theorem dX9_thingOf_9 : decode cX9_thingOf 9 = .ok (.iconst (-1), 1) := by decide +kernel
theorem dX9_thingOf_10 : decode cX9_thingOf 10 = .ok (.invokevirtual 61, 3) := by decide +kernel
theorem dX9_thingOf_13 : decode cX9_thingOf 13 = .ok (.ireturn, 1) := by decide +kernel
theorem dX9_thingOf_14 : decode cX9_thingOf 14 = .ok (.iload_n 2, 1) := by decide +kernel
theorem dX9_thingOf_15 : decode cX9_thingOf 15 = .ok (.tableswitch 70 0 2 #[25, 40, 55], 25) := by decide +kernel
theorem dX9_thingOf_40 : decode cX9_thingOf 40 = .ok (.aload_n 0, 1) := by decide +kernel
theorem dX9_thingOf_41 : decode cX9_thingOf 41 = .ok (.getfield 12, 3) := by decide +kernel
theorem dX9_thingOf_44 : decode cX9_thingOf 44 = .ok (.getfield 73, 3) := by decide +kernel
theorem dX9_thingOf_47 : decode cX9_thingOf 47 = .ok (.getfield 103, 3) := by decide +kernel
theorem dX9_thingOf_50 : decode cX9_thingOf 50 = .ok (.iload_n 1, 1) := by decide +kernel
theorem dX9_thingOf_51 : decode cX9_thingOf 51 = .ok (.invokestatic 105, 3) := by decide +kernel
theorem dX9_thingOf_54 : decode cX9_thingOf 54 = .ok (.ireturn, 1) := by decide +kernel
theorem dX9_thingOf_55 : decode cX9_thingOf 55 = .ok (.aload_n 0, 1) := by decide +kernel
theorem dX9_thingOf_56 : decode cX9_thingOf 56 = .ok (.getfield 12, 3) := by decide +kernel
theorem dX9_thingOf_59 : decode cX9_thingOf 59 = .ok (.getfield 73, 3) := by decide +kernel
theorem dX9_thingOf_62 : decode cX9_thingOf 62 = .ok (.getfield 109, 3) := by decide +kernel
theorem dX9_thingOf_65 : decode cX9_thingOf 65 = .ok (.iload_n 1, 1) := by decide +kernel
theorem dX9_thingOf_66 : decode cX9_thingOf 66 = .ok (.invokestatic 105, 3) := by decide +kernel
theorem dX9_thingOf_69 : decode cX9_thingOf 69 = .ok (.ireturn, 1) := by decide +kernel
theorem dX9_thingOf_70 : decode cX9_thingOf 70 = .ok (.aload_n 0, 1) := by decide +kernel
theorem dX9_thingOf_71 : decode cX9_thingOf 71 = .ok (.getfield 12, 3) := by decide +kernel
theorem dX9_thingOf_74 : decode cX9_thingOf 74 = .ok (.getfield 73, 3) := by decide +kernel
theorem dX9_thingOf_77 : decode cX9_thingOf 77 = .ok (.getfield 111, 3) := by decide +kernel
theorem dX9_thingOf_80 : decode cX9_thingOf 80 = .ok (.iload_n 1, 1) := by decide +kernel
theorem dX9_thingOf_81 : decode cX9_thingOf 81 = .ok (.invokestatic 105, 3) := by decide +kernel
theorem dX9_thingOf_84 : decode cX9_thingOf 84 = .ok (.ireturn, 1) := by decide +kernel
theorem dX9_thingOf_85 : decode cX9_thingOf 85 = .ok (.aload_n 0, 1) := by decide +kernel
theorem dX9_thingOf_86 : decode cX9_thingOf 86 = .ok (.bipush (-2), 2) := by decide +kernel
theorem dX9_thingOf_88 : decode cX9_thingOf 88 = .ok (.invokevirtual 61, 3) := by decide +kernel
theorem dX9_thingOf_91 : decode cX9_thingOf 91 = .ok (.ireturn, 1) := by decide +kernel
theorem dX9_room_0 : decode cX9_room 0 = .ok (.iload_n 1, 1) := by decide +kernel
theorem dX9_room_1 : decode cX9_room 1 = .ok (.ifCond .ge 10, 3) := by decide +kernel
theorem dX9_room_4 : decode cX9_room 4 = .ok (.aload_n 0, 1) := by decide +kernel
theorem dX9_room_5 : decode cX9_room 5 = .ok (.bipush (-4), 2) := by decide +kernel
theorem dX9_room_7 : decode cX9_room 7 = .ok (.invokevirtual 61, 3) := by decide +kernel
theorem dX9_room_10 : decode cX9_room 10 = .ok (.ireturn, 1) := by decide +kernel
theorem dX9_room_11 : decode cX9_room 11 = .ok (.iload_n 1, 1) := by decide +kernel
theorem dX9_room_12 : decode cX9_room 12 = .ok (.sipush 9999, 3) := by decide +kernel
theorem dX9_room_15 : decode cX9_room 15 = .ok (.if_icmp .le 10, 3) := by decide +kernel
theorem dX9_room_18 : decode cX9_room 18 = .ok (.aload_n 0, 1) := by decide +kernel
theorem dX9_room_19 : decode cX9_room 19 = .ok (.bipush (-6), 2) := by decide +kernel
theorem dX9_room_21 : decode cX9_room 21 = .ok (.invokevirtual 61, 3) := by decide +kernel
theorem dX9_room_24 : decode cX9_room 24 = .ok (.ireturn, 1) := by decide +kernel
theorem dX9_room_25 : decode cX9_room 25 = .ok (.aload_n 0, 1) := by decide +kernel
theorem dX9_room_26 : decode cX9_room 26 = .ok (.getfield 12, 3) := by decide +kernel
theorem dX9_room_29 : decode cX9_room 29 = .ok (.getfield 113, 3) := by decide +kernel
theorem dX9_room_32 : decode cX9_room 32 = .ok (.istore_n 2, 1) := by decide +kernel
theorem dX9_room_33 : decode cX9_room 33 = .ok (.aload_n 0, 1) := by decide +kernel
theorem dX9_room_34 : decode cX9_room 34 = .ok (.getfield 12, 3) := by decide +kernel
theorem dX9_room_37 : decode cX9_room 37 = .ok (.iload_n 1, 1) := by decide +kernel
theorem dX9_room_38 : decode cX9_room 38 = .ok (.putfield 113, 3) := by decide +kernel
theorem dX9_room_41 : decode cX9_room 41 = .ok (.aload_n 0, 1) := by decide +kernel
theorem dX9_room_42 : decode cX9_room 42 = .ok (.getfield 36, 3) := by decide +kernel
theorem dX9_room_45 : decode cX9_room 45 = .ok (.invokevirtual 116, 3) := by decide +kernel
theorem dX9_room_48 : decode cX9_room 48 = .ok (.iload_n 2, 1) := by decide +kernel
theorem dX9_room_49 : decode cX9_room 49 = .ok (.ireturn, 1) := by decide +kernel
theorem dX9_window_0 : decode cX9_window 0 = .ok (.iload_n 1, 1) := by decide +kernel
theorem dX9_window_1 : decode cX9_window 1 = .ok (.iconst (-1), 1) := by decide +kernel
theorem dX9_window_2 : decode cX9_window 2 = .ok (.if_icmp .ne 19, 3) := by decide +kernel
theorem dX9_window_5 : decode cX9_window 5 = .ok (.aload_n 0, 1) := by decide +kernel
theorem dX9_window_6 : decode cX9_window 6 = .ok (.getfield 12, 3) := by decide +kernel
theorem dX9_window_9 : decode cX9_window 9 = .ok (.invokevirtual 119, 3) := by decide +kernel
theorem dX9_window_12 : decode cX9_window 12 = .ok (.aload_n 0, 1) := by decide +kernel
theorem dX9_window_13 : decode cX9_window 13 = .ok (.getfield 36, 3) := by decide +kernel
theorem dX9_window_16 : decode cX9_window 16 = .ok (.invokevirtual 116, 3) := by decide +kernel
theorem dX9_window_19 : decode cX9_window 19 = .ok (.iconst 1, 1) := by decide +kernel
theorem dX9_window_20 : decode cX9_window 20 = .ok (.ireturn, 1) := by decide +kernel
theorem dX9_window_21 : decode cX9_window 21 = .ok (.iload_n 1, 1) := by decide +kernel
theorem dX9_window_22 : decode cX9_window 22 = .ok (.ifCond .lt 8, 3) := by decide +kernel
theorem dX9_window_25 : decode cX9_window 25 = .ok (.iload_n 2, 1) := by decide +kernel
theorem dX9_window_26 : decode cX9_window 26 = .ok (.iload_n 1, 1) := by decide +kernel
theorem dX9_window_27 : decode cX9_window 27 = .ok (.if_icmp .ge 10, 3) := by decide +kernel
theorem dX9_window_30 : decode cX9_window 30 = .ok (.aload_n 0, 1) := by decide +kernel
theorem dX9_window_31 : decode cX9_window 31 = .ok (.bipush (-4), 2) := by decide +kernel
theorem dX9_window_33 : decode cX9_window 33 = .ok (.invokevirtual 61, 3) := by decide +kernel
theorem dX9_window_36 : decode cX9_window 36 = .ok (.ireturn, 1) := by decide +kernel
theorem dX9_window_37 : decode cX9_window 37 = .ok (.iload_n 2, 1) := by decide +kernel
theorem dX9_window_38 : decode cX9_window 38 = .ok (.sipush 299, 3) := by decide +kernel
theorem dX9_window_41 : decode cX9_window 41 = .ok (.if_icmp .le 10, 3) := by decide +kernel
theorem dX9_window_44 : decode cX9_window 44 = .ok (.aload_n 0, 1) := by decide +kernel
theorem dX9_window_45 : decode cX9_window 45 = .ok (.bipush (-6), 2) := by decide +kernel
theorem dX9_window_47 : decode cX9_window 47 = .ok (.invokevirtual 61, 3) := by decide +kernel
theorem dX9_window_50 : decode cX9_window 50 = .ok (.ireturn, 1) := by decide +kernel
theorem dX9_window_51 : decode cX9_window 51 = .ok (.aload_n 0, 1) := by decide +kernel
theorem dX9_window_52 : decode cX9_window 52 = .ok (.getfield 12, 3) := by decide +kernel
theorem dX9_window_55 : decode cX9_window 55 = .ok (.iload_n 1, 1) := by decide +kernel
theorem dX9_window_56 : decode cX9_window 56 = .ok (.iload_n 2, 1) := by decide +kernel
theorem dX9_window_57 : decode cX9_window 57 = .ok (.invokevirtual 122, 3) := by decide +kernel
theorem dX9_window_60 : decode cX9_window 60 = .ok (.aload_n 0, 1) := by decide +kernel
theorem dX9_window_61 : decode cX9_window 61 = .ok (.getfield 36, 3) := by decide +kernel
theorem dX9_window_64 : decode cX9_window 64 = .ok (.invokevirtual 116, 3) := by decide +kernel
theorem dX9_window_67 : decode cX9_window 67 = .ok (.iconst 1, 1) := by decide +kernel
theorem dX9_window_68 : decode cX9_window 68 = .ok (.ireturn, 1) := by decide +kernel
theorem dX9_candidate_0 : decode cX9_candidate 0 = .ok (.iload_n 1, 1) := by decide +kernel
theorem dX9_candidate_1 : decode cX9_candidate 1 = .ok (.ifCond .lt 8, 3) := by decide +kernel
theorem dX9_candidate_4 : decode cX9_candidate 4 = .ok (.iload_n 2, 1) := by decide +kernel
theorem dX9_candidate_5 : decode cX9_candidate 5 = .ok (.iload_n 1, 1) := by decide +kernel
theorem dX9_candidate_6 : decode cX9_candidate 6 = .ok (.if_icmp .ge 10, 3) := by decide +kernel
theorem dX9_candidate_9 : decode cX9_candidate 9 = .ok (.aload_n 0, 1) := by decide +kernel
theorem dX9_candidate_10 : decode cX9_candidate 10 = .ok (.bipush (-4), 2) := by decide +kernel
theorem dX9_candidate_12 : decode cX9_candidate 12 = .ok (.invokevirtual 61, 3) := by decide +kernel
theorem dX9_candidate_15 : decode cX9_candidate 15 = .ok (.ireturn, 1) := by decide +kernel
theorem dX9_candidate_16 : decode cX9_candidate 16 = .ok (.iload_n 2, 1) := by decide +kernel
theorem dX9_candidate_17 : decode cX9_candidate 17 = .ok (.sipush 299, 3) := by decide +kernel
theorem dX9_candidate_20 : decode cX9_candidate 20 = .ok (.if_icmp .gt 14, 3) := by decide +kernel
theorem dX9_candidate_23 : decode cX9_candidate 23 = .ok (.aload_n 0, 1) := by decide +kernel
theorem dX9_candidate_24 : decode cX9_candidate 24 = .ok (.getfield 12, 3) := by decide +kernel
theorem dX9_candidate_27 : decode cX9_candidate 27 = .ok (.getfield 126, 3) := by decide +kernel
theorem dX9_candidate_30 : decode cX9_candidate 30 = .ok (.iconst 4, 1) := by decide +kernel
theorem dX9_candidate_31 : decode cX9_candidate 31 = .ok (.if_icmp .lt 10, 3) := by decide +kernel
theorem dX9_candidate_34 : decode cX9_candidate 34 = .ok (.aload_n 0, 1) := by decide +kernel
theorem dX9_candidate_35 : decode cX9_candidate 35 = .ok (.bipush (-6), 2) := by decide +kernel
theorem dX9_candidate_37 : decode cX9_candidate 37 = .ok (.invokevirtual 61, 3) := by decide +kernel
theorem dX9_candidate_40 : decode cX9_candidate 40 = .ok (.ireturn, 1) := by decide +kernel
theorem dX9_candidate_41 : decode cX9_candidate 41 = .ok (.aload_n 0, 1) := by decide +kernel
theorem dX9_candidate_42 : decode cX9_candidate 42 = .ok (.getfield 12, 3) := by decide +kernel
theorem dX9_candidate_45 : decode cX9_candidate 45 = .ok (.iload_n 1, 1) := by decide +kernel
theorem dX9_candidate_46 : decode cX9_candidate 46 = .ok (.iload_n 2, 1) := by decide +kernel
theorem dX9_candidate_47 : decode cX9_candidate 47 = .ok (.invokevirtual 129, 3) := by decide +kernel
theorem dX9_candidate_50 : decode cX9_candidate 50 = .ok (.ireturn, 1) := by decide +kernel
theorem dX9_left_0 : decode cX9_left 0 = .ok (.aload_n 0, 1) := by decide +kernel
theorem dX9_left_1 : decode cX9_left 1 = .ok (.iload_n 1, 1) := by decide +kernel
theorem dX9_left_2 : decode cX9_left 2 = .ok (.invokevirtual 99, 3) := by decide +kernel
theorem dX9_left_5 : decode cX9_left 5 = .ok (.ifCond .ne 9, 3) := by decide +kernel
theorem dX9_left_8 : decode cX9_left 8 = .ok (.aload_n 0, 1) := by decide +kernel
theorem dX9_left_9 : decode cX9_left 9 = .ok (.iconst (-1), 1) := by decide +kernel
theorem dX9_left_10 : decode cX9_left 10 = .ok (.invokevirtual 61, 3) := by decide +kernel
theorem dX9_left_13 : decode cX9_left 13 = .ok (.ireturn, 1) := by decide +kernel
theorem dX9_left_14 : decode cX9_left 14 = .ok (.iload_n 2, 1) := by decide +kernel
theorem dX9_left_15 : decode cX9_left 15 = .ok (.ifCond .lt 7, 3) := by decide +kernel
theorem dX9_left_18 : decode cX9_left 18 = .ok (.iload_n 3, 1) := by decide +kernel
theorem dX9_left_19 : decode cX9_left 19 = .ok (.ifCond .ge 10, 3) := by decide +kernel
theorem dX9_left_22 : decode cX9_left 22 = .ok (.aload_n 0, 1) := by decide +kernel
theorem dX9_left_23 : decode cX9_left 23 = .ok (.bipush (-4), 2) := by decide +kernel
theorem dX9_left_25 : decode cX9_left 25 = .ok (.invokevirtual 61, 3) := by decide +kernel
theorem dX9_left_28 : decode cX9_left 28 = .ok (.ireturn, 1) := by decide +kernel
theorem dX9_left_29 : decode cX9_left 29 = .ok (.iload_n 2, 1) := by decide +kernel
theorem dX9_left_30 : decode cX9_left 30 = .ok (.sipush 299, 3) := by decide +kernel
theorem dX9_left_33 : decode cX9_left 33 = .ok (.if_icmp .gt 10, 3) := by decide +kernel
theorem dX9_left_36 : decode cX9_left 36 = .ok (.iload_n 3, 1) := by decide +kernel
theorem dX9_left_37 : decode cX9_left 37 = .ok (.sipush 299, 3) := by decide +kernel
theorem dX9_left_40 : decode cX9_left 40 = .ok (.if_icmp .le 10, 3) := by decide +kernel
theorem dX9_left_43 : decode cX9_left 43 = .ok (.aload_n 0, 1) := by decide +kernel
theorem dX9_left_44 : decode cX9_left 44 = .ok (.bipush (-6), 2) := by decide +kernel
theorem dX9_left_46 : decode cX9_left 46 = .ok (.invokevirtual 61, 3) := by decide +kernel
theorem dX9_left_49 : decode cX9_left 49 = .ok (.ireturn, 1) := by decide +kernel
theorem dX9_left_50 : decode cX9_left 50 = .ok (.aload_n 0, 1) := by decide +kernel
theorem dX9_left_51 : decode cX9_left 51 = .ok (.getfield 12, 3) := by decide +kernel
theorem dX9_left_54 : decode cX9_left 54 = .ok (.iload_n 1, 1) := by decide +kernel
theorem dX9_left_55 : decode cX9_left 55 = .ok (.iload_n 2, 1) := by decide +kernel
theorem dX9_left_56 : decode cX9_left 56 = .ok (.iload_n 3, 1) := by decide +kernel
theorem dX9_left_57 : decode cX9_left 57 = .ok (.invokevirtual 133, 3) := by decide +kernel
theorem dX9_left_60 : decode cX9_left 60 = .ok (.ireturn, 1) := by decide +kernel
theorem dX9_look_0 : decode cX9_look 0 = .ok (.aload_n 0, 1) := by decide +kernel
theorem dX9_look_1 : decode cX9_look 1 = .ok (.iload_n 1, 1) := by decide +kernel
theorem dX9_look_2 : decode cX9_look 2 = .ok (.invokevirtual 99, 3) := by decide +kernel
theorem dX9_look_5 : decode cX9_look 5 = .ok (.ifCond .ne 9, 3) := by decide +kernel
theorem dX9_look_8 : decode cX9_look 8 = .ok (.aload_n 0, 1) := by decide +kernel
theorem dX9_look_9 : decode cX9_look 9 = .ok (.iconst (-1), 1) := by decide +kernel
theorem dX9_look_10 : decode cX9_look 10 = .ok (.invokevirtual 61, 3) := by decide +kernel
theorem dX9_look_13 : decode cX9_look 13 = .ok (.ireturn, 1) := by decide +kernel
theorem dX9_look_14 : decode cX9_look 14 = .ok (.iload_n 2, 1) := by decide +kernel
theorem dX9_look_15 : decode cX9_look 15 = .ok (.ifCond .lt 13, 3) := by decide +kernel
theorem dX9_look_18 : decode cX9_look 18 = .ok (.iload_n 3, 1) := by decide +kernel
theorem dX9_look_19 : decode cX9_look 19 = .ok (.ifCond .lt 9, 3) := by decide +kernel
theorem dX9_look_22 : decode cX9_look 22 = .ok (.iload 4, 2) := by decide +kernel
theorem dX9_look_24 : decode cX9_look 24 = .ok (.iload_n 3, 1) := by decide +kernel
theorem dX9_look_25 : decode cX9_look 25 = .ok (.if_icmp .ge 10, 3) := by decide +kernel
theorem dX9_look_28 : decode cX9_look 28 = .ok (.aload_n 0, 1) := by decide +kernel
theorem dX9_look_29 : decode cX9_look 29 = .ok (.bipush (-4), 2) := by decide +kernel
theorem dX9_look_31 : decode cX9_look 31 = .ok (.invokevirtual 61, 3) := by decide +kernel
theorem dX9_look_34 : decode cX9_look 34 = .ok (.ireturn, 1) := by decide +kernel
theorem dX9_look_35 : decode cX9_look 35 = .ok (.iload_n 2, 1) := by decide +kernel
theorem dX9_look_36 : decode cX9_look 36 = .ok (.sipush 299, 3) := by decide +kernel
theorem dX9_look_39 : decode cX9_look 39 = .ok (.if_icmp .gt 26, 3) := by decide +kernel
theorem dX9_look_42 : decode cX9_look 42 = .ok (.iload 4, 2) := by decide +kernel
theorem dX9_look_44 : decode cX9_look 44 = .ok (.sipush 9999, 3) := by decide +kernel
theorem dX9_look_47 : decode cX9_look 47 = .ok (.if_icmp .gt 18, 3) := by decide +kernel
theorem dX9_look_50 : decode cX9_look 50 = .ok (.aload_n 0, 1) := by decide +kernel
theorem dX9_look_51 : decode cX9_look 51 = .ok (.getfield 12, 3) := by decide +kernel
theorem dX9_look_54 : decode cX9_look 54 = .ok (.getfield 136, 3) := by decide +kernel
theorem dX9_look_57 : decode cX9_look 57 = .ok (.getfield 140, 3) := by decide +kernel
theorem dX9_look_60 : decode cX9_look 60 = .ok (.bipush 10, 2) := by decide +kernel
theorem dX9_look_62 : decode cX9_look 62 = .ok (.if_icmp .lt 10, 3) := by decide +kernel
theorem dX9_look_65 : decode cX9_look 65 = .ok (.aload_n 0, 1) := by decide +kernel
theorem dX9_look_66 : decode cX9_look 66 = .ok (.bipush (-6), 2) := by decide +kernel
theorem dX9_look_68 : decode cX9_look 68 = .ok (.invokevirtual 61, 3) := by decide +kernel
theorem dX9_look_71 : decode cX9_look 71 = .ok (.ireturn, 1) := by decide +kernel
theorem dX9_look_72 : decode cX9_look 72 = .ok (.aload_n 0, 1) := by decide +kernel
theorem dX9_look_73 : decode cX9_look 73 = .ok (.getfield 12, 3) := by decide +kernel
theorem dX9_look_76 : decode cX9_look 76 = .ok (.getfield 136, 3) := by decide +kernel
theorem dX9_look_79 : decode cX9_look 79 = .ok (.iload_n 1, 1) := by decide +kernel
theorem dX9_look_80 : decode cX9_look 80 = .ok (.iload_n 2, 1) := by decide +kernel
theorem dX9_look_81 : decode cX9_look 81 = .ok (.iload_n 3, 1) := by decide +kernel
theorem dX9_look_82 : decode cX9_look 82 = .ok (.iload 4, 2) := by decide +kernel
theorem dX9_look_84 : decode cX9_look 84 = .ok (.invokevirtual 143, 3) := by decide +kernel
theorem dX9_look_87 : decode cX9_look 87 = .ok (.ireturn, 1) := by decide +kernel
theorem dX9_doubt_0 : decode cX9_doubt 0 = .ok (.iload_n 1, 1) := by decide +kernel
theorem dX9_doubt_1 : decode cX9_doubt 1 = .ok (.ifCond .lt 17, 3) := by decide +kernel
theorem dX9_doubt_4 : decode cX9_doubt 4 = .ok (.iload_n 1, 1) := by decide +kernel
theorem dX9_doubt_5 : decode cX9_doubt 5 = .ok (.aload_n 0, 1) := by decide +kernel
theorem dX9_doubt_6 : decode cX9_doubt 6 = .ok (.getfield 12, 3) := by decide +kernel
theorem dX9_doubt_9 : decode cX9_doubt 9 = .ok (.getfield 136, 3) := by decide +kernel
theorem dX9_doubt_12 : decode cX9_doubt 12 = .ok (.getfield 140, 3) := by decide +kernel
theorem dX9_doubt_15 : decode cX9_doubt 15 = .ok (.if_icmp .lt 9, 3) := by decide +kernel
theorem dX9_doubt_18 : decode cX9_doubt 18 = .ok (.aload_n 0, 1) := by decide +kernel
theorem dX9_doubt_19 : decode cX9_doubt 19 = .ok (.iconst (-1), 1) := by decide +kernel
theorem dX9_doubt_20 : decode cX9_doubt 20 = .ok (.invokevirtual 61, 3) := by decide +kernel
theorem dX9_doubt_23 : decode cX9_doubt 23 = .ok (.ireturn, 1) := by decide +kernel
theorem dX9_doubt_24 : decode cX9_doubt 24 = .ok (.aload_n 0, 1) := by decide +kernel
theorem dX9_doubt_25 : decode cX9_doubt 25 = .ok (.getfield 12, 3) := by decide +kernel
theorem dX9_doubt_28 : decode cX9_doubt 28 = .ok (.getfield 136, 3) := by decide +kernel
theorem dX9_doubt_31 : decode cX9_doubt 31 = .ok (.iload_n 1, 1) := by decide +kernel
theorem dX9_doubt_32 : decode cX9_doubt 32 = .ok (.iload_n 2, 1) := by decide +kernel
theorem dX9_doubt_33 : decode cX9_doubt 33 = .ok (.invokevirtual 146, 3) := by decide +kernel
theorem dX9_doubt_36 : decode cX9_doubt 36 = .ok (.ifCond .eq 7, 3) := by decide +kernel
theorem dX9_doubt_39 : decode cX9_doubt 39 = .ok (.iconst 1, 1) := by decide +kernel
theorem dX9_doubt_40 : decode cX9_doubt 40 = .ok (.goto 4, 3) := by decide +kernel
theorem dX9_doubt_43 : decode cX9_doubt 43 = .ok (.iconst 0, 1) := by decide +kernel
theorem dX9_doubt_44 : decode cX9_doubt 44 = .ok (.ireturn, 1) := by decide +kernel
theorem dX9_join_0 : decode cX9_join 0 = .ok (.aload_n 0, 1) := by decide +kernel
theorem dX9_join_1 : decode cX9_join 1 = .ok (.iload_n 1, 1) := by decide +kernel
theorem dX9_join_2 : decode cX9_join 2 = .ok (.invokevirtual 99, 3) := by decide +kernel
theorem dX9_join_5 : decode cX9_join 5 = .ok (.ifCond .eq 13, 3) := by decide +kernel
theorem dX9_join_8 : decode cX9_join 8 = .ok (.iload_n 2, 1) := by decide +kernel
theorem dX9_join_9 : decode cX9_join 9 = .ok (.iconst (-1), 1) := by decide +kernel
theorem dX9_join_10 : decode cX9_join 10 = .ok (.if_icmp .lt 8, 3) := by decide +kernel
theorem dX9_join_13 : decode cX9_join 13 = .ok (.iload_n 2, 1) := by decide +kernel
theorem dX9_join_14 : decode cX9_join 14 = .ok (.iload_n 1, 1) := by decide +kernel
theorem dX9_join_15 : decode cX9_join 15 = .ok (.if_icmp .lt 9, 3) := by decide +kernel
theorem dX9_join_18 : decode cX9_join 18 = .ok (.aload_n 0, 1) := by decide +kernel
theorem dX9_join_19 : decode cX9_join 19 = .ok (.iconst (-1), 1) := by decide +kernel
theorem dX9_join_20 : decode cX9_join 20 = .ok (.invokevirtual 61, 3) := by decide +kernel
theorem dX9_join_23 : decode cX9_join 23 = .ok (.ireturn, 1) := by decide +kernel
theorem dX9_join_24 : decode cX9_join 24 = .ok (.iload_n 2, 1) := by decide +kernel
theorem dX9_join_25 : decode cX9_join 25 = .ok (.iconst (-1), 1) := by decide +kernel
theorem dX9_join_26 : decode cX9_join 26 = .ok (.if_icmp .ne 18, 3) := by decide +kernel
theorem dX9_join_29 : decode cX9_join 29 = .ok (.aload_n 0, 1) := by decide +kernel
theorem dX9_join_30 : decode cX9_join 30 = .ok (.getfield 12, 3) := by decide +kernel
theorem dX9_join_33 : decode cX9_join 33 = .ok (.getfield 73, 3) := by decide +kernel
theorem dX9_join_36 : decode cX9_join 36 = .ok (.iload_n 1, 1) := by decide +kernel
theorem dX9_join_37 : decode cX9_join 37 = .ok (.iconst (-1), 1) := by decide +kernel
theorem dX9_join_38 : decode cX9_join 38 = .ok (.iconst 0, 1) := by decide +kernel
theorem dX9_join_39 : decode cX9_join 39 = .ok (.iconst 0, 1) := by decide +kernel
theorem dX9_join_40 : decode cX9_join 40 = .ok (.invokevirtual 150, 3) := by decide +kernel
theorem dX9_join_43 : decode cX9_join 43 = .ok (.ireturn, 1) := by decide +kernel
theorem dX9_join_44 : decode cX9_join 44 = .ok (.iload_n 3, 1) := by decide +kernel
theorem dX9_join_45 : decode cX9_join 45 = .ok (.ifCond .lt 8, 3) := by decide +kernel
theorem dX9_join_48 : decode cX9_join 48 = .ok (.iload_n 3, 1) := by decide +kernel
theorem dX9_join_49 : decode cX9_join 49 = .ok (.iconst 3, 1) := by decide +kernel
theorem dX9_join_50 : decode cX9_join 50 = .ok (.if_icmp .le 10, 3) := by decide +kernel
theorem dX9_join_53 : decode cX9_join 53 = .ok (.aload_n 0, 1) := by decide +kernel
theorem dX9_join_54 : decode cX9_join 54 = .ok (.bipush (-2), 2) := by decide +kernel
theorem dX9_join_56 : decode cX9_join 56 = .ok (.invokevirtual 61, 3) := by decide +kernel
theorem dX9_join_59 : decode cX9_join 59 = .ok (.ireturn, 1) := by decide +kernel
theorem dX9_join_60 : decode cX9_join 60 = .ok (.iload 4, 2) := by decide +kernel
theorem dX9_join_62 : decode cX9_join 62 = .ok (.invokestatic 153, 3) := by decide +kernel
theorem dX9_join_65 : decode cX9_join 65 = .ok (.istore 5, 2) := by decide +kernel
theorem dX9_join_67 : decode cX9_join 67 = .ok (.iload 5, 2) := by decide +kernel
theorem dX9_join_69 : decode cX9_join 69 = .ok (.ifCond .ge 12, 3) := by decide +kernel
theorem dX9_join_72 : decode cX9_join 72 = .ok (.aload_n 0, 1) := by decide +kernel
theorem dX9_join_73 : decode cX9_join 73 = .ok (.iload 5, 2) := by decide +kernel
theorem dX9_join_75 : decode cX9_join 75 = .ok (.invokevirtual 61, 3) := by decide +kernel
theorem dX9_join_78 : decode cX9_join 78 = .ok (.goto 18, 3) := by decide +kernel
theorem dX9_join_81 : decode cX9_join 81 = .ok (.aload_n 0, 1) := by decide +kernel
theorem dX9_join_82 : decode cX9_join 82 = .ok (.getfield 12, 3) := by decide +kernel
theorem dX9_join_85 : decode cX9_join 85 = .ok (.getfield 73, 3) := by decide +kernel
theorem dX9_join_88 : decode cX9_join 88 = .ok (.iload_n 1, 1) := by decide +kernel
theorem dX9_join_89 : decode cX9_join 89 = .ok (.iload_n 2, 1) := by decide +kernel
theorem dX9_join_90 : decode cX9_join 90 = .ok (.iload_n 3, 1) := by decide +kernel
theorem dX9_join_91 : decode cX9_join 91 = .ok (.iload 4, 2) := by decide +kernel
theorem dX9_join_93 : decode cX9_join 93 = .ok (.invokevirtual 150, 3) := by decide +kernel
theorem dX9_join_96 : decode cX9_join 96 = .ok (.ireturn, 1) := by decide +kernel
theorem dX9_alone_0 : decode cX9_alone 0 = .ok (.aload_n 0, 1) := by decide +kernel
theorem dX9_alone_1 : decode cX9_alone 1 = .ok (.iload_n 1, 1) := by decide +kernel
theorem dX9_alone_2 : decode cX9_alone 2 = .ok (.invokevirtual 99, 3) := by decide +kernel
theorem dX9_alone_5 : decode cX9_alone 5 = .ok (.ifCond .ne 9, 3) := by decide +kernel
theorem dX9_alone_8 : decode cX9_alone 8 = .ok (.aload_n 0, 1) := by decide +kernel
theorem dX9_alone_9 : decode cX9_alone 9 = .ok (.iconst (-1), 1) := by decide +kernel
theorem dX9_alone_10 : decode cX9_alone 10 = .ok (.invokevirtual 61, 3) := by decide +kernel
theorem dX9_alone_13 : decode cX9_alone 13 = .ok (.ireturn, 1) := by decide +kernel
theorem dX9_alone_14 : decode cX9_alone 14 = .ok (.aload_n 0, 1) := by decide +kernel
theorem dX9_alone_15 : decode cX9_alone 15 = .ok (.getfield 36, 3) := by decide +kernel
theorem dX9_alone_18 : decode cX9_alone 18 = .ok (.aload_n 0, 1) := by decide +kernel
theorem dX9_alone_19 : decode cX9_alone 19 = .ok (.getfield 12, 3) := by decide +kernel
theorem dX9_alone_22 : decode cX9_alone 22 = .ok (.invokevirtual 156, 3) := by decide +kernel
theorem dX9_alone_25 : decode cX9_alone 25 = .ok (.iconst 0, 1) := by decide +kernel
theorem dX9_alone_26 : decode cX9_alone 26 = .ok (.istore_n 2, 1) := by decide +kernel
theorem dX9_alone_27 : decode cX9_alone 27 = .ok (.iconst 0, 1) := by decide +kernel
theorem dX9_alone_28 : decode cX9_alone 28 = .ok (.istore_n 3, 1) := by decide +kernel
theorem dX9_alone_29 : decode cX9_alone 29 = .ok (.iload_n 3, 1) := by decide +kernel
theorem dX9_alone_30 : decode cX9_alone 30 = .ok (.sipush 300, 3) := by decide +kernel
theorem dX9_alone_33 : decode cX9_alone 33 = .ok (.if_icmp .ge 28, 3) := by decide +kernel
theorem dX9_alone_36 : decode cX9_alone 36 = .ok (.aload_n 0, 1) := by decide +kernel
theorem dX9_alone_37 : decode cX9_alone 37 = .ok (.getfield 36, 3) := by decide +kernel
theorem dX9_alone_40 : decode cX9_alone 40 = .ok (.aload_n 0, 1) := by decide +kernel
theorem dX9_alone_41 : decode cX9_alone 41 = .ok (.getfield 12, 3) := by decide +kernel
theorem dX9_alone_44 : decode cX9_alone 44 = .ok (.iload_n 1, 1) := by decide +kernel
theorem dX9_alone_45 : decode cX9_alone 45 = .ok (.iload_n 3, 1) := by decide +kernel
theorem dX9_alone_46 : decode cX9_alone 46 = .ok (.invokevirtual 160, 3) := by decide +kernel
theorem dX9_alone_49 : decode cX9_alone 49 = .ok (.ifCond .ne 6, 3) := by decide +kernel
theorem dX9_alone_52 : decode cX9_alone 52 = .ok (.iinc 2 1, 3) := by decide +kernel
theorem dX9_alone_55 : decode cX9_alone 55 = .ok (.iinc 3 1, 3) := by decide +kernel
theorem dX9_alone_58 : decode cX9_alone 58 = .ok (.goto (-29), 3) := by decide +kernel
theorem dX9_alone_61 : decode cX9_alone 61 = .ok (.iload_n 2, 1) := by decide +kernel
theorem dX9_alone_62 : decode cX9_alone 62 = .ok (.ireturn, 1) := by decide +kernel
theorem dX9_can_0 : decode cX9_can 0 = .ok (.aload_n 0, 1) := by decide +kernel
theorem dX9_can_1 : decode cX9_can 1 = .ok (.iload_n 1, 1) := by decide +kernel
theorem dX9_can_2 : decode cX9_can 2 = .ok (.invokevirtual 99, 3) := by decide +kernel
theorem dX9_can_5 : decode cX9_can 5 = .ok (.ifCond .ne 9, 3) := by decide +kernel
theorem dX9_can_8 : decode cX9_can 8 = .ok (.aload_n 0, 1) := by decide +kernel
theorem dX9_can_9 : decode cX9_can 9 = .ok (.iconst (-1), 1) := by decide +kernel
theorem dX9_can_10 : decode cX9_can 10 = .ok (.invokevirtual 61, 3) := by decide +kernel
theorem dX9_can_13 : decode cX9_can 13 = .ok (.ireturn, 1) := by decide +kernel
theorem dX9_can_14 : decode cX9_can 14 = .ok (.iload_n 2, 1) := by decide +kernel
theorem dX9_can_15 : decode cX9_can 15 = .ok (.invokestatic 153, 3) := by decide +kernel
theorem dX9_can_18 : decode cX9_can 18 = .ok (.istore_n 3, 1) := by decide +kernel
theorem dX9_can_19 : decode cX9_can 19 = .ok (.iload_n 3, 1) := by decide +kernel
theorem dX9_can_20 : decode cX9_can 20 = .ok (.ifCond .ge 9, 3) := by decide +kernel
theorem dX9_can_23 : decode cX9_can 23 = .ok (.aload_n 0, 1) := by decide +kernel
theorem dX9_can_24 : decode cX9_can 24 = .ok (.iload_n 3, 1) := by decide +kernel
theorem dX9_can_25 : decode cX9_can 25 = .ok (.invokevirtual 61, 3) := by decide +kernel
theorem dX9_can_28 : decode cX9_can 28 = .ok (.ireturn, 1) := by decide +kernel
theorem dX9_can_29 : decode cX9_can 29 = .ok (.aload_n 0, 1) := by decide +kernel
theorem dX9_can_30 : decode cX9_can 30 = .ok (.getfield 36, 3) := by decide +kernel
theorem dX9_can_33 : decode cX9_can 33 = .ok (.aload_n 0, 1) := by decide +kernel
theorem dX9_can_34 : decode cX9_can 34 = .ok (.getfield 12, 3) := by decide +kernel
theorem dX9_can_37 : decode cX9_can 37 = .ok (.invokevirtual 156, 3) := by decide +kernel
theorem dX9_can_40 : decode cX9_can 40 = .ok (.aload_n 0, 1) := by decide +kernel
theorem dX9_can_41 : decode cX9_can 41 = .ok (.getfield 36, 3) := by decide +kernel
theorem dX9_can_44 : decode cX9_can 44 = .ok (.aload_n 0, 1) := by decide +kernel
theorem dX9_can_45 : decode cX9_can 45 = .ok (.getfield 12, 3) := by decide +kernel
theorem dX9_can_48 : decode cX9_can 48 = .ok (.iload_n 1, 1) := by decide +kernel
theorem dX9_can_49 : decode cX9_can 49 = .ok (.iload_n 2, 1) := by decide +kernel
theorem dX9_can_50 : decode cX9_can 50 = .ok (.invokevirtual 160, 3) := by decide +kernel
theorem dX9_can_53 : decode cX9_can 53 = .ok (.ifCond .ne 7, 3) := by decide +kernel
theorem dX9_can_56 : decode cX9_can 56 = .ok (.iconst 1, 1) := by decide +kernel
theorem dX9_can_57 : decode cX9_can 57 = .ok (.goto 4, 3) := by decide +kernel
theorem dX9_can_60 : decode cX9_can 60 = .ok (.iconst 0, 1) := by decide +kernel
theorem dX9_can_61 : decode cX9_can 61 = .ok (.ireturn, 1) := by decide +kernel
theorem dX9_refuse_0 : decode cX9_refuse 0 = .ok (.aload_n 0, 1) := by decide +kernel
theorem dX9_refuse_1 : decode cX9_refuse 1 = .ok (.getfield 30, 3) := by decide +kernel
theorem dX9_refuse_4 : decode cX9_refuse 4 = .ok (.iload_n 1, 1) := by decide +kernel
theorem dX9_refuse_5 : decode cX9_refuse 5 = .ok (.ineg, 1) := by decide +kernel
theorem dX9_refuse_6 : decode cX9_refuse 6 = .ok (.iconst 1, 1) := by decide +kernel
theorem dX9_refuse_7 : decode cX9_refuse 7 = .ok (.isub, 1) := by decide +kernel
theorem dX9_refuse_8 : decode cX9_refuse 8 = .ok (.aload_n 0, 1) := by decide +kernel
theorem dX9_refuse_9 : decode cX9_refuse 9 = .ok (.getfield 30, 3) := by decide +kernel
theorem dX9_refuse_12 : decode cX9_refuse 12 = .ok (.iload_n 1, 1) := by decide +kernel
theorem dX9_refuse_13 : decode cX9_refuse 13 = .ok (.ineg, 1) := by decide +kernel
theorem dX9_refuse_14 : decode cX9_refuse 14 = .ok (.iconst 1, 1) := by decide +kernel
theorem dX9_refuse_15 : decode cX9_refuse 15 = .ok (.isub, 1) := by decide +kernel
theorem dX9_refuse_16 : decode cX9_refuse 16 = .ok (.invokestatic 105, 3) := by decide +kernel
theorem dX9_refuse_19 : decode cX9_refuse 19 = .ok (.iconst 1, 1) := by decide +kernel
theorem dX9_refuse_20 : decode cX9_refuse 20 = .ok (.iadd, 1) := by decide +kernel
theorem dX9_refuse_21 : decode cX9_refuse 21 = .ok (.invokestatic 193, 3) := by decide +kernel
theorem dX9_refuse_24 : decode cX9_refuse 24 = .ok (.iload_n 1, 1) := by decide +kernel
theorem dX9_refuse_25 : decode cX9_refuse 25 = .ok (.ireturn, 1) := by decide +kernel
theorem dX9_isThing_0 : decode cX9_isThing 0 = .ok (.iload_n 1, 1) := by decide +kernel
theorem dX9_isThing_1 : decode cX9_isThing 1 = .ok (.ifCond .lt 21, 3) := by decide +kernel
theorem dX9_isThing_4 : decode cX9_isThing 4 = .ok (.iload_n 1, 1) := by decide +kernel
theorem dX9_isThing_5 : decode cX9_isThing 5 = .ok (.aload_n 0, 1) := by decide +kernel
theorem dX9_isThing_6 : decode cX9_isThing 6 = .ok (.getfield 12, 3) := by decide +kernel
theorem dX9_isThing_9 : decode cX9_isThing 9 = .ok (.getfield 73, 3) := by decide +kernel
theorem dX9_isThing_12 : decode cX9_isThing 12 = .ok (.getfield 77, 3) := by decide +kernel
theorem dX9_isThing_15 : decode cX9_isThing 15 = .ok (.if_icmp .ge 7, 3) := by decide +kernel
theorem dX9_isThing_18 : decode cX9_isThing 18 = .ok (.iconst 1, 1) := by decide +kernel
theorem dX9_isThing_19 : decode cX9_isThing 19 = .ok (.goto 4, 3) := by decide +kernel
theorem dX9_isThing_22 : decode cX9_isThing 22 = .ok (.iconst 0, 1) := by decide +kernel
theorem dX9_isThing_23 : decode cX9_isThing 23 = .ok (.ireturn, 1) := by decide +kernel
theorem dX9_wrongMinute_0 : decode cX9_wrongMinute 0 = .ok (.iload_n 0, 1) := by decide +kernel
theorem dX9_wrongMinute_1 : decode cX9_wrongMinute 1 = .ok (.ifCond .ge 6, 3) := by decide +kernel
theorem dX9_wrongMinute_4 : decode cX9_wrongMinute 4 = .ok (.bipush (-4), 2) := by decide +kernel
theorem dX9_wrongMinute_6 : decode cX9_wrongMinute 6 = .ok (.ireturn, 1) := by decide +kernel
theorem dX9_wrongMinute_7 : decode cX9_wrongMinute 7 = .ok (.iload_n 0, 1) := by decide +kernel
theorem dX9_wrongMinute_8 : decode cX9_wrongMinute 8 = .ok (.sipush 299, 3) := by decide +kernel
theorem dX9_wrongMinute_11 : decode cX9_wrongMinute 11 = .ok (.if_icmp .le 8, 3) := by decide +kernel
theorem dX9_wrongMinute_14 : decode cX9_wrongMinute 14 = .ok (.bipush (-6), 2) := by decide +kernel
theorem dX9_wrongMinute_16 : decode cX9_wrongMinute 16 = .ok (.goto 4, 3) := by decide +kernel
theorem dX9_wrongMinute_19 : decode cX9_wrongMinute 19 = .ok (.iconst 0, 1) := by decide +kernel
theorem dX9_wrongMinute_20 : decode cX9_wrongMinute 20 = .ok (.ireturn, 1) := by decide +kernel
theorem dX9_setCounts_0 : decode cX9_setCounts 0 = .ok (.iconst 0, 1) := by decide +kernel
theorem dX9_setCounts_1 : decode cX9_setCounts 1 = .ok (.istore_n 2, 1) := by decide +kernel
theorem dX9_setCounts_2 : decode cX9_setCounts 2 = .ok (.iload_n 2, 1) := by decide +kernel
theorem dX9_setCounts_3 : decode cX9_setCounts 3 = .ok (.aload_n 0, 1) := by decide +kernel
theorem dX9_setCounts_4 : decode cX9_setCounts 4 = .ok (.getfield 12, 3) := by decide +kernel
theorem dX9_setCounts_7 : decode cX9_setCounts 7 = .ok (.getfield 73, 3) := by decide +kernel
theorem dX9_setCounts_10 : decode cX9_setCounts 10 = .ok (.getfield 77, 3) := by decide +kernel
theorem dX9_setCounts_13 : decode cX9_setCounts 13 = .ok (.if_icmp .ge 71, 3) := by decide +kernel
theorem dX9_setCounts_16 : decode cX9_setCounts 16 = .ok (.iconst 0, 1) := by decide +kernel
theorem dX9_setCounts_17 : decode cX9_setCounts 17 = .ok (.istore_n 3, 1) := by decide +kernel
theorem dX9_setCounts_18 : decode cX9_setCounts 18 = .ok (.iload_n 3, 1) := by decide +kernel
theorem dX9_setCounts_19 : decode cX9_setCounts 19 = .ok (.sipush 300, 3) := by decide +kernel
theorem dX9_setCounts_22 : decode cX9_setCounts 22 = .ok (.if_icmp .ge 56, 3) := by decide +kernel
theorem dX9_setCounts_25 : decode cX9_setCounts 25 = .ok (.iload_n 2, 1) := by decide +kernel
theorem dX9_setCounts_26 : decode cX9_setCounts 26 = .ok (.iload_n 1, 1) := by decide +kernel
theorem dX9_setCounts_27 : decode cX9_setCounts 27 = .ok (.if_icmp .eq 19, 3) := by decide +kernel
theorem dX9_setCounts_30 : decode cX9_setCounts 30 = .ok (.aload_n 0, 1) := by decide +kernel
theorem dX9_setCounts_31 : decode cX9_setCounts 31 = .ok (.getfield 36, 3) := by decide +kernel
theorem dX9_setCounts_34 : decode cX9_setCounts 34 = .ok (.aload_n 0, 1) := by decide +kernel
theorem dX9_setCounts_35 : decode cX9_setCounts 35 = .ok (.getfield 12, 3) := by decide +kernel
theorem dX9_setCounts_38 : decode cX9_setCounts 38 = .ok (.iload_n 2, 1) := by decide +kernel
theorem dX9_setCounts_39 : decode cX9_setCounts 39 = .ok (.iload_n 3, 1) := by decide +kernel
theorem dX9_setCounts_40 : decode cX9_setCounts 40 = .ok (.invokevirtual 160, 3) := by decide +kernel
theorem dX9_setCounts_43 : decode cX9_setCounts 43 = .ok (.ifCond .ne 7, 3) := by decide +kernel
theorem dX9_setCounts_46 : decode cX9_setCounts 46 = .ok (.iconst 1, 1) := by decide +kernel
theorem dX9_setCounts_47 : decode cX9_setCounts 47 = .ok (.goto 4, 3) := by decide +kernel
theorem dX9_setCounts_50 : decode cX9_setCounts 50 = .ok (.iconst 0, 1) := by decide +kernel
theorem dX9_setCounts_51 : decode cX9_setCounts 51 = .ok (.istore 4, 2) := by decide +kernel
theorem dX9_setCounts_53 : decode cX9_setCounts 53 = .ok (.aload_n 0, 1) := by decide +kernel
theorem dX9_setCounts_54 : decode cX9_setCounts 54 = .ok (.getfield 43, 3) := by decide +kernel
theorem dX9_setCounts_57 : decode cX9_setCounts 57 = .ok (.iload_n 2, 1) := by decide +kernel
theorem dX9_setCounts_58 : decode cX9_setCounts 58 = .ok (.iload_n 3, 1) := by decide +kernel
theorem dX9_setCounts_59 : decode cX9_setCounts 59 = .ok (.iload 4, 2) := by decide +kernel
theorem dX9_setCounts_61 : decode cX9_setCounts 61 = .ok (.ifCond .eq 7, 3) := by decide +kernel
theorem dX9_setCounts_64 : decode cX9_setCounts 64 = .ok (.lconst 1, 1) := by decide +kernel
theorem dX9_setCounts_65 : decode cX9_setCounts 65 = .ok (.goto 4, 3) := by decide +kernel
theorem dX9_setCounts_68 : decode cX9_setCounts 68 = .ok (.lconst 0, 1) := by decide +kernel
theorem dX9_setCounts_69 : decode cX9_setCounts 69 = .ok (.invokevirtual 203, 3) := by decide +kernel
theorem dX9_setCounts_72 : decode cX9_setCounts 72 = .ok (.iinc 3 1, 3) := by decide +kernel
theorem dX9_setCounts_75 : decode cX9_setCounts 75 = .ok (.goto (-57), 3) := by decide +kernel
theorem dX9_setCounts_78 : decode cX9_setCounts 78 = .ok (.iinc 2 1, 3) := by decide +kernel
theorem dX9_setCounts_81 : decode cX9_setCounts 81 = .ok (.goto (-79), 3) := by decide +kernel
theorem dX9_setCounts_84 : decode cX9_setCounts 84 = .ok (.return_, 1) := by decide +kernel
theorem dX9_at_0 : decode cX9_at 0 = .ok (.iload_n 1, 1) := by decide +kernel
theorem dX9_at_1 : decode cX9_at 1 = .ok (.ifCond .lt 15, 3) := by decide +kernel
theorem dX9_at_4 : decode cX9_at 4 = .ok (.iload_n 1, 1) := by decide +kernel
theorem dX9_at_5 : decode cX9_at 5 = .ok (.aload_n 0, 1) := by decide +kernel
theorem dX9_at_6 : decode cX9_at 6 = .ok (.arraylength, 1) := by decide +kernel
theorem dX9_at_7 : decode cX9_at 7 = .ok (.if_icmp .ge 9, 3) := by decide +kernel
theorem dX9_at_10 : decode cX9_at 10 = .ok (.aload_n 0, 1) := by decide +kernel
theorem dX9_at_11 : decode cX9_at 11 = .ok (.iload_n 1, 1) := by decide +kernel
theorem dX9_at_12 : decode cX9_at 12 = .ok (.iaload, 1) := by decide +kernel
theorem dX9_at_13 : decode cX9_at 13 = .ok (.goto 4, 3) := by decide +kernel
theorem dX9_at_16 : decode cX9_at 16 = .ok (.iconst 0, 1) := by decide +kernel
theorem dX9_at_17 : decode cX9_at 17 = .ok (.ireturn, 1) := by decide +kernel
theorem dX9_at__0 : decode cX9_at_ 0 = .ok (.iload_n 1, 1) := by decide +kernel
theorem dX9_at__1 : decode cX9_at_ 1 = .ok (.ifCond .lt 15, 3) := by decide +kernel
theorem dX9_at__4 : decode cX9_at_ 4 = .ok (.iload_n 1, 1) := by decide +kernel
theorem dX9_at__5 : decode cX9_at_ 5 = .ok (.aload_n 0, 1) := by decide +kernel
theorem dX9_at__6 : decode cX9_at_ 6 = .ok (.arraylength, 1) := by decide +kernel
theorem dX9_at__7 : decode cX9_at_ 7 = .ok (.if_icmp .ge 9, 3) := by decide +kernel
theorem dX9_at__10 : decode cX9_at_ 10 = .ok (.aload_n 0, 1) := by decide +kernel
theorem dX9_at__11 : decode cX9_at_ 11 = .ok (.iload_n 1, 1) := by decide +kernel
theorem dX9_at__12 : decode cX9_at_ 12 = .ok (.laload, 1) := by decide +kernel
theorem dX9_at__13 : decode cX9_at_ 13 = .ok (.goto 4, 3) := by decide +kernel
theorem dX9_at__16 : decode cX9_at_ 16 = .ok (.lconst 0, 1) := by decide +kernel
theorem dX9_at__17 : decode cX9_at_ 17 = .ok (.lreturn, 1) := by decide +kernel
theorem dX9_lay_0 : decode cX9_lay 0 = .ok (.iload_n 1, 1) := by decide +kernel
theorem dX9_lay_1 : decode cX9_lay 1 = .ok (.ifCond .lt 13, 3) := by decide +kernel
theorem dX9_lay_4 : decode cX9_lay 4 = .ok (.iload_n 1, 1) := by decide +kernel
theorem dX9_lay_5 : decode cX9_lay 5 = .ok (.aload_n 0, 1) := by decide +kernel
theorem dX9_lay_6 : decode cX9_lay 6 = .ok (.arraylength, 1) := by decide +kernel
theorem dX9_lay_7 : decode cX9_lay 7 = .ok (.if_icmp .ge 7, 3) := by decide +kernel
theorem dX9_lay_10 : decode cX9_lay 10 = .ok (.aload_n 0, 1) := by decide +kernel
theorem dX9_lay_11 : decode cX9_lay 11 = .ok (.iload_n 1, 1) := by decide +kernel
theorem dX9_lay_12 : decode cX9_lay 12 = .ok (.iload_n 2, 1) := by decide +kernel
theorem dX9_lay_13 : decode cX9_lay 13 = .ok (.iastore, 1) := by decide +kernel
theorem dX9_lay_14 : decode cX9_lay 14 = .ok (.return_, 1) := by decide +kernel
theorem dX9_lay__0 : decode cX9_lay_ 0 = .ok (.iload_n 1, 1) := by decide +kernel
theorem dX9_lay__1 : decode cX9_lay_ 1 = .ok (.ifCond .lt 13, 3) := by decide +kernel
theorem dX9_lay__4 : decode cX9_lay_ 4 = .ok (.iload_n 1, 1) := by decide +kernel
theorem dX9_lay__5 : decode cX9_lay_ 5 = .ok (.aload_n 0, 1) := by decide +kernel
theorem dX9_lay__6 : decode cX9_lay_ 6 = .ok (.arraylength, 1) := by decide +kernel
theorem dX9_lay__7 : decode cX9_lay_ 7 = .ok (.if_icmp .ge 7, 3) := by decide +kernel
theorem dX9_lay__10 : decode cX9_lay_ 10 = .ok (.aload_n 0, 1) := by decide +kernel
theorem dX9_lay__11 : decode cX9_lay_ 11 = .ok (.iload_n 1, 1) := by decide +kernel
theorem dX9_lay__12 : decode cX9_lay_ 12 = .ok (.lload_n 2, 1) := by decide +kernel
theorem dX9_lay__13 : decode cX9_lay_ 13 = .ok (.lastore, 1) := by decide +kernel
theorem dX9_lay__14 : decode cX9_lay_ 14 = .ok (.return_, 1) := by decide +kernel
theorem by_J6_bitCount_0f7a4 : bd_Y yJ6_bitCount_0f7a4 1 := ⟨by decide +kernel, by decide +kernel, by decide +kernel⟩
theorem by_J6_numberOfLeadingZeros_0f7a4 : bd_Y yJ6_numberOfLeadingZeros_0f7a4 1 := ⟨by decide +kernel, by decide +kernel, by decide +kernel⟩
theorem by_J6_numberOfTrailingZeros_0f7a4 : bd_Y yJ6_numberOfTrailingZeros_0f7a4 1 := ⟨by decide +kernel, by decide +kernel, by decide +kernel⟩
theorem by_X0_forget : bd_Y yX0_forget 0 := ⟨by decide +kernel, by decide +kernel, by decide +kernel⟩
theorem by_X0_learn : bd_Y yX0_learn 1 := ⟨by decide +kernel, by decide +kernel, by decide +kernel⟩
theorem by_X0_learnLook : bd_Y yX0_learnLook 2 := ⟨by decide +kernel, by decide +kernel, by decide +kernel⟩
theorem by_X0_speaking : bd_Y yX0_speaking 3 := ⟨by decide +kernel, by decide +kernel, by decide +kernel⟩
theorem by_X10_ahead : bd_Y yX10_ahead 2 := ⟨by decide +kernel, by decide +kernel, by decide +kernel⟩
theorem by_X10_alone : bd_Y yX10_alone 1 := ⟨by decide +kernel, by decide +kernel, by decide +kernel⟩
theorem by_X10_between : bd_Y yX10_between 2 := ⟨by decide +kernel, by decide +kernel, by decide +kernel⟩
theorem by_X10_bits : bd_Y yX10_bits 1 := ⟨by decide +kernel, by decide +kernel, by decide +kernel⟩
theorem by_X10_can : bd_Y yX10_can 2 := ⟨by decide +kernel, by decide +kernel, by decide +kernel⟩
theorem by_X10_canOf : bd_Y yX10_canOf 2 := ⟨by decide +kernel, by decide +kernel, by decide +kernel⟩
theorem by_X10_candidate : bd_Y yX10_candidate 2 := ⟨by decide +kernel, by decide +kernel, by decide +kernel⟩
theorem by_X10_chance : bd_Y yX10_chance 3 := ⟨by decide +kernel, by decide +kernel, by decide +kernel⟩
theorem by_X10_count : bd_Y yX10_count 1 := ⟨by decide +kernel, by decide +kernel, by decide +kernel⟩
theorem by_X10_counts : bd_Y yX10_counts 1 := ⟨by decide +kernel, by decide +kernel, by decide +kernel⟩
theorem by_X10_divisor : bd_Y yX10_divisor 2 := ⟨by decide +kernel, by decide +kernel, by decide +kernel⟩
theorem by_X10_doubt : bd_Y yX10_doubt 2 := ⟨by decide +kernel, by decide +kernel, by decide +kernel⟩
theorem by_X10_doubts : bd_Y yX10_doubts 0 := ⟨by decide +kernel, by decide +kernel, by decide +kernel⟩
theorem by_X10_feed : bd_Y yX10_feed 2 := ⟨by decide +kernel, by decide +kernel, by decide +kernel⟩
theorem by_X10_findMay : bd_Y yX10_findMay 1 := ⟨by decide +kernel, by decide +kernel, by decide +kernel⟩
theorem by_X10_finds : bd_Y yX10_finds 0 := ⟨by decide +kernel, by decide +kernel, by decide +kernel⟩
theorem by_X10_frees : bd_Y yX10_frees 0 := ⟨by decide +kernel, by decide +kernel, by decide +kernel⟩
theorem by_X10_hangs : bd_Y yX10_hangs 0 := ⟨by decide +kernel, by decide +kernel, by decide +kernel⟩
theorem by_X10_image : bd_Y yX10_image 0 := ⟨by decide +kernel, by decide +kernel, by decide +kernel⟩
theorem by_X10_isIn : bd_Y yX10_isIn 3 := ⟨by decide +kernel, by decide +kernel, by decide +kernel⟩
theorem by_X10_isJoined : bd_Y yX10_isJoined 1 := ⟨by decide +kernel, by decide +kernel, by decide +kernel⟩
theorem by_X10_isOpen : bd_Y yX10_isOpen 1 := ⟨by decide +kernel, by decide +kernel, by decide +kernel⟩
theorem by_X10_isThing : bd_Y yX10_isThing 1 := ⟨by decide +kernel, by decide +kernel, by decide +kernel⟩
theorem by_X10_join : bd_Y yX10_join 4 := ⟨by decide +kernel, by decide +kernel, by decide +kernel⟩
theorem by_X10_joined : bd_Y yX10_joined 2 := ⟨by decide +kernel, by decide +kernel, by decide +kernel⟩
theorem by_X10_judge : bd_Y yX10_judge 0 := ⟨by decide +kernel, by decide +kernel, by decide +kernel⟩
theorem by_X10_left : bd_Y yX10_left 3 := ⟨by decide +kernel, by decide +kernel, by decide +kernel⟩
theorem by_X10_leftOf : bd_Y yX10_leftOf 3 := ⟨by decide +kernel, by decide +kernel, by decide +kernel⟩
theorem by_X10_letsBy : bd_Y yX10_letsBy 2 := ⟨by decide +kernel, by decide +kernel, by decide +kernel⟩
theorem by_X10_look : bd_Y yX10_look 4 := ⟨by decide +kernel, by decide +kernel, by decide +kernel⟩
theorem by_X10_may : bd_Y yX10_may 1 := ⟨by decide +kernel, by decide +kernel, by decide +kernel⟩
theorem by_X10_narrow : bd_Y yX10_narrow 2 := ⟨by decide +kernel, by decide +kernel, by decide +kernel⟩
theorem by_X10_narrowOf : bd_Y yX10_narrowOf 2 := ⟨by decide +kernel, by decide +kernel, by decide +kernel⟩
theorem by_X10_nearer : bd_Y yX10_nearer 2 := ⟨by decide +kernel, by decide +kernel, by decide +kernel⟩
theorem by_X10_next : bd_Y yX10_next 1 := ⟨by decide +kernel, by decide +kernel, by decide +kernel⟩
theorem by_X10_no : bd_Y yX10_no 1 := ⟨by decide +kernel, by decide +kernel, by decide +kernel⟩
theorem by_X10_number : bd_Y yX10_number 1 := ⟨by decide +kernel, by decide +kernel, by decide +kernel⟩
theorem by_X10_on : bd_Y yX10_on 0 := ⟨by decide +kernel, by decide +kernel, by decide +kernel⟩
theorem by_X10_opened : bd_Y yX10_opened 0 := ⟨by decide +kernel, by decide +kernel, by decide +kernel⟩
theorem by_X10_out : bd_Y yX10_out 3 := ⟨by decide +kernel, by decide +kernel, by decide +kernel⟩
theorem by_X10_passOne : bd_Y yX10_passOne 1 := ⟨by decide +kernel, by decide +kernel, by decide +kernel⟩
theorem by_X10_passes : bd_Y yX10_passes 1 := ⟨by decide +kernel, by decide +kernel, by decide +kernel⟩
theorem by_X10_passesAll : bd_Y yX10_passesAll 0 := ⟨by decide +kernel, by decide +kernel, by decide +kernel⟩
theorem by_X10_put : bd_Y yX10_put 1 := ⟨by decide +kernel, by decide +kernel, by decide +kernel⟩
theorem by_X10_reads : bd_Y yX10_reads 0 := ⟨by decide +kernel, by decide +kernel, by decide +kernel⟩
theorem by_X10_room : bd_Y yX10_room 1 := ⟨by decide +kernel, by decide +kernel, by decide +kernel⟩
theorem by_X10_run : bd_Y yX10_run 3 := ⟨by decide +kernel, by decide +kernel, by decide +kernel⟩
theorem by_X10_sign : bd_Y yX10_sign 0 := ⟨by decide +kernel, by decide +kernel, by decide +kernel⟩
theorem by_X10_thing : bd_Y yX10_thing 0 := ⟨by decide +kernel, by decide +kernel, by decide +kernel⟩
theorem by_X10_thingOf : bd_Y yX10_thingOf 2 := ⟨by decide +kernel, by decide +kernel, by decide +kernel⟩
theorem by_X10_ways : bd_Y yX10_ways 0 := ⟨by decide +kernel, by decide +kernel, by decide +kernel⟩
theorem by_X10_waysOf : bd_Y yX10_waysOf 0 := ⟨by decide +kernel, by decide +kernel, by decide +kernel⟩
theorem by_X10_waysWith : bd_Y yX10_waysWith 2 := ⟨by decide +kernel, by decide +kernel, by decide +kernel⟩
theorem by_X10_why : bd_Y yX10_why 2 := ⟨by decide +kernel, by decide +kernel, by decide +kernel⟩
theorem by_X10_window : bd_Y yX10_window 2 := ⟨by decide +kernel, by decide +kernel, by decide +kernel⟩
theorem by_X1_both : bd_Y yX1_both 2 := ⟨by decide +kernel, by decide +kernel, by decide +kernel⟩
theorem by_X1_load : bd_Y yX1_load 2 := ⟨by decide +kernel, by decide +kernel, by decide +kernel⟩
theorem by_X1_none : bd_Y yX1_none 0 := ⟨by decide +kernel, by decide +kernel, by decide +kernel⟩
theorem by_X1_over : bd_Y yX1_over 2 := ⟨by decide +kernel, by decide +kernel, by decide +kernel⟩
theorem by_X2_bring : bd_Y yX2_bring 4 := ⟨by decide +kernel, by decide +kernel, by decide +kernel⟩
theorem by_X2_bringAll : bd_Y yX2_bringAll 3 := ⟨by decide +kernel, by decide +kernel, by decide +kernel⟩
theorem by_X2_findPath : bd_Y yX2_findPath 2 := ⟨by decide +kernel, by decide +kernel, by decide +kernel⟩
theorem by_X2_gather : bd_Y yX2_gather 3 := ⟨by decide +kernel, by decide +kernel, by decide +kernel⟩
theorem by_X2_onPath : bd_Y yX2_onPath 1 := ⟨by decide +kernel, by decide +kernel, by decide +kernel⟩
theorem by_X2_set : bd_Y yX2_set 3 := ⟨by decide +kernel, by decide +kernel, by decide +kernel⟩
theorem by_X2_together : bd_Y yX2_together 2 := ⟨by decide +kernel, by decide +kernel, by decide +kernel⟩
theorem by_X2_value : bd_Y yX2_value 2 := ⟨by decide +kernel, by decide +kernel, by decide +kernel⟩
theorem by_X3_both : bd_Y yX3_both 2 := ⟨by decide +kernel, by decide +kernel, by decide +kernel⟩
theorem by_X3_load : bd_Y yX3_load 2 := ⟨by decide +kernel, by decide +kernel, by decide +kernel⟩
theorem by_X3_none : bd_Y yX3_none 0 := ⟨by decide +kernel, by decide +kernel, by decide +kernel⟩
theorem by_X3_over : bd_Y yX3_over 2 := ⟨by decide +kernel, by decide +kernel, by decide +kernel⟩
theorem by_X4_add : bd_Y yX4_add 4 := ⟨by decide +kernel, by decide +kernel, by decide +kernel⟩
theorem by_X4_mark : bd_Y yX4_mark 2 := ⟨by decide +kernel, by decide +kernel, by decide +kernel⟩
theorem by_X4_take : bd_Y yX4_take 1 := ⟨by decide +kernel, by decide +kernel, by decide +kernel⟩
theorem by_X5_within : bd_Y yX5_within 2 := ⟨by decide +kernel, by decide +kernel, by decide +kernel⟩
theorem by_X6_byteHere : bd_Y yX6_byteHere 0 := ⟨by decide +kernel, by decide +kernel, by decide +kernel⟩
theorem by_X6_lawOf : bd_Y yX6_lawOf 1 := ⟨by decide +kernel, by decide +kernel, by decide +kernel⟩
theorem by_X6_read : bd_Y yX6_read 0 := ⟨by decide +kernel, by decide +kernel, by decide +kernel⟩
theorem by_X6_readNumber : bd_Y yX6_readNumber 1 := ⟨by decide +kernel, by decide +kernel, by decide +kernel⟩
theorem by_X6_take : bd_Y yX6_take 2 := ⟨by decide +kernel, by decide +kernel, by decide +kernel⟩
theorem by_X7_add : bd_Y yX7_add 3 := ⟨by decide +kernel, by decide +kernel, by decide +kernel⟩
theorem by_X7_highest : bd_Y yX7_highest 3 := ⟨by decide +kernel, by decide +kernel, by decide +kernel⟩
theorem by_X7_joinings : bd_Y yX7_joinings 0 := ⟨by decide +kernel, by decide +kernel, by decide +kernel⟩
theorem by_X7_lowest : bd_Y yX7_lowest 3 := ⟨by decide +kernel, by decide +kernel, by decide +kernel⟩
theorem by_X7_take : bd_Y yX7_take 1 := ⟨by decide +kernel, by decide +kernel, by decide +kernel⟩
theorem by_X7_tie : bd_Y yX7_tie 4 := ⟨by decide +kernel, by decide +kernel, by decide +kernel⟩
theorem by_X8_addCandidate : bd_Y yX8_addCandidate 2 := ⟨by decide +kernel, by decide +kernel, by decide +kernel⟩
theorem by_X8_fillLefts : bd_Y yX8_fillLefts 2 := ⟨by decide +kernel, by decide +kernel, by decide +kernel⟩
theorem by_X8_fillToward : bd_Y yX8_fillToward 2 := ⟨by decide +kernel, by decide +kernel, by decide +kernel⟩
theorem by_X8_inWindow : bd_Y yX8_inWindow 1 := ⟨by decide +kernel, by decide +kernel, by decide +kernel⟩
theorem by_X8_leftAfter : bd_Y yX8_leftAfter 3 := ⟨by decide +kernel, by decide +kernel, by decide +kernel⟩
theorem by_X8_minutesInWindow : bd_Y yX8_minutesInWindow 2 := ⟨by decide +kernel, by decide +kernel, by decide +kernel⟩
theorem by_X8_nearer : bd_Y yX8_nearer 2 := ⟨by decide +kernel, by decide +kernel, by decide +kernel⟩
theorem by_X8_nearing : bd_Y yX8_nearing 5 := ⟨by decide +kernel, by decide +kernel, by decide +kernel⟩
theorem by_X8_open : bd_Y yX8_open 2 := ⟨by decide +kernel, by decide +kernel, by decide +kernel⟩
theorem by_X8_shut : bd_Y yX8_shut 0 := ⟨by decide +kernel, by decide +kernel, by decide +kernel⟩
theorem by_X8_take : bd_Y yX8_take 1 := ⟨by decide +kernel, by decide +kernel, by decide +kernel⟩
theorem by_X9_ahead : bd_Y yX9_ahead 2 := ⟨by decide +kernel, by decide +kernel, by decide +kernel⟩
theorem by_X9_alone : bd_Y yX9_alone 1 := ⟨by decide +kernel, by decide +kernel, by decide +kernel⟩
theorem by_X9_at : bd_Y yX9_at 2 := ⟨by decide +kernel, by decide +kernel, by decide +kernel⟩
theorem by_X9_at_ : bd_Y yX9_at_ 2 := ⟨by decide +kernel, by decide +kernel, by decide +kernel⟩
theorem by_X9_can : bd_Y yX9_can 2 := ⟨by decide +kernel, by decide +kernel, by decide +kernel⟩
theorem by_X9_candidate : bd_Y yX9_candidate 2 := ⟨by decide +kernel, by decide +kernel, by decide +kernel⟩
theorem by_X9_chance : bd_Y yX9_chance 3 := ⟨by decide +kernel, by decide +kernel, by decide +kernel⟩
theorem by_X9_copyRow : bd_Y yX9_copyRow 2 := ⟨by decide +kernel, by decide +kernel, by decide +kernel⟩
theorem by_X9_costOf : bd_Y yX9_costOf 1 := ⟨by decide +kernel, by decide +kernel, by decide +kernel⟩
theorem by_X9_count : bd_Y yX9_count 1 := ⟨by decide +kernel, by decide +kernel, by decide +kernel⟩
theorem by_X9_countWaysOf : bd_Y yX9_countWaysOf 1 := ⟨by decide +kernel, by decide +kernel, by decide +kernel⟩
theorem by_X9_doubt : bd_Y yX9_doubt 2 := ⟨by decide +kernel, by decide +kernel, by decide +kernel⟩
theorem by_X9_doubts : bd_Y yX9_doubts 0 := ⟨by decide +kernel, by decide +kernel, by decide +kernel⟩
theorem by_X9_feed : bd_Y yX9_feed 2 := ⟨by decide +kernel, by decide +kernel, by decide +kernel⟩
theorem by_X9_greatestDivisor : bd_Y yX9_greatestDivisor 2 := ⟨by decide +kernel, by decide +kernel, by decide +kernel⟩
theorem by_X9_hangs : bd_Y yX9_hangs 0 := ⟨by decide +kernel, by decide +kernel, by decide +kernel⟩
theorem by_X9_image : bd_Y yX9_image 0 := ⟨by decide +kernel, by decide +kernel, by decide +kernel⟩
theorem by_X9_isThing : bd_Y yX9_isThing 1 := ⟨by decide +kernel, by decide +kernel, by decide +kernel⟩
theorem by_X9_join : bd_Y yX9_join 4 := ⟨by decide +kernel, by decide +kernel, by decide +kernel⟩
theorem by_X9_judge : bd_Y yX9_judge 0 := ⟨by decide +kernel, by decide +kernel, by decide +kernel⟩
theorem by_X9_lay : bd_Y yX9_lay 3 := ⟨by decide +kernel, by decide +kernel, by decide +kernel⟩
theorem by_X9_lay_ : bd_Y yX9_lay_ 3 := ⟨by decide +kernel, by decide +kernel, by decide +kernel⟩
theorem by_X9_left : bd_Y yX9_left 3 := ⟨by decide +kernel, by decide +kernel, by decide +kernel⟩
theorem by_X9_look : bd_Y yX9_look 4 := ⟨by decide +kernel, by decide +kernel, by decide +kernel⟩
theorem by_X9_may : bd_Y yX9_may 1 := ⟨by decide +kernel, by decide +kernel, by decide +kernel⟩
theorem by_X9_mostAlike : bd_Y yX9_mostAlike 2 := ⟨by decide +kernel, by decide +kernel, by decide +kernel⟩
theorem by_X9_narrow : bd_Y yX9_narrow 2 := ⟨by decide +kernel, by decide +kernel, by decide +kernel⟩
theorem by_X9_next : bd_Y yX9_next 1 := ⟨by decide +kernel, by decide +kernel, by decide +kernel⟩
theorem by_X9_on : bd_Y yX9_on 0 := ⟨by decide +kernel, by decide +kernel, by decide +kernel⟩
theorem by_X9_opened : bd_Y yX9_opened 0 := ⟨by decide +kernel, by decide +kernel, by decide +kernel⟩
theorem by_X9_put : bd_Y yX9_put 1 := ⟨by decide +kernel, by decide +kernel, by decide +kernel⟩
theorem by_X9_refuse : bd_Y yX9_refuse 1 := ⟨by decide +kernel, by decide +kernel, by decide +kernel⟩
theorem by_X9_room : bd_Y yX9_room 1 := ⟨by decide +kernel, by decide +kernel, by decide +kernel⟩
theorem by_X9_run : bd_Y yX9_run 3 := ⟨by decide +kernel, by decide +kernel, by decide +kernel⟩
theorem by_X9_runEnd : bd_Y yX9_runEnd 2 := ⟨by decide +kernel, by decide +kernel, by decide +kernel⟩
theorem by_X9_runStart : bd_Y yX9_runStart 2 := ⟨by decide +kernel, by decide +kernel, by decide +kernel⟩
theorem by_X9_setCounts : bd_Y yX9_setCounts 1 := ⟨by decide +kernel, by decide +kernel, by decide +kernel⟩
theorem by_X9_setMinutes : bd_Y yX9_setMinutes 2 := ⟨by decide +kernel, by decide +kernel, by decide +kernel⟩
theorem by_X9_someWayBefore : bd_Y yX9_someWayBefore 2 := ⟨by decide +kernel, by decide +kernel, by decide +kernel⟩
theorem by_X9_someWayNotBefore : bd_Y yX9_someWayNotBefore 2 := ⟨by decide +kernel, by decide +kernel, by decide +kernel⟩
theorem by_X9_thing : bd_Y yX9_thing 0 := ⟨by decide +kernel, by decide +kernel, by decide +kernel⟩
theorem by_X9_thingOf : bd_Y yX9_thingOf 2 := ⟨by decide +kernel, by decide +kernel, by decide +kernel⟩
theorem by_X9_ways : bd_Y yX9_ways 0 := ⟨by decide +kernel, by decide +kernel, by decide +kernel⟩
theorem by_X9_waysWithout : bd_Y yX9_waysWithout 1 := ⟨by decide +kernel, by decide +kernel, by decide +kernel⟩
theorem by_X9_window : bd_Y yX9_window 2 := ⟨by decide +kernel, by decide +kernel, by decide +kernel⟩
theorem by_X9_wrongInRow : bd_Y yX9_wrongInRow 1 := ⟨by decide +kernel, by decide +kernel, by decide +kernel⟩
theorem by_X9_wrongMinute : bd_Y yX9_wrongMinute 1 := ⟨by decide +kernel, by decide +kernel, by decide +kernel⟩
theorem ho_X5_load : "BurnedDown$Reckoning" ≠ "java/lang/invoke/MethodHandle" ∧ "BurnedDown$Reckoning" ≠ "java/lang/invoke/VarHandle" ∧ (parseMethodDescriptor "([JI)V").map (fun d => d.parameters.length) = some 2 := ⟨by decide +kernel, by decide +kernel, by decide +kernel⟩
theorem ho_X5_none : "BurnedDown$Reckoning" ≠ "java/lang/invoke/MethodHandle" ∧ "BurnedDown$Reckoning" ≠ "java/lang/invoke/VarHandle" ∧ (parseMethodDescriptor "()J").map (fun d => d.parameters.length) = some 0 := ⟨by decide +kernel, by decide +kernel, by decide +kernel⟩
theorem ho_X5_over : "BurnedDown$Reckoning" ≠ "java/lang/invoke/MethodHandle" ∧ "BurnedDown$Reckoning" ≠ "java/lang/invoke/VarHandle" ∧ (parseMethodDescriptor "(II)J").map (fun d => d.parameters.length) = some 2 := ⟨by decide +kernel, by decide +kernel, by decide +kernel⟩
theorem ho_X5_both : "BurnedDown$Reckoning" ≠ "java/lang/invoke/MethodHandle" ∧ "BurnedDown$Reckoning" ≠ "java/lang/invoke/VarHandle" ∧ (parseMethodDescriptor "(JJ)J").map (fun d => d.parameters.length) = some 2 := ⟨by decide +kernel, by decide +kernel, by decide +kernel⟩
theorem ho_X5_within : "BurnedDown$Reckoning" ≠ "java/lang/invoke/MethodHandle" ∧ "BurnedDown$Reckoning" ≠ "java/lang/invoke/VarHandle" ∧ (parseMethodDescriptor "(II)J").map (fun d => d.parameters.length) = some 2 := ⟨by decide +kernel, by decide +kernel, by decide +kernel⟩
set_option maxRecDepth 100000 in
set_option maxHeartbeats 4000000 in
theorem b_X9_at {Γ : bd_G} {ε : bd_E} {t0 : Option (Int32 × bd_T)} (hC : bd_C Γ cX9_at 2 RX9 (some .int) ({ frames := 0, cells := 0, slots := 0, locals := 0 } : Room) ε (cX ε) bd_vi t0) (k0 : Nat) (x1 : Int32) (hk0 : k0 < 31) (S : bd_T) : bd_S Γ 2 t0 ((f_X9_at k0 x1 S).bind some) (cX ε S) 0 [(0, .ref (bd_a ε (12 + k0))), (1, .int x1)] [] := by
  unfold f_X9_at
  refine bs_iload_n hC 1 dX9_at_0 rfl rfl ?_
  refine bs_if_lt hC 16 dX9_at_1 (by decide) (fun c3 => ?_) (fun c3 => ?_)
  · refine bs_iconst hC (0 : Int32) dX9_at_16 rfl ?_
    exact bs_iret hC dX9_at_17 rfl
  refine bs_iload_n hC 1 dX9_at_4 rfl rfl ?_
  refine bs_aload_n hC 0 dX9_at_5 rfl rfl ?_
  refine bs_alenI hC _ (cX_gi ε S k0 (cX_len k0) hk0 rfl) (v := (Int32.ofNat (cX_len k0))) rfl dX9_at_6 ?_
  refine bs_icmp_ge hC 16 dX9_at_7 (by decide) (fun c2 => ?_) (fun c2 => ?_)
  · refine bs_iconst hC (0 : Int32) dX9_at_16 rfl ?_
    exact bs_iret hC dX9_at_17 rfl
  refine bs_aload_n hC 0 dX9_at_10 rfl rfl ?_
  refine bs_iload_n hC 1 dX9_at_11 rfl rfl ?_
  refine bs_iald hC _ (cX_gi ε S k0 (cX_len k0) hk0 rfl) dX9_at_12 (fun z1 ez1 => ?_)
  refine bs_goto hC 17 dX9_at_13 (by decide) ?_
  exact bs_iret hC dX9_at_17 rfl
theorem c_X9_at (l : Launch) (D : va_G) (ε : bd_E) (k0 : Nat) (x1 : Int32) (hk0 : k0 < 31) (S : bd_T) (h0 : (f_X9_at k0 x1 S).isSome = true) : bd_Con l yX9_at (Cond.code yX9_at cX9_at 2 (some .int) :: bd_tbl) ({ frames := 0, cells := 0, slots := 0, locals := 0 } : Room) D ε (cX ε) bd_vi [.ref (bd_a ε (12 + k0)), .int x1] S (f_X9_at k0 x1 S) :=
  bd_con (by decide +kernel) (Nat.le_of_ble_eq_true rfl) ⟨rfl, rfl⟩ h0 (fun Γ _ _ hC => bs_eq bs_bs (b_X9_at hC k0 x1 hk0 S))
set_option maxRecDepth 100000 in
set_option maxHeartbeats 4000000 in
theorem b_X9_lay {Γ : bd_G} {ε : bd_E} {t0 : Option (Unit × bd_T)} (hC : bd_C Γ cX9_lay 3 RX9 none ({ frames := 0, cells := 0, slots := 0, locals := 0 } : Room) ε (cX ε) bd_vv t0) (k0 : Nat) (x1 : Int32) (x2 : Int32) (hk0 : k0 < 31) (S : bd_T) : bd_S Γ 3 t0 ((f_X9_lay k0 x1 x2 S).bind some) (cX ε S) 0 [(0, .ref (bd_a ε (12 + k0))), (1, .int x1), (2, .int x2)] [] := by
  unfold f_X9_lay
  refine bs_iload_n hC 1 dX9_lay_0 rfl rfl ?_
  refine bs_if_lt hC 14 dX9_lay_1 (by decide) (fun c3 => ?_) (fun c3 => ?_)
  · exact bs_vret hC dX9_lay_14 rfl
  refine bs_iload_n hC 1 dX9_lay_4 rfl rfl ?_
  refine bs_aload_n hC 0 dX9_lay_5 rfl rfl ?_
  refine bs_alenI hC _ (cX_gi ε S k0 (cX_len k0) hk0 rfl) (v := (Int32.ofNat (cX_len k0))) rfl dX9_lay_6 ?_
  refine bs_icmp_ge hC 14 dX9_lay_7 (by decide) (fun c2 => ?_) (fun c2 => ?_)
  · exact bs_vret hC dX9_lay_14 rfl
  refine bs_aload_n hC 0 dX9_lay_10 rfl rfl ?_
  refine bs_iload_n hC 1 dX9_lay_11 rfl rfl ?_
  refine bs_iload_n hC 2 dX9_lay_12 rfl rfl ?_
  refine bs_iast hC _ (cX_gi ε S k0 (cX_len k0) hk0 rfl) (cX_si ε S k0 (cX_len k0) hk0 rfl _) dX9_lay_13 (fun S1 eS1 => ?_)
  exact bs_vret hC dX9_lay_14 rfl
theorem c_X9_lay (l : Launch) (D : va_G) (ε : bd_E) (k0 : Nat) (x1 : Int32) (x2 : Int32) (hk0 : k0 < 31) (S : bd_T) (h0 : (f_X9_lay k0 x1 x2 S).isSome = true) : bd_Con l yX9_lay (Cond.code yX9_lay cX9_lay 3 none :: bd_tbl) ({ frames := 0, cells := 0, slots := 0, locals := 0 } : Room) D ε (cX ε) bd_vv [.ref (bd_a ε (12 + k0)), .int x1, .int x2] S (f_X9_lay k0 x1 x2 S) :=
  bd_con (by decide +kernel) (Nat.le_of_ble_eq_true rfl) ⟨rfl, rfl⟩ h0 (fun Γ _ _ hC => bs_eq bs_bs (b_X9_lay hC k0 x1 x2 hk0 S))
set_option maxRecDepth 100000 in
set_option maxHeartbeats 4000000 in
theorem b_X9_refuse {Γ : bd_G} {ε : bd_E} {t0 : Option (Int32 × bd_T)} (hC : bd_C Γ cX9_refuse 2 RX9 (some .int) ({ frames := 1, cells := 0, slots := 0, locals := 22 } : Room) ε (cX ε) bd_vi t0) (x1 : Int32)  (S : bd_T) : bd_S Γ 2 t0 ((f_X9_refuse x1 S).bind some) (cX ε S) 0 [(0, .ref (bd_a ε 0)), (1, .int x1)] [] := by
  unfold f_X9_refuse
  refine bs_aload_n hC 0 dX9_refuse_0 rfl rfl ?_
  refine bs_get hC (v := .ref (bd_a ε (12 + 1))) hin_X9 0 (cX_o0 ε S) rfl 6 (by decide) mw_212 rfl dX9_refuse_1 ?_
  refine bs_iload_n hC 1 dX9_refuse_4 rfl rfl ?_
  refine bs_ineg hC dX9_refuse_5 ?_
  refine bs_iconst hC (1 : Int32) dX9_refuse_6 rfl ?_
  refine bs_isub hC dX9_refuse_7 ?_
  refine bs_aload_n hC 0 dX9_refuse_8 rfl rfl ?_
  refine bs_get hC (v := .ref (bd_a ε (12 + 1))) hin_X9 0 (cX_o0 ε S) rfl 6 (by decide) mw_212 rfl dX9_refuse_9 ?_
  refine bs_iload_n hC 1 dX9_refuse_12 rfl rfl ?_
  refine bs_ineg hC dX9_refuse_13 ?_
  refine bs_iconst hC (1 : Int32) dX9_refuse_14 rfl ?_
  refine bs_isub hC dX9_refuse_15 ?_
  refine bs_callS_i hC (rm := ({ frames := 0, cells := 0, slots := 0, locals := 0 } : Room)) [.ref (bd_a ε (12 + 1)), .int ((-x1) - (1 : Int32))] [.int ((-x1) - (1 : Int32)), .ref (bd_a ε (12 + 1))] (fun h => c_X9_at (bd_l Γ) (bd_D Γ) ε 1 ((-x1) - (1 : Int32)) (by decide) S h) mw_237 mw_235 mw_236 mw_72 by_X9_at ⟨rfl, rfl, by decide, by decide⟩ rfl rfl (Nat.le_of_ble_eq_true rfl) dX9_refuse_16 (fun r1 S2 eS2 => ?_)
  refine bs_iconst hC (1 : Int32) dX9_refuse_19 rfl ?_
  refine bs_iadd hC dX9_refuse_20 ?_
  refine bs_callS_v hC (rm := ({ frames := 0, cells := 0, slots := 0, locals := 0 } : Room)) [.ref (bd_a ε (12 + 1)), .int ((-x1) - (1 : Int32)), .int (r1 + (1 : Int32))] [] (fun h => c_X9_lay (bd_l Γ) (bd_D Γ) ε 1 ((-x1) - (1 : Int32)) (r1 + (1 : Int32)) (by decide) S2 h) mw_240 mw_238 mw_239 mw_72 by_X9_lay ⟨rfl, rfl, by decide, by decide⟩ rfl rfl (Nat.le_of_ble_eq_true rfl) dX9_refuse_21 (fun r3 S4 eS4 => ?_)
  refine bs_iload_n hC 1 dX9_refuse_24 rfl rfl ?_
  exact bs_iret hC dX9_refuse_25 rfl
theorem c_X9_refuse (l : Launch) (D : va_G) (ε : bd_E) (x1 : Int32)  (S : bd_T) (h0 : (f_X9_refuse x1 S).isSome = true) : bd_Con l yX9_refuse (Cond.code yX9_refuse cX9_refuse 2 (some .int) :: bd_tbl) ({ frames := 1, cells := 0, slots := 0, locals := 22 } : Room) D ε (cX ε) bd_vi [.ref (bd_a ε 0), .int x1] S (f_X9_refuse x1 S) :=
  bd_con (by decide +kernel) (Nat.le_of_ble_eq_true rfl) ⟨rfl, rfl⟩ h0 (fun Γ _ _ hC => bs_eq bs_bs (b_X9_refuse hC x1 S))
set_option maxRecDepth 100000 in
set_option maxHeartbeats 4000000 in
theorem lb_X6_take_3 {Γ : bd_G} {ε : bd_E} {t0 : Option (Int32 × bd_T)} (hC : bd_C Γ cX6_take 5 RX6 (some .int) ({ frames := 1, cells := 0, slots := 0, locals := 22 } : Room) ε (cX ε) bd_vi t0) (p1 : Int32) (p2 : Int64) {K : (Int32 × bd_T) ⊕ (bd_T) → Option (Int32 × bd_T)} (hk : ∀ (x4 : Int32) (S : bd_T), bd_S Γ 5 t0 (K (.inl (x4, S))) (cX ε S) 3 [(0, .ref (bd_a ε 3)), (1, .int p1), (2, .long p2), (4, .int x4)] []) (hx : ∀ (S : bd_T), bd_S Γ 5 t0 (K (.inr S)) (cX ε S) 48 [(0, .ref (bd_a ε 3))] []) (x4 : Int32) (S : bd_T) : bd_S Γ 5 t0 ((fb_X6_take_3 p1 p2 x4 S).bind K) (cX ε S) 3 [(0, .ref (bd_a ε 3)), (1, .int p1), (2, .long p2), (4, .int x4)] [] := by
  unfold fb_X6_take_3
  refine bs_iload hC 3 dX6_take_3 rfl ?_
  refine bs_iload_n hC 1 dX6_take_5 rfl rfl ?_
  refine bs_icmp_ge hC 48 dX6_take_6 (by decide) (fun c4 => ?_) (fun c4 => ?_)
  · refine bs_some ?_
    refine bs_pick [0] rfl ?_
    exact hx S
  refine bs_aload_n hC 0 dX6_take_9 rfl rfl ?_
  refine bs_get hC (v := .ref (bd_a ε (12 + 8))) hin_X6 3 (cX_o3 ε S) rfl 0 (by decide) mw_158 rfl dX6_take_10 ?_
  refine bs_aload_n hC 0 dX6_take_13 rfl rfl ?_
  refine bs_get hC (v := .int (bd_I S 10)) hin_X6 3 (cX_o3 ε S) rfl 1 (by decide) mw_159 rfl dX6_take_14 ?_
  refine bs_lload_n hC 2 dX6_take_17 rfl rfl ?_
  refine bs_bipush hC (8 : Int32) dX6_take_18 rfl ?_
  refine bs_iload hC 3 dX6_take_20 rfl ?_
  refine bs_imul hC dX6_take_22 ?_
  refine bs_lushr hC dX6_take_23 ?_
  refine bs_l2i hC dX6_take_24 ?_
  refine bs_sipush hC (255 : Int32) dX6_take_25 rfl ?_
  refine bs_iand hC dX6_take_28 ?_
  refine bs_callSN_v hC (rm := ({ frames := 0, cells := 0, slots := 0, locals := 0 } : Room)) [.ref (bd_a ε (12 + 8)), .int (bd_I S 10), .int ((((((p2).toUInt64 >>> ((((8 : Int32) * x4)).toInt64.toUInt64 &&& Int64.toUInt64 63)).toInt64)).toInt32) &&& (255 : Int32))] [] (fun h => c_X9_lay (bd_l Γ) (bd_D Γ) ε 8 (bd_I S 10) ((((((p2).toUInt64 >>> ((((8 : Int32) * x4)).toInt64.toUInt64 &&& Int64.toUInt64 63)).toInt64)).toInt32) &&& (255 : Int32)) (by decide) S h) mw_240 nm_11 mw_239 mw_72 by_X9_lay ⟨rfl, rfl, by decide, by decide⟩ rfl rfl (Nat.le_of_ble_eq_true rfl) dX6_take_29 (fun r1 S2 eS2 => ?_)
  refine bs_aload_n hC 0 dX6_take_32 rfl rfl ?_
  refine bs_dup hC dX6_take_33 rfl ?_
  refine bs_get hC (v := .int (bd_I S2 10)) hin_X6 3 (cX_o3 ε S2) rfl 1 (by decide) mw_159 rfl dX6_take_34 ?_
  refine bs_iconst hC (1 : Int32) dX6_take_37 rfl ?_
  refine bs_iadd hC dX6_take_38 ?_
  refine bs_put hC (kk := 10) hin_X6 tyX6 tyX6_ok nmX6 3 (cX_o3 ε S2) rfl 1 (by decide) mw_159 rfl rfl rfl (Nat.le_of_ble_eq_true rfl) (cX_p10 ε S2 _) dX6_take_39 (fun S3 eS3 => ?_)
  refine bs_iinc hC 3 [(4, .int (x4 + 1)), (0, .ref (bd_a ε 3)), (1, .int p1), (2, .long p2)] dX6_take_42 rfl rfl (by decide) rfl ?_
  refine bs_goto hC 3 dX6_take_45 (by decide) ?_
  refine bs_some ?_
  refine bs_pick [1, 2, 3, 0] rfl ?_
  exact hk (x4 + 1) S3
set_option maxRecDepth 100000 in
set_option maxHeartbeats 4000000 in
theorem b_X6_take {Γ : bd_G} {ε : bd_E} {t0 : Option (Int32 × bd_T)} (hC : bd_C Γ cX6_take 5 RX6 (some .int) ({ frames := 1, cells := 0, slots := 0, locals := 22 } : Room) ε (cX ε) bd_vi t0) (x1 : Int32) (x2 : Int64)  (S : bd_T) : bd_S Γ 5 t0 ((f_X6_take x1 x2 S).bind some) (cX ε S) 0 [(0, .ref (bd_a ε 3)), (1, .int x1), (2, .long x2)] [] := by
  unfold f_X6_take
  refine bs_iconst hC (0 : Int32) dX6_take_0 rfl ?_
  refine bs_istore hC [(4, .int (0 : Int32)), (0, .ref (bd_a ε 3)), (1, .int x1), (2, .long x2)] dX6_take_1 (by decide) rfl ?_
  refine bs_pick [1, 2, 3, 0] rfl ?_
  refine bs_loopK (fun (q : Int32 × bd_T) t => bd_S Γ 5 t0 t (cX ε (q.2)) 3 [(0, .ref (bd_a ε 3)), (1, .int x1), (2, .long x2), (4, .int (q.1))] []) (fun (q : bd_T) t => bd_S Γ 5 t0 t (cX ε (q)) 48 [(0, .ref (bd_a ε 3))] []) (fun q => fb_X6_take_3 x1 x2 q.1 q.2) (fun _ => bs_none) (fun K hk hx q => lb_X6_take_3 hC   x1 x2 (fun a0 S => hk (a0, S)) (fun  S => hx (S))  (q.1) (q.2)) (fun r => ?_) bd_K ((0 : Int32), S)
  obtain ⟨S5, rfl⟩ : ∃ z, z = r := ⟨_, rfl⟩
  show bd_S Γ 5 t0 (Option.bind _ _) (cX ε S5) 48 [(0, .ref (bd_a ε 3))] []
  try dsimp only
  refine bs_aload_n hC 0 dX6_take_48 rfl rfl ?_
  refine bs_get hC (v := .int (bd_I S5 10)) hin_X6 3 (cX_o3 ε S5) rfl 1 (by decide) mw_159 rfl dX6_take_49 ?_
  exact bs_iret hC dX6_take_52 rfl
theorem c_X6_take (l : Launch) (D : va_G) (ε : bd_E) (x1 : Int32) (x2 : Int64)  (S : bd_T) (h0 : (f_X6_take x1 x2 S).isSome = true) : bd_Con l yX6_take (Cond.code yX6_take cX6_take 5 (some .int) :: bd_tbl) ({ frames := 1, cells := 0, slots := 0, locals := 22 } : Room) D ε (cX ε) bd_vi [.ref (bd_a ε 3), .int x1, .long x2] S (f_X6_take x1 x2 S) :=
  bd_con (by decide +kernel) (Nat.le_of_ble_eq_true rfl) ⟨rfl, rfl⟩ h0 (fun Γ _ _ hC => bs_eq bs_bs (b_X6_take hC x1 x2 S))
set_option maxRecDepth 100000 in
set_option maxHeartbeats 4000000 in
theorem b_X9_feed {Γ : bd_G} {ε : bd_E} {t0 : Option (Int32 × bd_T)} (hC : bd_C Γ cX9_feed 4 RX9 (some .int) ({ frames := 2, cells := 0, slots := 0, locals := 46 } : Room) ε (cX ε) bd_vi t0) (x1 : Int32) (x2 : Int64)  (S : bd_T) : bd_S Γ 4 t0 ((f_X9_feed x1 x2 S).bind some) (cX ε S) 0 [(0, .ref (bd_a ε 0)), (1, .int x1), (2, .long x2)] [] := by
  unfold f_X9_feed
  refine bs_iload_n hC 1 dX9_feed_0 rfl rfl ?_
  refine bs_iconst hC (1 : Int32) dX9_feed_1 rfl ?_
  refine bs_icmp_ge hC 12 dX9_feed_2 (by decide) (fun c11 => ?_) (fun c11 => ?_)
  · refine bs_iload_n hC 1 dX9_feed_12 rfl rfl ?_
    refine bs_bipush hC (8 : Int32) dX9_feed_13 rfl ?_
    refine bs_icmp_gt hC 32 dX9_feed_15 (by decide) (fun c8 => ?_) (fun c8 => ?_)
    · refine bs_aload_n hC 0 dX9_feed_32 rfl rfl ?_
      refine bs_bipush hC (-6 : Int32) dX9_feed_33 rfl ?_
      refine bs_callV_i hC (rm := ({ frames := 1, cells := 0, slots := 0, locals := 22 } : Room)) [.int (-6 : Int32)] [] (fun h => c_X9_refuse (bd_l Γ) (bd_D Γ) ε (-6 : Int32) S h) mw_234 mw_232 mw_233 mw_72 mw_0 (cX_o0 ε S) rfl by_X9_refuse ⟨rfl, rfl, by decide, by decide⟩ rfl rfl (Nat.le_of_ble_eq_true rfl) dX9_feed_35 (fun r1 S2 eS2 => ?_)
      exact bs_iret hC dX9_feed_38 rfl
    refine bs_aload_n hC 0 dX9_feed_18 rfl rfl ?_
    refine bs_get hC (v := .ref (bd_a ε 3)) hin_X9 0 (cX_o0 ε S) rfl 3 (by decide) mw_209 rfl dX9_feed_19 ?_
    refine bs_getN hC (v := .int (bd_I S 10)) hin_X6 3 (cX_o3 ε S) rfl 1 (by decide) nf_29 rfl dX9_feed_22 ?_
    refine bs_iload_n hC 1 dX9_feed_25 rfl rfl ?_
    refine bs_iadd hC dX9_feed_26 ?_
    refine bs_bipush hC (20 : Int32) dX9_feed_27 rfl ?_
    refine bs_icmp_le hC 39 dX9_feed_29 (by decide) (fun c7 => ?_) (fun c7 => ?_)
    · refine bs_aload_n hC 0 dX9_feed_39 rfl rfl ?_
      refine bs_get hC (v := .ref (bd_a ε 3)) hin_X9 0 (cX_o0 ε S) rfl 3 (by decide) mw_209 rfl dX9_feed_40 ?_
      refine bs_iload_n hC 1 dX9_feed_43 rfl rfl ?_
      refine bs_lload_n hC 2 dX9_feed_44 rfl rfl ?_
      refine bs_callVN_i hC (rm := ({ frames := 1, cells := 0, slots := 0, locals := 22 } : Room)) [.int x1, .long x2] [] (fun h => c_X6_take (bd_l Γ) (bd_D Γ) ε x1 x2 S h) mw_242 nm_10 mw_241 mw_76 mw_1 (cX_o3 ε S) rfl by_X6_take ⟨rfl, rfl, by decide, by decide⟩ rfl rfl (Nat.le_of_ble_eq_true rfl) dX9_feed_45 (fun r3 S4 eS4 => ?_)
      exact bs_iret hC dX9_feed_48 rfl
    refine bs_aload_n hC 0 dX9_feed_32 rfl rfl ?_
    refine bs_bipush hC (-6 : Int32) dX9_feed_33 rfl ?_
    refine bs_callV_i hC (rm := ({ frames := 1, cells := 0, slots := 0, locals := 22 } : Room)) [.int (-6 : Int32)] [] (fun h => c_X9_refuse (bd_l Γ) (bd_D Γ) ε (-6 : Int32) S h) mw_234 mw_232 mw_233 mw_72 mw_0 (cX_o0 ε S) rfl by_X9_refuse ⟨rfl, rfl, by decide, by decide⟩ rfl rfl (Nat.le_of_ble_eq_true rfl) dX9_feed_35 (fun r5 S6 eS6 => ?_)
    exact bs_iret hC dX9_feed_38 rfl
  refine bs_aload_n hC 0 dX9_feed_5 rfl rfl ?_
  refine bs_bipush hC (-4 : Int32) dX9_feed_6 rfl ?_
  refine bs_callV_i hC (rm := ({ frames := 1, cells := 0, slots := 0, locals := 22 } : Room)) [.int (-4 : Int32)] [] (fun h => c_X9_refuse (bd_l Γ) (bd_D Γ) ε (-4 : Int32) S h) mw_234 mw_232 mw_233 mw_72 mw_0 (cX_o0 ε S) rfl by_X9_refuse ⟨rfl, rfl, by decide, by decide⟩ rfl rfl (Nat.le_of_ble_eq_true rfl) dX9_feed_8 (fun r9 S10 eS10 => ?_)
  exact bs_iret hC dX9_feed_11 rfl
theorem c_X9_feed (l : Launch) (D : va_G) (ε : bd_E) (x1 : Int32) (x2 : Int64)  (S : bd_T) (h0 : (f_X9_feed x1 x2 S).isSome = true) : bd_Con l yX9_feed (Cond.code yX9_feed cX9_feed 4 (some .int) :: bd_tbl) ({ frames := 2, cells := 0, slots := 0, locals := 46 } : Room) D ε (cX ε) bd_vi [.ref (bd_a ε 0), .int x1, .long x2] S (f_X9_feed x1 x2 S) :=
  bd_con (by decide +kernel) (Nat.le_of_ble_eq_true rfl) ⟨rfl, rfl⟩ h0 (fun Γ _ _ hC => bs_eq bs_bs (b_X9_feed hC x1 x2 S))
set_option maxRecDepth 100000 in
set_option maxHeartbeats 4000000 in
theorem b_X6_byteHere {Γ : bd_G} {ε : bd_E} {t0 : Option (Int32 × bd_T)} (hC : bd_C Γ cX6_byteHere 1 RX6 (some .int) ({ frames := 1, cells := 0, slots := 0, locals := 21 } : Room) ε (cX ε) bd_vi t0)  (S : bd_T) : bd_S Γ 1 t0 ((f_X6_byteHere S).bind some) (cX ε S) 0 [(0, .ref (bd_a ε 3))] [] := by
  unfold f_X6_byteHere
  refine bs_aload_n hC 0 dX6_byteHere_0 rfl rfl ?_
  refine bs_get hC (v := .int (bd_I S 11)) hin_X6 3 (cX_o3 ε S) rfl 2 (by decide) mw_160 rfl dX6_byteHere_1 ?_
  refine bs_aload_n hC 0 dX6_byteHere_4 rfl rfl ?_
  refine bs_get hC (v := .int (bd_I S 10)) hin_X6 3 (cX_o3 ε S) rfl 1 (by decide) mw_159 rfl dX6_byteHere_5 ?_
  refine bs_icmp_ge hC 25 dX6_byteHere_8 (by decide) (fun c3 => ?_) (fun c3 => ?_)
  · refine bs_iconst hC (-1 : Int32) dX6_byteHere_25 rfl ?_
    exact bs_iret hC dX6_byteHere_26 rfl
  refine bs_aload_n hC 0 dX6_byteHere_11 rfl rfl ?_
  refine bs_get hC (v := .ref (bd_a ε (12 + 8))) hin_X6 3 (cX_o3 ε S) rfl 0 (by decide) mw_158 rfl dX6_byteHere_12 ?_
  refine bs_aload_n hC 0 dX6_byteHere_15 rfl rfl ?_
  refine bs_get hC (v := .int (bd_I S 11)) hin_X6 3 (cX_o3 ε S) rfl 2 (by decide) mw_160 rfl dX6_byteHere_16 ?_
  refine bs_callSN_i hC (rm := ({ frames := 0, cells := 0, slots := 0, locals := 0 } : Room)) [.ref (bd_a ε (12 + 8)), .int (bd_I S 11)] [] (fun h => c_X9_at (bd_l Γ) (bd_D Γ) ε 8 (bd_I S 11) (by decide) S h) mw_237 nm_13 mw_236 mw_72 by_X9_at ⟨rfl, rfl, by decide, by decide⟩ rfl rfl (Nat.le_of_ble_eq_true rfl) dX6_byteHere_19 (fun r1 S2 eS2 => ?_)
  refine bs_goto hC 26 dX6_byteHere_22 (by decide) ?_
  exact bs_iret hC dX6_byteHere_26 rfl
theorem c_X6_byteHere (l : Launch) (D : va_G) (ε : bd_E)  (S : bd_T) (h0 : (f_X6_byteHere S).isSome = true) : bd_Con l yX6_byteHere (Cond.code yX6_byteHere cX6_byteHere 1 (some .int) :: bd_tbl) ({ frames := 1, cells := 0, slots := 0, locals := 21 } : Room) D ε (cX ε) bd_vi [.ref (bd_a ε 3)] S (f_X6_byteHere S) :=
  bd_con (by decide +kernel) (Nat.le_of_ble_eq_true rfl) ⟨rfl, rfl⟩ h0 (fun Γ _ _ hC => bs_eq bs_bs (b_X6_byteHere hC S))
set_option maxRecDepth 100000 in
set_option maxHeartbeats 4000000 in
theorem b_X6_lawOf {Γ : bd_G} {ε : bd_E} {t0 : Option (Int32 × bd_T)} (hC : bd_C Γ cX6_lawOf 1 RX6 (some .int) ({ frames := 0, cells := 0, slots := 0, locals := 0 } : Room) ε (cX ε) bd_vi t0) (x0 : Int32)  (S : bd_T) : bd_S Γ 1 t0 ((f_X6_lawOf x0 S).bind some) (cX ε S) 0 [(0, .int x0)] [] := by
  unfold f_X6_lawOf
  refine bs_iload_n hC 0 dX6_lawOf_0 rfl rfl ?_
  refine bs_case (c := x0 = 100) (fun c1 => ?_) (fun c1 => ?_)
  · refine bs_tabIn hC (100 : Int32) (103) 104 dX6_lawOf_1 c1 (by decide) (by decide) rfl (by decide) ?_
    refine bs_iconst hC (4 : Int32) dX6_lawOf_104 rfl ?_
    exact bs_iret hC dX6_lawOf_105 rfl
  refine bs_case (c := x0 = 101) (fun c2 => ?_) (fun c2 => ?_)
  · refine bs_tabIn hC (101 : Int32) (95) 96 dX6_lawOf_1 c2 (by decide) (by decide) rfl (by decide) ?_
    refine bs_iconst hC (0 : Int32) dX6_lawOf_96 rfl ?_
    exact bs_iret hC dX6_lawOf_97 rfl
  refine bs_case (c := x0 = 102) (fun c3 => ?_) (fun c3 => ?_)
  · refine bs_tabIn hC (102 : Int32) (107) 108 dX6_lawOf_1 c3 (by decide) (by decide) rfl (by decide) ?_
    refine bs_iconst hC (-1 : Int32) dX6_lawOf_108 rfl ?_
    exact bs_iret hC dX6_lawOf_109 rfl
  refine bs_case (c := x0 = 103) (fun c4 => ?_) (fun c4 => ?_)
  · refine bs_tabIn hC (103 : Int32) (107) 108 dX6_lawOf_1 c4 (by decide) (by decide) rfl (by decide) ?_
    refine bs_iconst hC (-1 : Int32) dX6_lawOf_108 rfl ?_
    exact bs_iret hC dX6_lawOf_109 rfl
  refine bs_case (c := x0 = 104) (fun c5 => ?_) (fun c5 => ?_)
  · refine bs_tabIn hC (104 : Int32) (107) 108 dX6_lawOf_1 c5 (by decide) (by decide) rfl (by decide) ?_
    refine bs_iconst hC (-1 : Int32) dX6_lawOf_108 rfl ?_
    exact bs_iret hC dX6_lawOf_109 rfl
  refine bs_case (c := x0 = 105) (fun c6 => ?_) (fun c6 => ?_)
  · refine bs_tabIn hC (105 : Int32) (107) 108 dX6_lawOf_1 c6 (by decide) (by decide) rfl (by decide) ?_
    refine bs_iconst hC (-1 : Int32) dX6_lawOf_108 rfl ?_
    exact bs_iret hC dX6_lawOf_109 rfl
  refine bs_case (c := x0 = 106) (fun c7 => ?_) (fun c7 => ?_)
  · refine bs_tabIn hC (106 : Int32) (107) 108 dX6_lawOf_1 c7 (by decide) (by decide) rfl (by decide) ?_
    refine bs_iconst hC (-1 : Int32) dX6_lawOf_108 rfl ?_
    exact bs_iret hC dX6_lawOf_109 rfl
  refine bs_case (c := x0 = 107) (fun c8 => ?_) (fun c8 => ?_)
  · refine bs_tabIn hC (107 : Int32) (105) 106 dX6_lawOf_1 c8 (by decide) (by decide) rfl (by decide) ?_
    refine bs_iconst hC (5 : Int32) dX6_lawOf_106 rfl ?_
    exact bs_iret hC dX6_lawOf_107 rfl
  refine bs_case (c := x0 = 108) (fun c9 => ?_) (fun c9 => ?_)
  · refine bs_tabIn hC (108 : Int32) (107) 108 dX6_lawOf_1 c9 (by decide) (by decide) rfl (by decide) ?_
    refine bs_iconst hC (-1 : Int32) dX6_lawOf_108 rfl ?_
    exact bs_iret hC dX6_lawOf_109 rfl
  refine bs_case (c := x0 = 109) (fun c10 => ?_) (fun c10 => ?_)
  · refine bs_tabIn hC (109 : Int32) (107) 108 dX6_lawOf_1 c10 (by decide) (by decide) rfl (by decide) ?_
    refine bs_iconst hC (-1 : Int32) dX6_lawOf_108 rfl ?_
    exact bs_iret hC dX6_lawOf_109 rfl
  refine bs_case (c := x0 = 110) (fun c11 => ?_) (fun c11 => ?_)
  · refine bs_tabIn hC (110 : Int32) (107) 108 dX6_lawOf_1 c11 (by decide) (by decide) rfl (by decide) ?_
    refine bs_iconst hC (-1 : Int32) dX6_lawOf_108 rfl ?_
    exact bs_iret hC dX6_lawOf_109 rfl
  refine bs_case (c := x0 = 111) (fun c12 => ?_) (fun c12 => ?_)
  · refine bs_tabIn hC (111 : Int32) (107) 108 dX6_lawOf_1 c12 (by decide) (by decide) rfl (by decide) ?_
    refine bs_iconst hC (-1 : Int32) dX6_lawOf_108 rfl ?_
    exact bs_iret hC dX6_lawOf_109 rfl
  refine bs_case (c := x0 = 112) (fun c13 => ?_) (fun c13 => ?_)
  · refine bs_tabIn hC (112 : Int32) (107) 108 dX6_lawOf_1 c13 (by decide) (by decide) rfl (by decide) ?_
    refine bs_iconst hC (-1 : Int32) dX6_lawOf_108 rfl ?_
    exact bs_iret hC dX6_lawOf_109 rfl
  refine bs_case (c := x0 = 113) (fun c14 => ?_) (fun c14 => ?_)
  · refine bs_tabIn hC (113 : Int32) (107) 108 dX6_lawOf_1 c14 (by decide) (by decide) rfl (by decide) ?_
    refine bs_iconst hC (-1 : Int32) dX6_lawOf_108 rfl ?_
    exact bs_iret hC dX6_lawOf_109 rfl
  refine bs_case (c := x0 = 114) (fun c15 => ?_) (fun c15 => ?_)
  · refine bs_tabIn hC (114 : Int32) (107) 108 dX6_lawOf_1 c15 (by decide) (by decide) rfl (by decide) ?_
    refine bs_iconst hC (-1 : Int32) dX6_lawOf_108 rfl ?_
    exact bs_iret hC dX6_lawOf_109 rfl
  refine bs_case (c := x0 = 115) (fun c16 => ?_) (fun c16 => ?_)
  · refine bs_tabIn hC (115 : Int32) (99) 100 dX6_lawOf_1 c16 (by decide) (by decide) rfl (by decide) ?_
    refine bs_iconst hC (2 : Int32) dX6_lawOf_100 rfl ?_
    exact bs_iret hC dX6_lawOf_101 rfl
  refine bs_case (c := x0 = 116) (fun c17 => ?_) (fun c17 => ?_)
  · refine bs_tabIn hC (116 : Int32) (97) 98 dX6_lawOf_1 c17 (by decide) (by decide) rfl (by decide) ?_
    refine bs_iconst hC (1 : Int32) dX6_lawOf_98 rfl ?_
    exact bs_iret hC dX6_lawOf_99 rfl
  refine bs_case (c := x0 = 117) (fun c18 => ?_) (fun c18 => ?_)
  · refine bs_tabIn hC (117 : Int32) (107) 108 dX6_lawOf_1 c18 (by decide) (by decide) rfl (by decide) ?_
    refine bs_iconst hC (-1 : Int32) dX6_lawOf_108 rfl ?_
    exact bs_iret hC dX6_lawOf_109 rfl
  refine bs_case (c := x0 = 118) (fun c19 => ?_) (fun c19 => ?_)
  · refine bs_tabIn hC (118 : Int32) (107) 108 dX6_lawOf_1 c19 (by decide) (by decide) rfl (by decide) ?_
    refine bs_iconst hC (-1 : Int32) dX6_lawOf_108 rfl ?_
    exact bs_iret hC dX6_lawOf_109 rfl
  refine bs_case (c := x0 = 119) (fun c20 => ?_) (fun c20 => ?_)
  · refine bs_tabIn hC (119 : Int32) (101) 102 dX6_lawOf_1 c20 (by decide) (by decide) rfl (by decide) ?_
    refine bs_iconst hC (3 : Int32) dX6_lawOf_102 rfl ?_
    exact bs_iret hC dX6_lawOf_103 rfl
  refine bs_tabOut hC 108 dX6_lawOf_1 (by have h0 := lv_neT (k := (100 : Int32)) (a := 100) c1 rfl; have h1 := lv_neT (k := (101 : Int32)) (a := 101) c2 rfl; have h2 := lv_neT (k := (102 : Int32)) (a := 102) c3 rfl; have h3 := lv_neT (k := (103 : Int32)) (a := 103) c4 rfl; have h4 := lv_neT (k := (104 : Int32)) (a := 104) c5 rfl; have h5 := lv_neT (k := (105 : Int32)) (a := 105) c6 rfl; have h6 := lv_neT (k := (106 : Int32)) (a := 106) c7 rfl; have h7 := lv_neT (k := (107 : Int32)) (a := 107) c8 rfl; have h8 := lv_neT (k := (108 : Int32)) (a := 108) c9 rfl; have h9 := lv_neT (k := (109 : Int32)) (a := 109) c10 rfl; have h10 := lv_neT (k := (110 : Int32)) (a := 110) c11 rfl; have h11 := lv_neT (k := (111 : Int32)) (a := 111) c12 rfl; have h12 := lv_neT (k := (112 : Int32)) (a := 112) c13 rfl; have h13 := lv_neT (k := (113 : Int32)) (a := 113) c14 rfl; have h14 := lv_neT (k := (114 : Int32)) (a := 114) c15 rfl; have h15 := lv_neT (k := (115 : Int32)) (a := 115) c16 rfl; have h16 := lv_neT (k := (116 : Int32)) (a := 116) c17 rfl; have h17 := lv_neT (k := (117 : Int32)) (a := 117) c18 rfl; have h18 := lv_neT (k := (118 : Int32)) (a := 118) c19 rfl; have h19 := lv_neT (k := (119 : Int32)) (a := 119) c20 rfl; omega) (by decide) ?_
  refine bs_iconst hC (-1 : Int32) dX6_lawOf_108 rfl ?_
  exact bs_iret hC dX6_lawOf_109 rfl
theorem c_X6_lawOf (l : Launch) (D : va_G) (ε : bd_E) (x0 : Int32)  (S : bd_T) (h0 : (f_X6_lawOf x0 S).isSome = true) : bd_Con l yX6_lawOf (Cond.code yX6_lawOf cX6_lawOf 1 (some .int) :: bd_tbl) ({ frames := 0, cells := 0, slots := 0, locals := 0 } : Room) D ε (cX ε) bd_vi [.int x0] S (f_X6_lawOf x0 S) :=
  bd_con (by decide +kernel) (Nat.le_of_ble_eq_true rfl) ⟨rfl, rfl⟩ h0 (fun Γ _ _ hC => bs_eq bs_bs (b_X6_lawOf hC x0 S))
set_option maxRecDepth 100000 in
set_option maxHeartbeats 4000000 in
theorem lb_X6_readNumber_4 {Γ : bd_G} {ε : bd_E} {t0 : Option (Int32 × bd_T)} (hC : bd_C Γ cX6_readNumber 4 RX6 (some .int) ({ frames := 2, cells := 0, slots := 0, locals := 41 } : Room) ε (cX ε) bd_vi t0) (p1 : Int32) {K : (Int32 × Int32 × bd_T) ⊕ (Int32 × Int32 × bd_T) → Option (Int32 × bd_T)} (hk : ∀ (x2 : Int32) (x3 : Int32) (S : bd_T), bd_S Γ 4 t0 (K (.inl (x2, x3, S))) (cX ε S) 4 [(0, .ref (bd_a ε 3)), (1, .int p1), (2, .int x2), (3, .int x3)] []) (hx : ∀ (y2 : Int32) (y3 : Int32) (S : bd_T), bd_S Γ 4 t0 (K (.inr (y2, y3, S))) (cX ε S) 56 [(2, .int y2), (3, .int y3)] []) (x2 : Int32) (x3 : Int32) (S : bd_T) : bd_S Γ 4 t0 ((fb_X6_readNumber_4 p1 x2 x3 S).bind K) (cX ε S) 4 [(0, .ref (bd_a ε 3)), (1, .int p1), (2, .int x2), (3, .int x3)] [] := by
  unfold fb_X6_readNumber_4
  refine bs_iload_n hC 3 dX6_readNumber_4 rfl rfl ?_
  refine bs_iload_n hC 1 dX6_readNumber_5 rfl rfl ?_
  refine bs_icmp_ge hC 56 dX6_readNumber_6 (by decide) (fun c11 => ?_) (fun c11 => ?_)
  · refine bs_some ?_
    refine bs_pick [2, 3] rfl ?_
    exact hx x2 x3 S
  refine bs_aload_n hC 0 dX6_readNumber_9 rfl rfl ?_
  refine bs_callV_i hC (rm := ({ frames := 1, cells := 0, slots := 0, locals := 21 } : Room)) [] [] (fun h => c_X6_byteHere (bd_l Γ) (bd_D Γ) ε S h) mw_251 mw_249 mw_250 mw_76 mw_3 (cX_o3 ε S) rfl by_X6_byteHere ⟨rfl, rfl, by decide, by decide⟩ rfl rfl (Nat.le_of_ble_eq_true rfl) dX6_readNumber_10 (fun r1 S2 eS2 => ?_)
  refine bs_bipush hC (48 : Int32) dX6_readNumber_13 rfl ?_
  refine bs_icmp_lt hC 56 dX6_readNumber_15 (by decide) (fun c10 => ?_) (fun c10 => ?_)
  · refine bs_some ?_
    refine bs_pick [2, 3] rfl ?_
    exact hx x2 x3 S2
  refine bs_aload_n hC 0 dX6_readNumber_18 rfl rfl ?_
  refine bs_callV_i hC (rm := ({ frames := 1, cells := 0, slots := 0, locals := 21 } : Room)) [] [] (fun h => c_X6_byteHere (bd_l Γ) (bd_D Γ) ε S2 h) mw_251 mw_249 mw_250 mw_76 mw_3 (cX_o3 ε S2) rfl by_X6_byteHere ⟨rfl, rfl, by decide, by decide⟩ rfl rfl (Nat.le_of_ble_eq_true rfl) dX6_readNumber_19 (fun r3 S4 eS4 => ?_)
  refine bs_bipush hC (57 : Int32) dX6_readNumber_22 rfl ?_
  refine bs_icmp_gt hC 56 dX6_readNumber_24 (by decide) (fun c9 => ?_) (fun c9 => ?_)
  · refine bs_some ?_
    refine bs_pick [2, 3] rfl ?_
    exact hx x2 x3 S4
  refine bs_iload_n hC 2 dX6_readNumber_27 rfl rfl ?_
  refine bs_bipush hC (10 : Int32) dX6_readNumber_28 rfl ?_
  refine bs_imul hC dX6_readNumber_30 ?_
  refine bs_aload_n hC 0 dX6_readNumber_31 rfl rfl ?_
  refine bs_callV_i hC (rm := ({ frames := 1, cells := 0, slots := 0, locals := 21 } : Room)) [] [.int (x2 * (10 : Int32))] (fun h => c_X6_byteHere (bd_l Γ) (bd_D Γ) ε S4 h) mw_251 mw_249 mw_250 mw_76 mw_3 (cX_o3 ε S4) rfl by_X6_byteHere ⟨rfl, rfl, by decide, by decide⟩ rfl rfl (Nat.le_of_ble_eq_true rfl) dX6_readNumber_32 (fun r5 S6 eS6 => ?_)
  refine bs_iadd hC dX6_readNumber_35 ?_
  refine bs_bipush hC (48 : Int32) dX6_readNumber_36 rfl ?_
  refine bs_isub hC dX6_readNumber_38 ?_
  refine bs_leti (fun z7 ez7 => ?_)
  refine bs_istore_n hC [(2, .int z7), (0, .ref (bd_a ε 3)), (1, .int p1), (3, .int x3)] dX6_readNumber_39 rfl (by decide) rfl ?_
  refine bs_iinc hC 3 [(3, .int (x3 + 1)), (2, .int z7), (0, .ref (bd_a ε 3)), (1, .int p1)] dX6_readNumber_40 rfl rfl (by decide) rfl ?_
  refine bs_aload_n hC 2 dX6_readNumber_43 rfl rfl ?_
  refine bs_dup hC dX6_readNumber_44 rfl ?_
  refine bs_get hC (v := .int (bd_I S6 11)) hin_X6 3 (cX_o3 ε S6) rfl 2 (by decide) mw_160 rfl dX6_readNumber_45 ?_
  refine bs_iconst hC (1 : Int32) dX6_readNumber_48 rfl ?_
  refine bs_iadd hC dX6_readNumber_49 ?_
  refine bs_put hC (kk := 11) hin_X6 tyX6 tyX6_ok nmX6 3 (cX_o3 ε S6) rfl 2 (by decide) mw_160 rfl rfl rfl (Nat.le_of_ble_eq_true rfl) (cX_p11 ε S6 _) dX6_readNumber_50 (fun S8 eS8 => ?_)
  refine bs_goto hC 4 dX6_readNumber_53 (by decide) ?_
  refine bs_some ?_
  refine bs_pick [2, 3, 1, 0] rfl ?_
  exact hk z7 (x3 + 1) S8
set_option maxRecDepth 100000 in
set_option maxHeartbeats 4000000 in
theorem b_X6_readNumber {Γ : bd_G} {ε : bd_E} {t0 : Option (Int32 × bd_T)} (hC : bd_C Γ cX6_readNumber 4 RX6 (some .int) ({ frames := 2, cells := 0, slots := 0, locals := 41 } : Room) ε (cX ε) bd_vi t0) (x1 : Int32)  (S : bd_T) : bd_S Γ 4 t0 ((f_X6_readNumber x1 S).bind some) (cX ε S) 0 [(0, .ref (bd_a ε 3)), (1, .int x1)] [] := by
  unfold f_X6_readNumber
  refine bs_iconst hC (0 : Int32) dX6_readNumber_0 rfl ?_
  refine bs_istore_n hC [(2, .int (0 : Int32)), (0, .ref (bd_a ε 3)), (1, .int x1)] dX6_readNumber_1 rfl (by decide) rfl ?_
  refine bs_iconst hC (0 : Int32) dX6_readNumber_2 rfl ?_
  refine bs_istore_n hC [(3, .int (0 : Int32)), (2, .int (0 : Int32)), (0, .ref (bd_a ε 3)), (1, .int x1)] dX6_readNumber_3 rfl (by decide) rfl ?_
  refine bs_pick [2, 3, 1, 0] rfl ?_
  refine bs_loopK (fun (q : Int32 × Int32 × bd_T) t => bd_S Γ 4 t0 t (cX ε (q.2.2)) 4 [(0, .ref (bd_a ε 3)), (1, .int x1), (2, .int (q.1)), (3, .int (q.2.1))] []) (fun (q : Int32 × Int32 × bd_T) t => bd_S Γ 4 t0 t (cX ε (q.2.2)) 56 [(2, .int (q.1)), (3, .int (q.2.1))] []) (fun q => fb_X6_readNumber_4 x1 q.1 q.2.1 q.2.2) (fun _ => bs_none) (fun K hk hx q => lb_X6_readNumber_4 hC   x1 (fun a0 a1 S => hk (a0, a1, S)) (fun b0 b1 S => hx (b0, b1, S))  (q.1) (q.2.1) (q.2.2)) (fun r => ?_) bd_K ((0 : Int32), (0 : Int32), S)
  obtain ⟨y12, y13, S14⟩ := r
  show bd_S Γ 4 t0 (Option.bind _ _) (cX ε S14) 56 [(2, .int y12), (3, .int y13)] []
  try dsimp only
  refine bs_iload_n hC 1 dX6_readNumber_56 rfl rfl ?_
  refine bs_if_ne hC 64 dX6_readNumber_57 (by decide) (fun c15 => ?_) (fun c15 => ?_)
  · refine bs_iconst hC (-1 : Int32) dX6_readNumber_60 rfl ?_
    refine bs_goto hC 65 dX6_readNumber_61 (by decide) ?_
    exact bs_iret hC dX6_readNumber_65 rfl
  refine bs_iload_n hC 0 dX6_readNumber_64 rfl rfl ?_
  exact bs_iret hC dX6_readNumber_65 rfl
theorem c_X6_readNumber (l : Launch) (D : va_G) (ε : bd_E) (x1 : Int32)  (S : bd_T) (h0 : (f_X6_readNumber x1 S).isSome = true) : bd_Con l yX6_readNumber (Cond.code yX6_readNumber cX6_readNumber 4 (some .int) :: bd_tbl) ({ frames := 2, cells := 0, slots := 0, locals := 41 } : Room) D ε (cX ε) bd_vi [.ref (bd_a ε 3), .int x1] S (f_X6_readNumber x1 S) :=
  bd_con (by decide +kernel) (Nat.le_of_ble_eq_true rfl) ⟨rfl, rfl⟩ h0 (fun Γ _ _ hC => bs_eq bs_bs (b_X6_readNumber hC x1 S))
set_option maxRecDepth 100000 in
set_option maxHeartbeats 4000000 in
theorem b_X6_read {Γ : bd_G} {ε : bd_E} {t0 : Option (Int32 × bd_T)} (hC : bd_C Γ cX6_read 1 RX6 (some .int) ({ frames := 3, cells := 0, slots := 0, locals := 64 } : Room) ε (cX ε) bd_vi t0)  (S : bd_T) : bd_S Γ 1 t0 ((f_X6_read S).bind some) (cX ε S) 0 [(0, .ref (bd_a ε 3))] [] := by
  unfold f_X6_read
  refine bs_aload_n hC 0 dX6_read_0 rfl rfl ?_
  refine bs_iconst hC (0 : Int32) dX6_read_1 rfl ?_
  refine bs_put hC (kk := 11) hin_X6 tyX6 tyX6_ok nmX6 3 (cX_o3 ε S) rfl 2 (by decide) mw_160 rfl rfl rfl (Nat.le_of_ble_eq_true rfl) (cX_p11 ε S _) dX6_read_2 (fun S1 eS1 => ?_)
  refine bs_aload_n hC 0 dX6_read_5 rfl rfl ?_
  refine bs_aload_n hC 0 dX6_read_6 rfl rfl ?_
  refine bs_callV_i hC (rm := ({ frames := 1, cells := 0, slots := 0, locals := 21 } : Room)) [] [.ref (bd_a ε 3)] (fun h => c_X6_byteHere (bd_l Γ) (bd_D Γ) ε S1 h) mw_251 mw_249 mw_250 mw_76 mw_3 (cX_o3 ε S1) rfl by_X6_byteHere ⟨rfl, rfl, by decide, by decide⟩ rfl rfl (Nat.le_of_ble_eq_true rfl) dX6_read_7 (fun r2 S3 eS3 => ?_)
  refine bs_callS_i hC (rm := ({ frames := 0, cells := 0, slots := 0, locals := 0 } : Room)) [.int r2] [.ref (bd_a ε 3)] (fun h => c_X6_lawOf (bd_l Γ) (bd_D Γ) ε r2 S3 h) mw_254 mw_252 mw_253 mw_76 by_X6_lawOf ⟨rfl, rfl, by decide, by decide⟩ rfl rfl (Nat.le_of_ble_eq_true rfl) dX6_read_10 (fun r4 S5 eS5 => ?_)
  refine bs_put hC (kk := 12) hin_X6 tyX6 tyX6_ok nmX6 3 (cX_o3 ε S5) rfl 3 (by decide) mw_161 rfl rfl rfl (Nat.le_of_ble_eq_true rfl) (cX_p12 ε S5 _) dX6_read_13 (fun S6 eS6 => ?_)
  refine bs_aload_n hC 0 dX6_read_16 rfl rfl ?_
  refine bs_get hC (v := .int (bd_I S6 12)) hin_X6 3 (cX_o3 ε S6) rfl 3 (by decide) mw_161 rfl dX6_read_17 ?_
  refine bs_if_ge hC 28 dX6_read_20 (by decide) (fun c21 => ?_) (fun c21 => ?_)
  · refine bs_aload_n hC 0 dX6_read_28 rfl rfl ?_
    refine bs_dup hC dX6_read_29 rfl ?_
    refine bs_get hC (v := .int (bd_I S6 11)) hin_X6 3 (cX_o3 ε S6) rfl 2 (by decide) mw_160 rfl dX6_read_30 ?_
    refine bs_iconst hC (1 : Int32) dX6_read_33 rfl ?_
    refine bs_iadd hC dX6_read_34 ?_
    refine bs_put hC (kk := 11) hin_X6 tyX6 tyX6_ok nmX6 3 (cX_o3 ε S6) rfl 2 (by decide) mw_160 rfl rfl rfl (Nat.le_of_ble_eq_true rfl) (cX_p11 ε S6 _) dX6_read_35 (fun S7 eS7 => ?_)
    refine bs_aload_n hC 0 dX6_read_38 rfl rfl ?_
    refine bs_aload_n hC 0 dX6_read_39 rfl rfl ?_
    refine bs_iconst hC (4 : Int32) dX6_read_40 rfl ?_
    refine bs_callV_i hC (rm := ({ frames := 2, cells := 0, slots := 0, locals := 41 } : Room)) [.int (4 : Int32)] [.ref (bd_a ε 3)] (fun h => c_X6_readNumber (bd_l Γ) (bd_D Γ) ε (4 : Int32) S7 h) mw_257 mw_255 mw_256 mw_76 mw_4 (cX_o3 ε S7) rfl by_X6_readNumber ⟨rfl, rfl, by decide, by decide⟩ rfl rfl (Nat.le_of_ble_eq_true rfl) dX6_read_41 (fun r8 S9 eS9 => ?_)
    refine bs_put hC (kk := 13) hin_X6 tyX6 tyX6_ok nmX6 3 (cX_o3 ε S9) rfl 4 (by decide) mw_162 rfl rfl rfl (Nat.le_of_ble_eq_true rfl) (cX_p13 ε S9 _) dX6_read_44 (fun S10 eS10 => ?_)
    refine bs_aload_n hC 0 dX6_read_47 rfl rfl ?_
    refine bs_get hC (v := .int (bd_I S10 13)) hin_X6 3 (cX_o3 ε S10) rfl 4 (by decide) mw_162 rfl dX6_read_48 ?_
    refine bs_if_lt hC 63 dX6_read_51 (by decide) (fun c20 => ?_) (fun c20 => ?_)
    · refine bs_aload_n hC 0 dX6_read_63 rfl rfl ?_
      refine bs_get hC (v := .int (bd_I S10 11)) hin_X6 3 (cX_o3 ε S10) rfl 2 (by decide) mw_160 rfl dX6_read_64 ?_
      exact bs_iret hC dX6_read_67 rfl
    refine bs_aload_n hC 0 dX6_read_54 rfl rfl ?_
    refine bs_callV_i hC (rm := ({ frames := 1, cells := 0, slots := 0, locals := 21 } : Room)) [] [] (fun h => c_X6_byteHere (bd_l Γ) (bd_D Γ) ε S10 h) mw_251 mw_249 mw_250 mw_76 mw_3 (cX_o3 ε S10) rfl by_X6_byteHere ⟨rfl, rfl, by decide, by decide⟩ rfl rfl (Nat.le_of_ble_eq_true rfl) dX6_read_55 (fun r11 S12 eS12 => ?_)
    refine bs_bipush hC (44 : Int32) dX6_read_58 rfl ?_
    refine bs_icmp_eq hC 68 dX6_read_60 (by decide) (fun c19 => ?_) (fun c19 => ?_)
    · refine bs_aload_n hC 0 dX6_read_68 rfl rfl ?_
      refine bs_dup hC dX6_read_69 rfl ?_
      refine bs_get hC (v := .int (bd_I S12 11)) hin_X6 3 (cX_o3 ε S12) rfl 2 (by decide) mw_160 rfl dX6_read_70 ?_
      refine bs_iconst hC (1 : Int32) dX6_read_73 rfl ?_
      refine bs_iadd hC dX6_read_74 ?_
      refine bs_put hC (kk := 11) hin_X6 tyX6 tyX6_ok nmX6 3 (cX_o3 ε S12) rfl 2 (by decide) mw_160 rfl rfl rfl (Nat.le_of_ble_eq_true rfl) (cX_p11 ε S12 _) dX6_read_75 (fun S13 eS13 => ?_)
      refine bs_aload_n hC 0 dX6_read_78 rfl rfl ?_
      refine bs_aload_n hC 0 dX6_read_79 rfl rfl ?_
      refine bs_iconst hC (2 : Int32) dX6_read_80 rfl ?_
      refine bs_callV_i hC (rm := ({ frames := 2, cells := 0, slots := 0, locals := 41 } : Room)) [.int (2 : Int32)] [.ref (bd_a ε 3)] (fun h => c_X6_readNumber (bd_l Γ) (bd_D Γ) ε (2 : Int32) S13 h) mw_257 mw_255 mw_256 mw_76 mw_4 (cX_o3 ε S13) rfl by_X6_readNumber ⟨rfl, rfl, by decide, by decide⟩ rfl rfl (Nat.le_of_ble_eq_true rfl) dX6_read_81 (fun r14 S15 eS15 => ?_)
      refine bs_put hC (kk := 14) hin_X6 tyX6 tyX6_ok nmX6 3 (cX_o3 ε S15) rfl 5 (by decide) mw_163 rfl rfl rfl (Nat.le_of_ble_eq_true rfl) (cX_p14 ε S15 _) dX6_read_84 (fun S16 eS16 => ?_)
      refine bs_aload_n hC 0 dX6_read_87 rfl rfl ?_
      refine bs_get hC (v := .int (bd_I S16 14)) hin_X6 3 (cX_o3 ε S16) rfl 5 (by decide) mw_163 rfl dX6_read_88 ?_
      refine bs_if_lt hC 105 dX6_read_91 (by decide) (fun c18 => ?_) (fun c18 => ?_)
      · refine bs_aload_n hC 0 dX6_read_105 rfl rfl ?_
        refine bs_get hC (v := .int (bd_I S16 11)) hin_X6 3 (cX_o3 ε S16) rfl 2 (by decide) mw_160 rfl dX6_read_106 ?_
        refine bs_goto hC 113 dX6_read_109 (by decide) ?_
        exact bs_iret hC dX6_read_113 rfl
      refine bs_aload_n hC 0 dX6_read_94 rfl rfl ?_
      refine bs_get hC (v := .int (bd_I S16 11)) hin_X6 3 (cX_o3 ε S16) rfl 2 (by decide) mw_160 rfl dX6_read_95 ?_
      refine bs_aload_n hC 0 dX6_read_98 rfl rfl ?_
      refine bs_get hC (v := .int (bd_I S16 10)) hin_X6 3 (cX_o3 ε S16) rfl 1 (by decide) mw_159 rfl dX6_read_99 ?_
      refine bs_icmp_ge hC 112 dX6_read_102 (by decide) (fun c17 => ?_) (fun c17 => ?_)
      · refine bs_iconst hC (-1 : Int32) dX6_read_112 rfl ?_
        exact bs_iret hC dX6_read_113 rfl
      refine bs_aload_n hC 0 dX6_read_105 rfl rfl ?_
      refine bs_get hC (v := .int (bd_I S16 11)) hin_X6 3 (cX_o3 ε S16) rfl 2 (by decide) mw_160 rfl dX6_read_106 ?_
      refine bs_goto hC 113 dX6_read_109 (by decide) ?_
      exact bs_iret hC dX6_read_113 rfl
    refine bs_aload_n hC 0 dX6_read_63 rfl rfl ?_
    refine bs_get hC (v := .int (bd_I S12 11)) hin_X6 3 (cX_o3 ε S12) rfl 2 (by decide) mw_160 rfl dX6_read_64 ?_
    exact bs_iret hC dX6_read_67 rfl
  refine bs_aload_n hC 0 dX6_read_23 rfl rfl ?_
  refine bs_get hC (v := .int (bd_I S6 11)) hin_X6 3 (cX_o3 ε S6) rfl 2 (by decide) mw_160 rfl dX6_read_24 ?_
  exact bs_iret hC dX6_read_27 rfl
theorem c_X6_read (l : Launch) (D : va_G) (ε : bd_E)  (S : bd_T) (h0 : (f_X6_read S).isSome = true) : bd_Con l yX6_read (Cond.code yX6_read cX6_read 1 (some .int) :: bd_tbl) ({ frames := 3, cells := 0, slots := 0, locals := 64 } : Room) D ε (cX ε) bd_vi [.ref (bd_a ε 3)] S (f_X6_read S) :=
  bd_con (by decide +kernel) (Nat.le_of_ble_eq_true rfl) ⟨rfl, rfl⟩ h0 (fun Γ _ _ hC => bs_eq bs_bs (b_X6_read hC S))
set_option maxRecDepth 100000 in
set_option maxHeartbeats 4000000 in
theorem b_X7_tie {Γ : bd_G} {ε : bd_E} {t0 : Option (Int32 × bd_T)} (hC : bd_C Γ cX7_tie 5 RX7 (some .int) ({ frames := 1, cells := 0, slots := 0, locals := 22 } : Room) ε (cX ε) bd_vi t0) (x1 : Int32) (x2 : Int32) (x3 : Int32) (x4 : Int32)  (S : bd_T) : bd_S Γ 5 t0 ((f_X7_tie x1 x2 x3 x4 S).bind some) (cX ε S) 0 [(0, .ref (bd_a ε 8)), (1, .int x1), (2, .int x2), (3, .int x3), (4, .int x4)] [] := by
  unfold f_X7_tie
  refine bs_aload_n hC 0 dX7_tie_0 rfl rfl ?_
  refine bs_get hC (v := .ref (bd_a ε (12 + 14))) hin_X7 8 (cX_o8 ε S) rfl 4 (by decide) mw_107 rfl dX7_tie_1 ?_
  refine bs_iload_n hC 1 dX7_tie_4 rfl rfl ?_
  refine bs_iload_n hC 2 dX7_tie_5 rfl rfl ?_
  refine bs_callSN_v hC (rm := ({ frames := 0, cells := 0, slots := 0, locals := 0 } : Room)) [.ref (bd_a ε (12 + 14)), .int x1, .int x2] [] (fun h => c_X9_lay (bd_l Γ) (bd_D Γ) ε 14 x1 x2 (by decide) S h) mw_240 nm_15 mw_239 mw_72 by_X9_lay ⟨rfl, rfl, by decide, by decide⟩ rfl rfl (Nat.le_of_ble_eq_true rfl) dX7_tie_6 (fun r1 S2 eS2 => ?_)
  refine bs_aload_n hC 0 dX7_tie_9 rfl rfl ?_
  refine bs_get hC (v := .ref (bd_a ε (12 + 15))) hin_X7 8 (cX_o8 ε S2) rfl 5 (by decide) mw_108 rfl dX7_tie_10 ?_
  refine bs_iload_n hC 1 dX7_tie_13 rfl rfl ?_
  refine bs_iload_n hC 3 dX7_tie_14 rfl rfl ?_
  refine bs_callSN_v hC (rm := ({ frames := 0, cells := 0, slots := 0, locals := 0 } : Room)) [.ref (bd_a ε (12 + 15)), .int x1, .int x3] [] (fun h => c_X9_lay (bd_l Γ) (bd_D Γ) ε 15 x1 x3 (by decide) S2 h) mw_240 nm_15 mw_239 mw_72 by_X9_lay ⟨rfl, rfl, by decide, by decide⟩ rfl rfl (Nat.le_of_ble_eq_true rfl) dX7_tie_15 (fun r3 S4 eS4 => ?_)
  refine bs_aload_n hC 0 dX7_tie_18 rfl rfl ?_
  refine bs_get hC (v := .ref (bd_a ε (12 + 16))) hin_X7 8 (cX_o8 ε S4) rfl 6 (by decide) mw_109 rfl dX7_tie_19 ?_
  refine bs_iload_n hC 1 dX7_tie_22 rfl rfl ?_
  refine bs_iload hC 4 dX7_tie_23 rfl ?_
  refine bs_callSN_v hC (rm := ({ frames := 0, cells := 0, slots := 0, locals := 0 } : Room)) [.ref (bd_a ε (12 + 16)), .int x1, .int x4] [] (fun h => c_X9_lay (bd_l Γ) (bd_D Γ) ε 16 x1 x4 (by decide) S4 h) mw_240 nm_15 mw_239 mw_72 by_X9_lay ⟨rfl, rfl, by decide, by decide⟩ rfl rfl (Nat.le_of_ble_eq_true rfl) dX7_tie_25 (fun r5 S6 eS6 => ?_)
  refine bs_iconst hC (1 : Int32) dX7_tie_28 rfl ?_
  exact bs_iret hC dX7_tie_29 rfl
theorem c_X7_tie (l : Launch) (D : va_G) (ε : bd_E) (x1 : Int32) (x2 : Int32) (x3 : Int32) (x4 : Int32)  (S : bd_T) (h0 : (f_X7_tie x1 x2 x3 x4 S).isSome = true) : bd_Con l yX7_tie (Cond.code yX7_tie cX7_tie 5 (some .int) :: bd_tbl) ({ frames := 1, cells := 0, slots := 0, locals := 22 } : Room) D ε (cX ε) bd_vi [.ref (bd_a ε 8), .int x1, .int x2, .int x3, .int x4] S (f_X7_tie x1 x2 x3 x4 S) :=
  bd_con (by decide +kernel) (Nat.le_of_ble_eq_true rfl) ⟨rfl, rfl⟩ h0 (fun Γ _ _ hC => bs_eq bs_bs (b_X7_tie hC x1 x2 x3 x4 S))
set_option maxRecDepth 100000 in
set_option maxHeartbeats 4000000 in
theorem b_X7_add {Γ : bd_G} {ε : bd_E} {t0 : Option (Int32 × bd_T)} (hC : bd_C Γ cX7_add 4 RX7 (some .int) ({ frames := 2, cells := 0, slots := 0, locals := 46 } : Room) ε (cX ε) bd_vi t0) (x1 : Int32) (x2 : Int32) (x3 : Int32)  (S : bd_T) : bd_S Γ 4 t0 ((f_X7_add x1 x2 x3 S).bind some) (cX ε S) 0 [(0, .ref (bd_a ε 8)), (1, .int x1), (2, .int x2), (3, .int x3)] [] := by
  unfold f_X7_add
  refine bs_aload_n hC 0 dX7_add_0 rfl rfl ?_
  refine bs_get hC (v := .ref (bd_a ε (12 + 11))) hin_X7 8 (cX_o8 ε S) rfl 1 (by decide) mw_104 rfl dX7_add_1 ?_
  refine bs_aload_n hC 0 dX7_add_4 rfl rfl ?_
  refine bs_get hC (v := .int (bd_I S 17)) hin_X7 8 (cX_o8 ε S) rfl 0 (by decide) mw_103 rfl dX7_add_5 ?_
  refine bs_iload_n hC 1 dX7_add_8 rfl rfl ?_
  refine bs_callSN_v hC (rm := ({ frames := 0, cells := 0, slots := 0, locals := 0 } : Room)) [.ref (bd_a ε (12 + 11)), .int (bd_I S 17), .int x1] [] (fun h => c_X9_lay (bd_l Γ) (bd_D Γ) ε 11 (bd_I S 17) x1 (by decide) S h) mw_240 nm_15 mw_239 mw_72 by_X9_lay ⟨rfl, rfl, by decide, by decide⟩ rfl rfl (Nat.le_of_ble_eq_true rfl) dX7_add_9 (fun r1 S2 eS2 => ?_)
  refine bs_aload_n hC 0 dX7_add_12 rfl rfl ?_
  refine bs_get hC (v := .ref (bd_a ε (12 + 12))) hin_X7 8 (cX_o8 ε S2) rfl 2 (by decide) mw_105 rfl dX7_add_13 ?_
  refine bs_aload_n hC 0 dX7_add_16 rfl rfl ?_
  refine bs_get hC (v := .int (bd_I S2 17)) hin_X7 8 (cX_o8 ε S2) rfl 0 (by decide) mw_103 rfl dX7_add_17 ?_
  refine bs_iload_n hC 2 dX7_add_20 rfl rfl ?_
  refine bs_callSN_v hC (rm := ({ frames := 0, cells := 0, slots := 0, locals := 0 } : Room)) [.ref (bd_a ε (12 + 12)), .int (bd_I S2 17), .int x2] [] (fun h => c_X9_lay (bd_l Γ) (bd_D Γ) ε 12 (bd_I S2 17) x2 (by decide) S2 h) mw_240 nm_15 mw_239 mw_72 by_X9_lay ⟨rfl, rfl, by decide, by decide⟩ rfl rfl (Nat.le_of_ble_eq_true rfl) dX7_add_21 (fun r3 S4 eS4 => ?_)
  refine bs_aload_n hC 0 dX7_add_24 rfl rfl ?_
  refine bs_get hC (v := .ref (bd_a ε (12 + 13))) hin_X7 8 (cX_o8 ε S4) rfl 3 (by decide) mw_106 rfl dX7_add_25 ?_
  refine bs_aload_n hC 0 dX7_add_28 rfl rfl ?_
  refine bs_get hC (v := .int (bd_I S4 17)) hin_X7 8 (cX_o8 ε S4) rfl 0 (by decide) mw_103 rfl dX7_add_29 ?_
  refine bs_iload_n hC 3 dX7_add_32 rfl rfl ?_
  refine bs_callSN_v hC (rm := ({ frames := 0, cells := 0, slots := 0, locals := 0 } : Room)) [.ref (bd_a ε (12 + 13)), .int (bd_I S4 17), .int x3] [] (fun h => c_X9_lay (bd_l Γ) (bd_D Γ) ε 13 (bd_I S4 17) x3 (by decide) S4 h) mw_240 nm_15 mw_239 mw_72 by_X9_lay ⟨rfl, rfl, by decide, by decide⟩ rfl rfl (Nat.le_of_ble_eq_true rfl) dX7_add_33 (fun r5 S6 eS6 => ?_)
  refine bs_aload_n hC 0 dX7_add_36 rfl rfl ?_
  refine bs_aload_n hC 0 dX7_add_37 rfl rfl ?_
  refine bs_get hC (v := .int (bd_I S6 17)) hin_X7 8 (cX_o8 ε S6) rfl 0 (by decide) mw_103 rfl dX7_add_38 ?_
  refine bs_iconst hC (-1 : Int32) dX7_add_41 rfl ?_
  refine bs_iconst hC (0 : Int32) dX7_add_42 rfl ?_
  refine bs_iconst hC (0 : Int32) dX7_add_43 rfl ?_
  refine bs_callV_i hC (rm := ({ frames := 1, cells := 0, slots := 0, locals := 22 } : Room)) [.int (bd_I S6 17), .int (-1 : Int32), .int (0 : Int32), .int (0 : Int32)] [] (fun h => c_X7_tie (bd_l Γ) (bd_D Γ) ε (bd_I S6 17) (-1 : Int32) (0 : Int32) (0 : Int32) S6 h) mw_262 mw_260 mw_261 mw_74 mw_6 (cX_o8 ε S6) rfl by_X7_tie ⟨rfl, rfl, by decide, by decide⟩ rfl rfl (Nat.le_of_ble_eq_true rfl) dX7_add_44 (fun r7 S8 eS8 => ?_)
  refine bs_pop hC dX7_add_47 rfl ?_
  refine bs_aload_n hC 0 dX7_add_48 rfl rfl ?_
  refine bs_dup hC dX7_add_49 rfl ?_
  refine bs_get hC (v := .int (bd_I S8 17)) hin_X7 8 (cX_o8 ε S8) rfl 0 (by decide) mw_103 rfl dX7_add_50 ?_
  refine bs_iconst hC (1 : Int32) dX7_add_53 rfl ?_
  refine bs_iadd hC dX7_add_54 ?_
  refine bs_put hC (kk := 17) hin_X7 tyX7 tyX7_ok nmX7 8 (cX_o8 ε S8) rfl 0 (by decide) mw_103 rfl rfl rfl (Nat.le_of_ble_eq_true rfl) (cX_p17 ε S8 _) dX7_add_55 (fun S9 eS9 => ?_)
  refine bs_aload_n hC 0 dX7_add_58 rfl rfl ?_
  refine bs_get hC (v := .int (bd_I S9 17)) hin_X7 8 (cX_o8 ε S9) rfl 0 (by decide) mw_103 rfl dX7_add_59 ?_
  refine bs_iconst hC (1 : Int32) dX7_add_62 rfl ?_
  refine bs_isub hC dX7_add_63 ?_
  exact bs_iret hC dX7_add_64 rfl
theorem c_X7_add (l : Launch) (D : va_G) (ε : bd_E) (x1 : Int32) (x2 : Int32) (x3 : Int32)  (S : bd_T) (h0 : (f_X7_add x1 x2 x3 S).isSome = true) : bd_Con l yX7_add (Cond.code yX7_add cX7_add 4 (some .int) :: bd_tbl) ({ frames := 2, cells := 0, slots := 0, locals := 46 } : Room) D ε (cX ε) bd_vi [.ref (bd_a ε 8), .int x1, .int x2, .int x3] S (f_X7_add x1 x2 x3 S) :=
  bd_con (by decide +kernel) (Nat.le_of_ble_eq_true rfl) ⟨rfl, rfl⟩ h0 (fun Γ _ _ hC => bs_eq bs_bs (b_X7_add hC x1 x2 x3 S))
set_option maxRecDepth 100000 in
set_option maxHeartbeats 4000000 in
theorem b_X9_thing {Γ : bd_G} {ε : bd_E} {t0 : Option (Int32 × bd_T)} (hC : bd_C Γ cX9_thing 2 RX9 (some .int) ({ frames := 4, cells := 0, slots := 0, locals := 84 } : Room) ε (cX ε) bd_vi t0)  (S : bd_T) : bd_S Γ 2 t0 ((f_X9_thing S).bind some) (cX ε S) 0 [(0, .ref (bd_a ε 0))] [] := by
  unfold f_X9_thing
  refine bs_aload_n hC 0 dX9_thing_0 rfl rfl ?_
  refine bs_get hC (v := .ref (bd_a ε 1)) hin_X9 0 (cX_o0 ε S) rfl 0 (by decide) mw_206 rfl dX9_thing_1 ?_
  refine bs_getN hC (v := .ref (bd_a ε 8)) hin_X8 1 (cX_o1 ε S) rfl 0 (by decide) nf_18 rfl dX9_thing_4 ?_
  refine bs_getN hC (v := .int (bd_I S 17)) hin_X7 8 (cX_o8 ε S) rfl 0 (by decide) nf_0 rfl dX9_thing_7 ?_
  refine bs_bipush hC (6 : Int32) dX9_thing_10 rfl ?_
  refine bs_icmp_lt hC 22 dX9_thing_12 (by decide) (fun c9 => ?_) (fun c9 => ?_)
  · refine bs_aload_n hC 0 dX9_thing_22 rfl rfl ?_
    refine bs_get hC (v := .ref (bd_a ε 3)) hin_X9 0 (cX_o0 ε S) rfl 3 (by decide) mw_209 rfl dX9_thing_23 ?_
    refine bs_callVN_i hC (rm := ({ frames := 3, cells := 0, slots := 0, locals := 64 } : Room)) [] [] (fun h => c_X6_read (bd_l Γ) (bd_D Γ) ε S h) mw_248 nm_12 mw_247 mw_76 mw_2 (cX_o3 ε S) rfl by_X6_read ⟨rfl, rfl, by decide, by decide⟩ rfl rfl (Nat.le_of_ble_eq_true rfl) dX9_thing_26 (fun r1 S2 eS2 => ?_)
    refine bs_istore_n hC [(1, .int r1), (0, .ref (bd_a ε 0))] dX9_thing_29 rfl (by decide) rfl ?_
    refine bs_aload_n hC 1 dX9_thing_30 rfl rfl ?_
    refine bs_get hC (v := .ref (bd_a ε 3)) hin_X9 0 (cX_o0 ε S2) rfl 3 (by decide) mw_209 rfl dX9_thing_31 ?_
    refine bs_iconst hC (0 : Int32) dX9_thing_34 rfl ?_
    refine bs_putN hC (kk := 10) hin_X6 tyX6 tyX6_ok nmX6 3 (cX_o3 ε S2) rfl 1 (by decide) nf_29 rfl rfl rfl (Nat.le_of_ble_eq_true rfl) (cX_p10 ε S2 _) dX9_thing_35 (fun S3 eS3 => ?_)
    refine bs_iload_n hC 0 dX9_thing_38 rfl rfl ?_
    refine bs_if_lt hC 47 dX9_thing_39 (by decide) (fun c6 => ?_) (fun c6 => ?_)
    · refine bs_aload_n hC 1 dX9_thing_47 rfl rfl ?_
      refine bs_get hC (v := .ref (bd_a ε 1)) hin_X9 0 (cX_o0 ε S3) rfl 0 (by decide) mw_206 rfl dX9_thing_48 ?_
      refine bs_getN hC (v := .ref (bd_a ε 8)) hin_X8 1 (cX_o1 ε S3) rfl 0 (by decide) nf_18 rfl dX9_thing_51 ?_
      refine bs_aload_n hC 1 dX9_thing_54 rfl rfl ?_
      refine bs_get hC (v := .ref (bd_a ε 3)) hin_X9 0 (cX_o0 ε S3) rfl 3 (by decide) mw_209 rfl dX9_thing_55 ?_
      refine bs_getN hC (v := .int (bd_I S3 12)) hin_X6 3 (cX_o3 ε S3) rfl 3 (by decide) nf_30 rfl dX9_thing_58 ?_
      refine bs_aload_n hC 1 dX9_thing_61 rfl rfl ?_
      refine bs_get hC (v := .ref (bd_a ε 3)) hin_X9 0 (cX_o0 ε S3) rfl 3 (by decide) mw_209 rfl dX9_thing_62 ?_
      refine bs_getN hC (v := .int (bd_I S3 13)) hin_X6 3 (cX_o3 ε S3) rfl 4 (by decide) nf_31 rfl dX9_thing_65 ?_
      refine bs_aload_n hC 1 dX9_thing_68 rfl rfl ?_
      refine bs_get hC (v := .ref (bd_a ε 3)) hin_X9 0 (cX_o0 ε S3) rfl 3 (by decide) mw_209 rfl dX9_thing_69 ?_
      refine bs_getN hC (v := .int (bd_I S3 14)) hin_X6 3 (cX_o3 ε S3) rfl 5 (by decide) nf_32 rfl dX9_thing_72 ?_
      refine bs_callVN_i hC (rm := ({ frames := 2, cells := 0, slots := 0, locals := 46 } : Room)) [.int (bd_I S3 12), .int (bd_I S3 13), .int (bd_I S3 14)] [] (fun h => c_X7_add (bd_l Γ) (bd_D Γ) ε (bd_I S3 12) (bd_I S3 13) (bd_I S3 14) S3 h) mw_259 nm_14 mw_258 mw_74 mw_5 (cX_o8 ε S3) rfl by_X7_add ⟨rfl, rfl, by decide, by decide⟩ rfl rfl (Nat.le_of_ble_eq_true rfl) dX9_thing_75 (fun r4 S5 eS5 => ?_)
      exact bs_iret hC dX9_thing_78 rfl
    refine bs_bipush hC (-20 : Int32) dX9_thing_42 rfl ?_
    refine bs_iload_n hC 0 dX9_thing_44 rfl rfl ?_
    refine bs_isub hC dX9_thing_45 ?_
    exact bs_iret hC dX9_thing_46 rfl
  refine bs_aload_n hC 0 dX9_thing_15 rfl rfl ?_
  refine bs_bipush hC (-6 : Int32) dX9_thing_16 rfl ?_
  refine bs_callV_i hC (rm := ({ frames := 1, cells := 0, slots := 0, locals := 22 } : Room)) [.int (-6 : Int32)] [] (fun h => c_X9_refuse (bd_l Γ) (bd_D Γ) ε (-6 : Int32) S h) mw_234 mw_232 mw_233 mw_72 mw_0 (cX_o0 ε S) rfl by_X9_refuse ⟨rfl, rfl, by decide, by decide⟩ rfl rfl (Nat.le_of_ble_eq_true rfl) dX9_thing_18 (fun r7 S8 eS8 => ?_)
  exact bs_iret hC dX9_thing_21 rfl
theorem c_X9_thing (l : Launch) (D : va_G) (ε : bd_E)  (S : bd_T) (h0 : (f_X9_thing S).isSome = true) : bd_Con l yX9_thing (Cond.code yX9_thing cX9_thing 2 (some .int) :: bd_tbl) ({ frames := 4, cells := 0, slots := 0, locals := 84 } : Room) D ε (cX ε) bd_vi [.ref (bd_a ε 0)] S (f_X9_thing S) :=
  bd_con (by decide +kernel) (Nat.le_of_ble_eq_true rfl) ⟨rfl, rfl⟩ h0 (fun Γ _ _ hC => bs_eq bs_bs (b_X9_thing hC S))
set_option maxRecDepth 100000 in
set_option maxHeartbeats 4000000 in
theorem b_X9_isThing {Γ : bd_G} {ε : bd_E} {t0 : Option (Int32 × bd_T)} (hC : bd_C Γ cX9_isThing 2 RX9 (some .boolean) ({ frames := 0, cells := 0, slots := 0, locals := 0 } : Room) ε (cX ε) bd_vi t0) (x1 : Int32)  (S : bd_T) : bd_S Γ 2 t0 ((f_X9_isThing x1 S).bind some) (cX ε S) 0 [(0, .ref (bd_a ε 0)), (1, .int x1)] [] := by
  unfold f_X9_isThing
  refine bs_iload_n hC 1 dX9_isThing_0 rfl rfl ?_
  refine bs_if_lt hC 22 dX9_isThing_1 (by decide) (fun c2 => ?_) (fun c2 => ?_)
  · refine bs_iconst hC (0 : Int32) dX9_isThing_22 rfl ?_
    exact bs_zret hC dX9_isThing_23 rfl rfl
  refine bs_iload_n hC 1 dX9_isThing_4 rfl rfl ?_
  refine bs_aload_n hC 0 dX9_isThing_5 rfl rfl ?_
  refine bs_get hC (v := .ref (bd_a ε 1)) hin_X9 0 (cX_o0 ε S) rfl 0 (by decide) mw_206 rfl dX9_isThing_6 ?_
  refine bs_getN hC (v := .ref (bd_a ε 8)) hin_X8 1 (cX_o1 ε S) rfl 0 (by decide) nf_18 rfl dX9_isThing_9 ?_
  refine bs_getN hC (v := .int (bd_I S 17)) hin_X7 8 (cX_o8 ε S) rfl 0 (by decide) nf_0 rfl dX9_isThing_12 ?_
  refine bs_icmp_ge hC 22 dX9_isThing_15 (by decide) (fun c1 => ?_) (fun c1 => ?_)
  · refine bs_iconst hC (0 : Int32) dX9_isThing_22 rfl ?_
    exact bs_zret hC dX9_isThing_23 rfl rfl
  refine bs_iconst hC (1 : Int32) dX9_isThing_18 rfl ?_
  refine bs_goto hC 23 dX9_isThing_19 (by decide) ?_
  exact bs_zret hC dX9_isThing_23 rfl rfl
theorem c_X9_isThing (l : Launch) (D : va_G) (ε : bd_E) (x1 : Int32)  (S : bd_T) (h0 : (f_X9_isThing x1 S).isSome = true) : bd_Con l yX9_isThing (Cond.code yX9_isThing cX9_isThing 2 (some .boolean) :: bd_tbl) ({ frames := 0, cells := 0, slots := 0, locals := 0 } : Room) D ε (cX ε) bd_vi [.ref (bd_a ε 0), .int x1] S (f_X9_isThing x1 S) :=
  bd_con (by decide +kernel) (Nat.le_of_ble_eq_true rfl) ⟨rfl, rfl⟩ h0 (fun Γ _ _ hC => bs_eq bs_bs (b_X9_isThing hC x1 S))
set_option maxRecDepth 100000 in
set_option maxHeartbeats 4000000 in
theorem b_X9_thingOf {Γ : bd_G} {ε : bd_E} {t0 : Option (Int32 × bd_T)} (hC : bd_C Γ cX9_thingOf 3 RX9 (some .int) ({ frames := 2, cells := 0, slots := 0, locals := 43 } : Room) ε (cX ε) bd_vi t0) (x1 : Int32) (x2 : Int32)  (S : bd_T) : bd_S Γ 3 t0 ((f_X9_thingOf x1 x2 S).bind some) (cX ε S) 0 [(0, .ref (bd_a ε 0)), (1, .int x1), (2, .int x2)] [] := by
  unfold f_X9_thingOf
  refine bs_aload_n hC 0 dX9_thingOf_0 rfl rfl ?_
  refine bs_iload_n hC 1 dX9_thingOf_1 rfl rfl ?_
  refine bs_callV_i hC (rm := ({ frames := 0, cells := 0, slots := 0, locals := 0 } : Room)) [.int x1] [] (fun h => c_X9_isThing (bd_l Γ) (bd_D Γ) ε x1 S h) mw_269 mw_267 mw_268 mw_72 mw_7 (cX_o0 ε S) rfl by_X9_isThing ⟨rfl, rfl, by decide, by decide⟩ rfl rfl (Nat.le_of_ble_eq_true rfl) dX9_thingOf_2 (fun r1 S2 eS2 => ?_)
  refine bs_if_ne hC 14 dX9_thingOf_5 (by decide) (fun c16 => ?_) (fun c16 => ?_)
  · refine bs_aload_n hC 0 dX9_thingOf_8 rfl rfl ?_
    refine bs_iconst hC (-1 : Int32) dX9_thingOf_9 rfl ?_
    refine bs_callV_i hC (rm := ({ frames := 1, cells := 0, slots := 0, locals := 22 } : Room)) [.int (-1 : Int32)] [] (fun h => c_X9_refuse (bd_l Γ) (bd_D Γ) ε (-1 : Int32) S2 h) mw_234 mw_232 mw_233 mw_72 mw_0 (cX_o0 ε S2) rfl by_X9_refuse ⟨rfl, rfl, by decide, by decide⟩ rfl rfl (Nat.le_of_ble_eq_true rfl) dX9_thingOf_10 (fun r3 S4 eS4 => ?_)
    exact bs_iret hC dX9_thingOf_13 rfl
  refine bs_iload_n hC 2 dX9_thingOf_14 rfl rfl ?_
  refine bs_case (c := x2 = 0) (fun c5 => ?_) (fun c5 => ?_)
  · refine bs_tabIn hC (0 : Int32) (25) 40 dX9_thingOf_15 c5 (by decide) (by decide) rfl (by decide) ?_
    refine bs_aload_n hC 0 dX9_thingOf_40 rfl rfl ?_
    refine bs_get hC (v := .ref (bd_a ε 1)) hin_X9 0 (cX_o0 ε S2) rfl 0 (by decide) mw_206 rfl dX9_thingOf_41 ?_
    refine bs_getN hC (v := .ref (bd_a ε 8)) hin_X8 1 (cX_o1 ε S2) rfl 0 (by decide) nf_18 rfl dX9_thingOf_44 ?_
    refine bs_getN hC (v := .ref (bd_a ε (12 + 11))) hin_X7 8 (cX_o8 ε S2) rfl 1 (by decide) nf_2 rfl dX9_thingOf_47 ?_
    refine bs_iload_n hC 1 dX9_thingOf_50 rfl rfl ?_
    refine bs_callS_i hC (rm := ({ frames := 0, cells := 0, slots := 0, locals := 0 } : Room)) [.ref (bd_a ε (12 + 11)), .int x1] [] (fun h => c_X9_at (bd_l Γ) (bd_D Γ) ε 11 x1 (by decide) S2 h) mw_237 mw_235 mw_236 mw_72 by_X9_at ⟨rfl, rfl, by decide, by decide⟩ rfl rfl (Nat.le_of_ble_eq_true rfl) dX9_thingOf_51 (fun r6 S7 eS7 => ?_)
    exact bs_iret hC dX9_thingOf_54 rfl
  refine bs_case (c := x2 = 1) (fun c8 => ?_) (fun c8 => ?_)
  · refine bs_tabIn hC (1 : Int32) (40) 55 dX9_thingOf_15 c8 (by decide) (by decide) rfl (by decide) ?_
    refine bs_aload_n hC 0 dX9_thingOf_55 rfl rfl ?_
    refine bs_get hC (v := .ref (bd_a ε 1)) hin_X9 0 (cX_o0 ε S2) rfl 0 (by decide) mw_206 rfl dX9_thingOf_56 ?_
    refine bs_getN hC (v := .ref (bd_a ε 8)) hin_X8 1 (cX_o1 ε S2) rfl 0 (by decide) nf_18 rfl dX9_thingOf_59 ?_
    refine bs_getN hC (v := .ref (bd_a ε (12 + 12))) hin_X7 8 (cX_o8 ε S2) rfl 2 (by decide) nf_4 rfl dX9_thingOf_62 ?_
    refine bs_iload_n hC 1 dX9_thingOf_65 rfl rfl ?_
    refine bs_callS_i hC (rm := ({ frames := 0, cells := 0, slots := 0, locals := 0 } : Room)) [.ref (bd_a ε (12 + 12)), .int x1] [] (fun h => c_X9_at (bd_l Γ) (bd_D Γ) ε 12 x1 (by decide) S2 h) mw_237 mw_235 mw_236 mw_72 by_X9_at ⟨rfl, rfl, by decide, by decide⟩ rfl rfl (Nat.le_of_ble_eq_true rfl) dX9_thingOf_66 (fun r9 S10 eS10 => ?_)
    exact bs_iret hC dX9_thingOf_69 rfl
  refine bs_case (c := x2 = 2) (fun c11 => ?_) (fun c11 => ?_)
  · refine bs_tabIn hC (2 : Int32) (55) 70 dX9_thingOf_15 c11 (by decide) (by decide) rfl (by decide) ?_
    refine bs_aload_n hC 0 dX9_thingOf_70 rfl rfl ?_
    refine bs_get hC (v := .ref (bd_a ε 1)) hin_X9 0 (cX_o0 ε S2) rfl 0 (by decide) mw_206 rfl dX9_thingOf_71 ?_
    refine bs_getN hC (v := .ref (bd_a ε 8)) hin_X8 1 (cX_o1 ε S2) rfl 0 (by decide) nf_18 rfl dX9_thingOf_74 ?_
    refine bs_getN hC (v := .ref (bd_a ε (12 + 13))) hin_X7 8 (cX_o8 ε S2) rfl 3 (by decide) nf_6 rfl dX9_thingOf_77 ?_
    refine bs_iload_n hC 1 dX9_thingOf_80 rfl rfl ?_
    refine bs_callS_i hC (rm := ({ frames := 0, cells := 0, slots := 0, locals := 0 } : Room)) [.ref (bd_a ε (12 + 13)), .int x1] [] (fun h => c_X9_at (bd_l Γ) (bd_D Γ) ε 13 x1 (by decide) S2 h) mw_237 mw_235 mw_236 mw_72 by_X9_at ⟨rfl, rfl, by decide, by decide⟩ rfl rfl (Nat.le_of_ble_eq_true rfl) dX9_thingOf_81 (fun r12 S13 eS13 => ?_)
    exact bs_iret hC dX9_thingOf_84 rfl
  refine bs_tabOut hC 85 dX9_thingOf_15 (by have h0 := lv_neT (k := (0 : Int32)) (a := 0) c5 rfl; have h1 := lv_neT (k := (1 : Int32)) (a := 1) c8 rfl; have h2 := lv_neT (k := (2 : Int32)) (a := 2) c11 rfl; omega) (by decide) ?_
  refine bs_aload_n hC 0 dX9_thingOf_85 rfl rfl ?_
  refine bs_bipush hC (-2 : Int32) dX9_thingOf_86 rfl ?_
  refine bs_callV_i hC (rm := ({ frames := 1, cells := 0, slots := 0, locals := 22 } : Room)) [.int (-2 : Int32)] [] (fun h => c_X9_refuse (bd_l Γ) (bd_D Γ) ε (-2 : Int32) S2 h) mw_234 mw_232 mw_233 mw_72 mw_0 (cX_o0 ε S2) rfl by_X9_refuse ⟨rfl, rfl, by decide, by decide⟩ rfl rfl (Nat.le_of_ble_eq_true rfl) dX9_thingOf_88 (fun r14 S15 eS15 => ?_)
  exact bs_iret hC dX9_thingOf_91 rfl
theorem c_X9_thingOf (l : Launch) (D : va_G) (ε : bd_E) (x1 : Int32) (x2 : Int32)  (S : bd_T) (h0 : (f_X9_thingOf x1 x2 S).isSome = true) : bd_Con l yX9_thingOf (Cond.code yX9_thingOf cX9_thingOf 3 (some .int) :: bd_tbl) ({ frames := 2, cells := 0, slots := 0, locals := 43 } : Room) D ε (cX ε) bd_vi [.ref (bd_a ε 0), .int x1, .int x2] S (f_X9_thingOf x1 x2 S) :=
  bd_con (by decide +kernel) (Nat.le_of_ble_eq_true rfl) ⟨rfl, rfl⟩ h0 (fun Γ _ _ hC => bs_eq bs_bs (b_X9_thingOf hC x1 x2 S))
set_option maxRecDepth 100000 in
set_option maxHeartbeats 4000000 in
theorem lb_X0_forget_15 {Γ : bd_G} {ε : bd_E} {t0 : Option (Unit × bd_T)} (hC : bd_C Γ cX0_forget 2 RX0 none ({ frames := 0, cells := 0, slots := 0, locals := 0 } : Room) ε (cX ε) bd_vv t0)  {K : (Int32 × bd_T) ⊕ (bd_T) → Option (Unit × bd_T)} (hk : ∀ (x1 : Int32) (S : bd_T), bd_S Γ 2 t0 (K (.inl (x1, S))) (cX ε S) 15 [(0, .ref (bd_a ε 4)), (1, .int x1)] []) (hx : ∀ (S : bd_T), bd_S Γ 2 t0 (K (.inr S)) (cX ε S) 37 [] []) (x1 : Int32) (S : bd_T) : bd_S Γ 2 t0 ((fb_X0_forget_15 x1 S).bind K) (cX ε S) 15 [(0, .ref (bd_a ε 4)), (1, .int x1)] [] := by
  unfold fb_X0_forget_15
  refine bs_iload_n hC 1 dX0_forget_15 rfl rfl ?_
  refine bs_aload_n hC 0 dX0_forget_16 rfl rfl ?_
  refine bs_get hC (v := .ref (bd_a ε (12 + 9))) hin_X0 4 (cX_o4 ε S) rfl 0 (by decide) mw_175 rfl dX0_forget_17 ?_
  refine bs_alenI hC _ (cX_gi ε S 9 1800 (by decide) rfl) (v := (1800 : Int32)) rfl dX0_forget_20 ?_
  refine bs_icmp_ge hC 37 dX0_forget_21 (by decide) (fun c3 => ?_) (fun c3 => ?_)
  · refine bs_some ?_
    refine bs_pick [] rfl ?_
    exact hx S
  refine bs_aload_n hC 0 dX0_forget_24 rfl rfl ?_
  refine bs_get hC (v := .ref (bd_a ε (12 + 9))) hin_X0 4 (cX_o4 ε S) rfl 0 (by decide) mw_175 rfl dX0_forget_25 ?_
  refine bs_iload_n hC 1 dX0_forget_28 rfl rfl ?_
  refine bs_iconst hC (0 : Int32) dX0_forget_29 rfl ?_
  refine bs_iast hC _ (cX_gi ε S 9 1800 (by decide) rfl) (cX_si ε S 9 1800 (by decide) rfl _) dX0_forget_30 (fun S2 eS2 => ?_)
  refine bs_iinc hC 1 [(1, .int (x1 + 1)), (0, .ref (bd_a ε 4))] dX0_forget_31 rfl rfl (by decide) rfl ?_
  refine bs_goto hC 15 dX0_forget_34 (by decide) ?_
  refine bs_some ?_
  refine bs_pick [1, 0] rfl ?_
  exact hk (x1 + 1) S2
set_option maxRecDepth 100000 in
set_option maxHeartbeats 4000000 in
theorem b_X0_forget {Γ : bd_G} {ε : bd_E} {t0 : Option (Unit × bd_T)} (hC : bd_C Γ cX0_forget 2 RX0 none ({ frames := 0, cells := 0, slots := 0, locals := 0 } : Room) ε (cX ε) bd_vv t0)  (S : bd_T) : bd_S Γ 2 t0 ((f_X0_forget S).bind some) (cX ε S) 0 [(0, .ref (bd_a ε 4))] [] := by
  unfold f_X0_forget
  refine bs_aload_n hC 0 dX0_forget_0 rfl rfl ?_
  refine bs_get hC (v := .int (bd_I S 15)) hin_X0 4 (cX_o4 ε S) rfl 1 (by decide) mw_176 rfl dX0_forget_1 ?_
  refine bs_if_ne hC 8 dX0_forget_4 (by decide) (fun c5 => ?_) (fun c5 => ?_)
  · exact bs_vret hC dX0_forget_7 rfl
  refine bs_aload_n hC 0 dX0_forget_8 rfl rfl ?_
  refine bs_iconst hC (0 : Int32) dX0_forget_9 rfl ?_
  refine bs_put hC (kk := 15) hin_X0 tyX0 tyX0_ok nmX0 4 (cX_o4 ε S) rfl 1 (by decide) mw_176 rfl rfl rfl (Nat.le_of_ble_eq_true rfl) (cX_p15 ε S _) dX0_forget_10 (fun S1 eS1 => ?_)
  refine bs_iconst hC (0 : Int32) dX0_forget_13 rfl ?_
  refine bs_istore_n hC [(1, .int (0 : Int32)), (0, .ref (bd_a ε 4))] dX0_forget_14 rfl (by decide) rfl ?_
  refine bs_pick [1, 0] rfl ?_
  refine bs_loopK (fun (q : Int32 × bd_T) t => bd_S Γ 2 t0 t (cX ε (q.2)) 15 [(0, .ref (bd_a ε 4)), (1, .int (q.1))] []) (fun (q : bd_T) t => bd_S Γ 2 t0 t (cX ε (q)) 37 [] []) (fun q => fb_X0_forget_15 q.1 q.2) (fun _ => bs_none) (fun K hk hx q => lb_X0_forget_15 hC    (fun a0 S => hk (a0, S)) (fun  S => hx (S))  (q.1) (q.2)) (fun r => ?_) bd_K ((0 : Int32), S1)
  obtain ⟨S4, rfl⟩ : ∃ z, z = r := ⟨_, rfl⟩
  show bd_S Γ 2 t0 (Option.bind _ _) (cX ε S4) 37 [] []
  try dsimp only
  exact bs_vret hC dX0_forget_37 rfl
theorem c_X0_forget (l : Launch) (D : va_G) (ε : bd_E)  (S : bd_T) (h0 : (f_X0_forget S).isSome = true) : bd_Con l yX0_forget (Cond.code yX0_forget cX0_forget 2 none :: bd_tbl) ({ frames := 0, cells := 0, slots := 0, locals := 0 } : Room) D ε (cX ε) bd_vv [.ref (bd_a ε 4)] S (f_X0_forget S) :=
  bd_con (by decide +kernel) (Nat.le_of_ble_eq_true rfl) ⟨rfl, rfl⟩ h0 (fun Γ _ _ hC => bs_eq bs_bs (b_X0_forget hC S))
set_option maxRecDepth 100000 in
set_option maxHeartbeats 4000000 in
theorem b_X9_room {Γ : bd_G} {ε : bd_E} {t0 : Option (Int32 × bd_T)} (hC : bd_C Γ cX9_room 3 RX9 (some .int) ({ frames := 2, cells := 0, slots := 0, locals := 43 } : Room) ε (cX ε) bd_vi t0) (x1 : Int32)  (S : bd_T) : bd_S Γ 3 t0 ((f_X9_room x1 S).bind some) (cX ε S) 0 [(0, .ref (bd_a ε 0)), (1, .int x1)] [] := by
  unfold f_X9_room
  refine bs_iload_n hC 1 dX9_room_0 rfl rfl ?_
  refine bs_if_ge hC 11 dX9_room_1 (by decide) (fun c10 => ?_) (fun c10 => ?_)
  · refine bs_iload_n hC 1 dX9_room_11 rfl rfl ?_
    refine bs_sipush hC (9999 : Int32) dX9_room_12 rfl ?_
    refine bs_icmp_le hC 25 dX9_room_15 (by decide) (fun c7 => ?_) (fun c7 => ?_)
    · refine bs_aload_n hC 0 dX9_room_25 rfl rfl ?_
      refine bs_get hC (v := .ref (bd_a ε 1)) hin_X9 0 (cX_o0 ε S) rfl 0 (by decide) mw_206 rfl dX9_room_26 ?_
      refine bs_getN hC (v := .int (bd_I S 2)) hin_X8 1 (cX_o1 ε S) rfl 2 (by decide) nf_21 rfl dX9_room_29 ?_
      refine bs_leti (fun z1 ez1 => ?_)
      refine bs_istore_n hC [(2, .int z1), (0, .ref (bd_a ε 0)), (1, .int x1)] dX9_room_32 rfl (by decide) rfl ?_
      refine bs_aload_n hC 1 dX9_room_33 rfl rfl ?_
      refine bs_get hC (v := .ref (bd_a ε 1)) hin_X9 0 (cX_o0 ε S) rfl 0 (by decide) mw_206 rfl dX9_room_34 ?_
      refine bs_iload_n hC 2 dX9_room_37 rfl rfl ?_
      refine bs_putN hC (kk := 2) hin_X8 tyX8 tyX8_ok nmX8 1 (cX_o1 ε S) rfl 2 (by decide) nf_21 rfl rfl rfl (Nat.le_of_ble_eq_true rfl) (cX_p2 ε S _) dX9_room_38 (fun S2 eS2 => ?_)
      refine bs_aload_n hC 1 dX9_room_41 rfl rfl ?_
      refine bs_get hC (v := .ref (bd_a ε 4)) hin_X9 0 (cX_o0 ε S2) rfl 7 (by decide) mw_213 rfl dX9_room_42 ?_
      refine bs_callVN_v hC (rm := ({ frames := 0, cells := 0, slots := 0, locals := 0 } : Room)) [] [] (fun h => c_X0_forget (bd_l Γ) (bd_D Γ) ε S2 h) mw_275 nm_16 mw_274 mw_77 mw_8 (cX_o4 ε S2) rfl by_X0_forget ⟨rfl, rfl, by decide, by decide⟩ rfl rfl (Nat.le_of_ble_eq_true rfl) dX9_room_45 (fun r3 S4 eS4 => ?_)
      refine bs_iload_n hC 0 dX9_room_48 rfl rfl ?_
      exact bs_iret hC dX9_room_49 rfl
    refine bs_aload_n hC 0 dX9_room_18 rfl rfl ?_
    refine bs_bipush hC (-6 : Int32) dX9_room_19 rfl ?_
    refine bs_callV_i hC (rm := ({ frames := 1, cells := 0, slots := 0, locals := 22 } : Room)) [.int (-6 : Int32)] [] (fun h => c_X9_refuse (bd_l Γ) (bd_D Γ) ε (-6 : Int32) S h) mw_234 mw_232 mw_233 mw_72 mw_0 (cX_o0 ε S) rfl by_X9_refuse ⟨rfl, rfl, by decide, by decide⟩ rfl rfl (Nat.le_of_ble_eq_true rfl) dX9_room_21 (fun r5 S6 eS6 => ?_)
    exact bs_iret hC dX9_room_24 rfl
  refine bs_aload_n hC 0 dX9_room_4 rfl rfl ?_
  refine bs_bipush hC (-4 : Int32) dX9_room_5 rfl ?_
  refine bs_callV_i hC (rm := ({ frames := 1, cells := 0, slots := 0, locals := 22 } : Room)) [.int (-4 : Int32)] [] (fun h => c_X9_refuse (bd_l Γ) (bd_D Γ) ε (-4 : Int32) S h) mw_234 mw_232 mw_233 mw_72 mw_0 (cX_o0 ε S) rfl by_X9_refuse ⟨rfl, rfl, by decide, by decide⟩ rfl rfl (Nat.le_of_ble_eq_true rfl) dX9_room_7 (fun r8 S9 eS9 => ?_)
  exact bs_iret hC dX9_room_10 rfl
theorem c_X9_room (l : Launch) (D : va_G) (ε : bd_E) (x1 : Int32)  (S : bd_T) (h0 : (f_X9_room x1 S).isSome = true) : bd_Con l yX9_room (Cond.code yX9_room cX9_room 3 (some .int) :: bd_tbl) ({ frames := 2, cells := 0, slots := 0, locals := 43 } : Room) D ε (cX ε) bd_vi [.ref (bd_a ε 0), .int x1] S (f_X9_room x1 S) :=
  bd_con (by decide +kernel) (Nat.le_of_ble_eq_true rfl) ⟨rfl, rfl⟩ h0 (fun Γ _ _ hC => bs_eq bs_bs (b_X9_room hC x1 S))
set_option maxRecDepth 100000 in
set_option maxHeartbeats 4000000 in
theorem b_X8_open {Γ : bd_G} {ε : bd_E} {t0 : Option (Unit × bd_T)} (hC : bd_C Γ cX8_open 3 RX8 none ({ frames := 0, cells := 0, slots := 0, locals := 0 } : Room) ε (cX ε) bd_vv t0) (x1 : Int32) (x2 : Int32)  (S : bd_T) : bd_S Γ 3 t0 ((f_X8_open x1 x2 S).bind some) (cX ε S) 0 [(0, .ref (bd_a ε 1)), (1, .int x1), (2, .int x2)] [] := by
  unfold f_X8_open
  refine bs_aload_n hC 0 dX8_open_0 rfl rfl ?_
  refine bs_iload_n hC 1 dX8_open_1 rfl rfl ?_
  refine bs_put hC (kk := 3) hin_X8 tyX8 tyX8_ok nmX8 1 (cX_o1 ε S) rfl 3 (by decide) mw_138 rfl rfl rfl (Nat.le_of_ble_eq_true rfl) (cX_p3 ε S _) dX8_open_2 (fun S1 eS1 => ?_)
  refine bs_aload_n hC 0 dX8_open_5 rfl rfl ?_
  refine bs_iload_n hC 2 dX8_open_6 rfl rfl ?_
  refine bs_put hC (kk := 4) hin_X8 tyX8 tyX8_ok nmX8 1 (cX_o1 ε S1) rfl 4 (by decide) mw_139 rfl rfl rfl (Nat.le_of_ble_eq_true rfl) (cX_p4 ε S1 _) dX8_open_7 (fun S2 eS2 => ?_)
  exact bs_vret hC dX8_open_10 rfl
theorem c_X8_open (l : Launch) (D : va_G) (ε : bd_E) (x1 : Int32) (x2 : Int32)  (S : bd_T) (h0 : (f_X8_open x1 x2 S).isSome = true) : bd_Con l yX8_open (Cond.code yX8_open cX8_open 3 none :: bd_tbl) ({ frames := 0, cells := 0, slots := 0, locals := 0 } : Room) D ε (cX ε) bd_vv [.ref (bd_a ε 1), .int x1, .int x2] S (f_X8_open x1 x2 S) :=
  bd_con (by decide +kernel) (Nat.le_of_ble_eq_true rfl) ⟨rfl, rfl⟩ h0 (fun Γ _ _ hC => bs_eq bs_bs (b_X8_open hC x1 x2 S))
set_option maxRecDepth 100000 in
set_option maxHeartbeats 4000000 in
theorem b_X8_shut {Γ : bd_G} {ε : bd_E} {t0 : Option (Unit × bd_T)} (hC : bd_C Γ cX8_shut 1 RX8 none ({ frames := 1, cells := 0, slots := 0, locals := 22 } : Room) ε (cX ε) bd_vv t0)  (S : bd_T) : bd_S Γ 1 t0 ((f_X8_shut S).bind some) (cX ε S) 0 [(0, .ref (bd_a ε 1))] [] := by
  unfold f_X8_shut
  refine bs_aload_n hC 0 dX8_shut_0 rfl rfl ?_
  refine bs_iconst hC (0 : Int32) dX8_shut_1 rfl ?_
  refine bs_iconst hC (-1 : Int32) dX8_shut_2 rfl ?_
  refine bs_callV_v hC (rm := ({ frames := 0, cells := 0, slots := 0, locals := 0 } : Room)) [.int (0 : Int32), .int (-1 : Int32)] [] (fun h => c_X8_open (bd_l Γ) (bd_D Γ) ε (0 : Int32) (-1 : Int32) S h) mw_284 mw_282 mw_283 mw_73 mw_10 (cX_o1 ε S) rfl by_X8_open ⟨rfl, rfl, by decide, by decide⟩ rfl rfl (Nat.le_of_ble_eq_true rfl) dX8_shut_3 (fun r1 S2 eS2 => ?_)
  exact bs_vret hC dX8_shut_6 rfl
theorem c_X8_shut (l : Launch) (D : va_G) (ε : bd_E)  (S : bd_T) (h0 : (f_X8_shut S).isSome = true) : bd_Con l yX8_shut (Cond.code yX8_shut cX8_shut 1 none :: bd_tbl) ({ frames := 1, cells := 0, slots := 0, locals := 22 } : Room) D ε (cX ε) bd_vv [.ref (bd_a ε 1)] S (f_X8_shut S) :=
  bd_con (by decide +kernel) (Nat.le_of_ble_eq_true rfl) ⟨rfl, rfl⟩ h0 (fun Γ _ _ hC => bs_eq bs_bs (b_X8_shut hC S))
set_option maxRecDepth 100000 in
set_option maxHeartbeats 4000000 in
theorem b_X9_window {Γ : bd_G} {ε : bd_E} {t0 : Option (Int32 × bd_T)} (hC : bd_C Γ cX9_window 3 RX9 (some .int) ({ frames := 2, cells := 0, slots := 0, locals := 43 } : Room) ε (cX ε) bd_vi t0) (x1 : Int32) (x2 : Int32)  (S : bd_T) : bd_S Γ 3 t0 ((f_X9_window x1 x2 S).bind some) (cX ε S) 0 [(0, .ref (bd_a ε 0)), (1, .int x1), (2, .int x2)] [] := by
  unfold f_X9_window
  refine bs_iload_n hC 1 dX9_window_0 rfl rfl ?_
  refine bs_iconst hC (-1 : Int32) dX9_window_1 rfl ?_
  refine bs_icmp_ne hC 21 dX9_window_2 (by decide) (fun c18 => ?_) (fun c18 => ?_)
  · refine bs_aload_n hC 0 dX9_window_5 rfl rfl ?_
    refine bs_get hC (v := .ref (bd_a ε 1)) hin_X9 0 (cX_o0 ε S) rfl 0 (by decide) mw_206 rfl dX9_window_6 ?_
    refine bs_callVN_v hC (rm := ({ frames := 1, cells := 0, slots := 0, locals := 22 } : Room)) [] [] (fun h => c_X8_shut (bd_l Γ) (bd_D Γ) ε S h) mw_281 nm_17 mw_280 mw_73 mw_9 (cX_o1 ε S) rfl by_X8_shut ⟨rfl, rfl, by decide, by decide⟩ rfl rfl (Nat.le_of_ble_eq_true rfl) dX9_window_9 (fun r1 S2 eS2 => ?_)
    refine bs_aload_n hC 0 dX9_window_12 rfl rfl ?_
    refine bs_get hC (v := .ref (bd_a ε 4)) hin_X9 0 (cX_o0 ε S2) rfl 7 (by decide) mw_213 rfl dX9_window_13 ?_
    refine bs_callVN_v hC (rm := ({ frames := 0, cells := 0, slots := 0, locals := 0 } : Room)) [] [] (fun h => c_X0_forget (bd_l Γ) (bd_D Γ) ε S2 h) mw_275 nm_16 mw_274 mw_77 mw_8 (cX_o4 ε S2) rfl by_X0_forget ⟨rfl, rfl, by decide, by decide⟩ rfl rfl (Nat.le_of_ble_eq_true rfl) dX9_window_16 (fun r3 S4 eS4 => ?_)
    refine bs_iconst hC (1 : Int32) dX9_window_19 rfl ?_
    exact bs_iret hC dX9_window_20 rfl
  refine bs_iload_n hC 1 dX9_window_21 rfl rfl ?_
  refine bs_if_lt hC 30 dX9_window_22 (by decide) (fun c17 => ?_) (fun c17 => ?_)
  · refine bs_aload_n hC 0 dX9_window_30 rfl rfl ?_
    refine bs_bipush hC (-4 : Int32) dX9_window_31 rfl ?_
    refine bs_callV_i hC (rm := ({ frames := 1, cells := 0, slots := 0, locals := 22 } : Room)) [.int (-4 : Int32)] [] (fun h => c_X9_refuse (bd_l Γ) (bd_D Γ) ε (-4 : Int32) S h) mw_234 mw_232 mw_233 mw_72 mw_0 (cX_o0 ε S) rfl by_X9_refuse ⟨rfl, rfl, by decide, by decide⟩ rfl rfl (Nat.le_of_ble_eq_true rfl) dX9_window_33 (fun r5 S6 eS6 => ?_)
    exact bs_iret hC dX9_window_36 rfl
  refine bs_iload_n hC 2 dX9_window_25 rfl rfl ?_
  refine bs_iload_n hC 1 dX9_window_26 rfl rfl ?_
  refine bs_icmp_ge hC 37 dX9_window_27 (by decide) (fun c16 => ?_) (fun c16 => ?_)
  · refine bs_iload_n hC 2 dX9_window_37 rfl rfl ?_
    refine bs_sipush hC (299 : Int32) dX9_window_38 rfl ?_
    refine bs_icmp_le hC 51 dX9_window_41 (by decide) (fun c13 => ?_) (fun c13 => ?_)
    · refine bs_aload_n hC 0 dX9_window_51 rfl rfl ?_
      refine bs_get hC (v := .ref (bd_a ε 1)) hin_X9 0 (cX_o0 ε S) rfl 0 (by decide) mw_206 rfl dX9_window_52 ?_
      refine bs_iload_n hC 1 dX9_window_55 rfl rfl ?_
      refine bs_iload_n hC 2 dX9_window_56 rfl rfl ?_
      refine bs_callVN_v hC (rm := ({ frames := 0, cells := 0, slots := 0, locals := 0 } : Room)) [.int x1, .int x2] [] (fun h => c_X8_open (bd_l Γ) (bd_D Γ) ε x1 x2 S h) mw_284 nm_18 mw_283 mw_73 mw_10 (cX_o1 ε S) rfl by_X8_open ⟨rfl, rfl, by decide, by decide⟩ rfl rfl (Nat.le_of_ble_eq_true rfl) dX9_window_57 (fun r7 S8 eS8 => ?_)
      refine bs_aload_n hC 0 dX9_window_60 rfl rfl ?_
      refine bs_get hC (v := .ref (bd_a ε 4)) hin_X9 0 (cX_o0 ε S8) rfl 7 (by decide) mw_213 rfl dX9_window_61 ?_
      refine bs_callVN_v hC (rm := ({ frames := 0, cells := 0, slots := 0, locals := 0 } : Room)) [] [] (fun h => c_X0_forget (bd_l Γ) (bd_D Γ) ε S8 h) mw_275 nm_16 mw_274 mw_77 mw_8 (cX_o4 ε S8) rfl by_X0_forget ⟨rfl, rfl, by decide, by decide⟩ rfl rfl (Nat.le_of_ble_eq_true rfl) dX9_window_64 (fun r9 S10 eS10 => ?_)
      refine bs_iconst hC (1 : Int32) dX9_window_67 rfl ?_
      exact bs_iret hC dX9_window_68 rfl
    refine bs_aload_n hC 0 dX9_window_44 rfl rfl ?_
    refine bs_bipush hC (-6 : Int32) dX9_window_45 rfl ?_
    refine bs_callV_i hC (rm := ({ frames := 1, cells := 0, slots := 0, locals := 22 } : Room)) [.int (-6 : Int32)] [] (fun h => c_X9_refuse (bd_l Γ) (bd_D Γ) ε (-6 : Int32) S h) mw_234 mw_232 mw_233 mw_72 mw_0 (cX_o0 ε S) rfl by_X9_refuse ⟨rfl, rfl, by decide, by decide⟩ rfl rfl (Nat.le_of_ble_eq_true rfl) dX9_window_47 (fun r11 S12 eS12 => ?_)
    exact bs_iret hC dX9_window_50 rfl
  refine bs_aload_n hC 0 dX9_window_30 rfl rfl ?_
  refine bs_bipush hC (-4 : Int32) dX9_window_31 rfl ?_
  refine bs_callV_i hC (rm := ({ frames := 1, cells := 0, slots := 0, locals := 22 } : Room)) [.int (-4 : Int32)] [] (fun h => c_X9_refuse (bd_l Γ) (bd_D Γ) ε (-4 : Int32) S h) mw_234 mw_232 mw_233 mw_72 mw_0 (cX_o0 ε S) rfl by_X9_refuse ⟨rfl, rfl, by decide, by decide⟩ rfl rfl (Nat.le_of_ble_eq_true rfl) dX9_window_33 (fun r14 S15 eS15 => ?_)
  exact bs_iret hC dX9_window_36 rfl
theorem c_X9_window (l : Launch) (D : va_G) (ε : bd_E) (x1 : Int32) (x2 : Int32)  (S : bd_T) (h0 : (f_X9_window x1 x2 S).isSome = true) : bd_Con l yX9_window (Cond.code yX9_window cX9_window 3 (some .int) :: bd_tbl) ({ frames := 2, cells := 0, slots := 0, locals := 43 } : Room) D ε (cX ε) bd_vi [.ref (bd_a ε 0), .int x1, .int x2] S (f_X9_window x1 x2 S) :=
  bd_con (by decide +kernel) (Nat.le_of_ble_eq_true rfl) ⟨rfl, rfl⟩ h0 (fun Γ _ _ hC => bs_eq bs_bs (b_X9_window hC x1 x2 S))
set_option maxRecDepth 100000 in
set_option maxHeartbeats 4000000 in
theorem b_X8_addCandidate {Γ : bd_G} {ε : bd_E} {t0 : Option (Int32 × bd_T)} (hC : bd_C Γ cX8_addCandidate 3 RX8 (some .int) ({ frames := 1, cells := 0, slots := 0, locals := 22 } : Room) ε (cX ε) bd_vi t0) (x1 : Int32) (x2 : Int32)  (S : bd_T) : bd_S Γ 3 t0 ((f_X8_addCandidate x1 x2 S).bind some) (cX ε S) 0 [(0, .ref (bd_a ε 1)), (1, .int x1), (2, .int x2)] [] := by
  unfold f_X8_addCandidate
  refine bs_aload_n hC 0 dX8_addCandidate_0 rfl rfl ?_
  refine bs_get hC (v := .ref (bd_a ε (12 + 2))) hin_X8 1 (cX_o1 ε S) rfl 6 (by decide) mw_141 rfl dX8_addCandidate_1 ?_
  refine bs_aload_n hC 0 dX8_addCandidate_4 rfl rfl ?_
  refine bs_get hC (v := .int (bd_I S 5)) hin_X8 1 (cX_o1 ε S) rfl 5 (by decide) mw_140 rfl dX8_addCandidate_5 ?_
  refine bs_iload_n hC 1 dX8_addCandidate_8 rfl rfl ?_
  refine bs_callSN_v hC (rm := ({ frames := 0, cells := 0, slots := 0, locals := 0 } : Room)) [.ref (bd_a ε (12 + 2)), .int (bd_I S 5), .int x1] [] (fun h => c_X9_lay (bd_l Γ) (bd_D Γ) ε 2 (bd_I S 5) x1 (by decide) S h) mw_240 nm_20 mw_239 mw_72 by_X9_lay ⟨rfl, rfl, by decide, by decide⟩ rfl rfl (Nat.le_of_ble_eq_true rfl) dX8_addCandidate_9 (fun r1 S2 eS2 => ?_)
  refine bs_aload_n hC 0 dX8_addCandidate_12 rfl rfl ?_
  refine bs_get hC (v := .ref (bd_a ε (12 + 3))) hin_X8 1 (cX_o1 ε S2) rfl 7 (by decide) mw_142 rfl dX8_addCandidate_13 ?_
  refine bs_aload_n hC 0 dX8_addCandidate_16 rfl rfl ?_
  refine bs_get hC (v := .int (bd_I S2 5)) hin_X8 1 (cX_o1 ε S2) rfl 5 (by decide) mw_140 rfl dX8_addCandidate_17 ?_
  refine bs_iload_n hC 2 dX8_addCandidate_20 rfl rfl ?_
  refine bs_callSN_v hC (rm := ({ frames := 0, cells := 0, slots := 0, locals := 0 } : Room)) [.ref (bd_a ε (12 + 3)), .int (bd_I S2 5), .int x2] [] (fun h => c_X9_lay (bd_l Γ) (bd_D Γ) ε 3 (bd_I S2 5) x2 (by decide) S2 h) mw_240 nm_20 mw_239 mw_72 by_X9_lay ⟨rfl, rfl, by decide, by decide⟩ rfl rfl (Nat.le_of_ble_eq_true rfl) dX8_addCandidate_21 (fun r3 S4 eS4 => ?_)
  refine bs_aload_n hC 0 dX8_addCandidate_24 rfl rfl ?_
  refine bs_dup hC dX8_addCandidate_25 rfl ?_
  refine bs_get hC (v := .int (bd_I S4 5)) hin_X8 1 (cX_o1 ε S4) rfl 5 (by decide) mw_140 rfl dX8_addCandidate_26 ?_
  refine bs_iconst hC (1 : Int32) dX8_addCandidate_29 rfl ?_
  refine bs_iadd hC dX8_addCandidate_30 ?_
  refine bs_put hC (kk := 5) hin_X8 tyX8 tyX8_ok nmX8 1 (cX_o1 ε S4) rfl 5 (by decide) mw_140 rfl rfl rfl (Nat.le_of_ble_eq_true rfl) (cX_p5 ε S4 _) dX8_addCandidate_31 (fun S5 eS5 => ?_)
  refine bs_aload_n hC 0 dX8_addCandidate_34 rfl rfl ?_
  refine bs_get hC (v := .int (bd_I S5 5)) hin_X8 1 (cX_o1 ε S5) rfl 5 (by decide) mw_140 rfl dX8_addCandidate_35 ?_
  exact bs_iret hC dX8_addCandidate_38 rfl
theorem c_X8_addCandidate (l : Launch) (D : va_G) (ε : bd_E) (x1 : Int32) (x2 : Int32)  (S : bd_T) (h0 : (f_X8_addCandidate x1 x2 S).isSome = true) : bd_Con l yX8_addCandidate (Cond.code yX8_addCandidate cX8_addCandidate 3 (some .int) :: bd_tbl) ({ frames := 1, cells := 0, slots := 0, locals := 22 } : Room) D ε (cX ε) bd_vi [.ref (bd_a ε 1), .int x1, .int x2] S (f_X8_addCandidate x1 x2 S) :=
  bd_con (by decide +kernel) (Nat.le_of_ble_eq_true rfl) ⟨rfl, rfl⟩ h0 (fun Γ _ _ hC => bs_eq bs_bs (b_X8_addCandidate hC x1 x2 S))
set_option maxRecDepth 100000 in
set_option maxHeartbeats 4000000 in
theorem b_X9_candidate {Γ : bd_G} {ε : bd_E} {t0 : Option (Int32 × bd_T)} (hC : bd_C Γ cX9_candidate 3 RX9 (some .int) ({ frames := 2, cells := 0, slots := 0, locals := 44 } : Room) ε (cX ε) bd_vi t0) (x1 : Int32) (x2 : Int32)  (S : bd_T) : bd_S Γ 3 t0 ((f_X9_candidate x1 x2 S).bind some) (cX ε S) 0 [(0, .ref (bd_a ε 0)), (1, .int x1), (2, .int x2)] [] := by
  unfold f_X9_candidate
  refine bs_iload_n hC 1 dX9_candidate_0 rfl rfl ?_
  refine bs_if_lt hC 9 dX9_candidate_1 (by decide) (fun c14 => ?_) (fun c14 => ?_)
  · refine bs_aload_n hC 0 dX9_candidate_9 rfl rfl ?_
    refine bs_bipush hC (-4 : Int32) dX9_candidate_10 rfl ?_
    refine bs_callV_i hC (rm := ({ frames := 1, cells := 0, slots := 0, locals := 22 } : Room)) [.int (-4 : Int32)] [] (fun h => c_X9_refuse (bd_l Γ) (bd_D Γ) ε (-4 : Int32) S h) mw_234 mw_232 mw_233 mw_72 mw_0 (cX_o0 ε S) rfl by_X9_refuse ⟨rfl, rfl, by decide, by decide⟩ rfl rfl (Nat.le_of_ble_eq_true rfl) dX9_candidate_12 (fun r1 S2 eS2 => ?_)
    exact bs_iret hC dX9_candidate_15 rfl
  refine bs_iload_n hC 2 dX9_candidate_4 rfl rfl ?_
  refine bs_iload_n hC 1 dX9_candidate_5 rfl rfl ?_
  refine bs_icmp_ge hC 16 dX9_candidate_6 (by decide) (fun c13 => ?_) (fun c13 => ?_)
  · refine bs_iload_n hC 2 dX9_candidate_16 rfl rfl ?_
    refine bs_sipush hC (299 : Int32) dX9_candidate_17 rfl ?_
    refine bs_icmp_gt hC 34 dX9_candidate_20 (by decide) (fun c10 => ?_) (fun c10 => ?_)
    · refine bs_aload_n hC 0 dX9_candidate_34 rfl rfl ?_
      refine bs_bipush hC (-6 : Int32) dX9_candidate_35 rfl ?_
      refine bs_callV_i hC (rm := ({ frames := 1, cells := 0, slots := 0, locals := 22 } : Room)) [.int (-6 : Int32)] [] (fun h => c_X9_refuse (bd_l Γ) (bd_D Γ) ε (-6 : Int32) S h) mw_234 mw_232 mw_233 mw_72 mw_0 (cX_o0 ε S) rfl by_X9_refuse ⟨rfl, rfl, by decide, by decide⟩ rfl rfl (Nat.le_of_ble_eq_true rfl) dX9_candidate_37 (fun r3 S4 eS4 => ?_)
      exact bs_iret hC dX9_candidate_40 rfl
    refine bs_aload_n hC 0 dX9_candidate_23 rfl rfl ?_
    refine bs_get hC (v := .ref (bd_a ε 1)) hin_X9 0 (cX_o0 ε S) rfl 0 (by decide) mw_206 rfl dX9_candidate_24 ?_
    refine bs_getN hC (v := .int (bd_I S 5)) hin_X8 1 (cX_o1 ε S) rfl 5 (by decide) nf_24 rfl dX9_candidate_27 ?_
    refine bs_iconst hC (4 : Int32) dX9_candidate_30 rfl ?_
    refine bs_icmp_lt hC 41 dX9_candidate_31 (by decide) (fun c9 => ?_) (fun c9 => ?_)
    · refine bs_aload_n hC 0 dX9_candidate_41 rfl rfl ?_
      refine bs_get hC (v := .ref (bd_a ε 1)) hin_X9 0 (cX_o0 ε S) rfl 0 (by decide) mw_206 rfl dX9_candidate_42 ?_
      refine bs_iload_n hC 1 dX9_candidate_45 rfl rfl ?_
      refine bs_iload_n hC 2 dX9_candidate_46 rfl rfl ?_
      refine bs_callVN_i hC (rm := ({ frames := 1, cells := 0, slots := 0, locals := 22 } : Room)) [.int x1, .int x2] [] (fun h => c_X8_addCandidate (bd_l Γ) (bd_D Γ) ε x1 x2 S h) mw_290 nm_19 mw_289 mw_73 mw_11 (cX_o1 ε S) rfl by_X8_addCandidate ⟨rfl, rfl, by decide, by decide⟩ rfl rfl (Nat.le_of_ble_eq_true rfl) dX9_candidate_47 (fun r5 S6 eS6 => ?_)
      exact bs_iret hC dX9_candidate_50 rfl
    refine bs_aload_n hC 0 dX9_candidate_34 rfl rfl ?_
    refine bs_bipush hC (-6 : Int32) dX9_candidate_35 rfl ?_
    refine bs_callV_i hC (rm := ({ frames := 1, cells := 0, slots := 0, locals := 22 } : Room)) [.int (-6 : Int32)] [] (fun h => c_X9_refuse (bd_l Γ) (bd_D Γ) ε (-6 : Int32) S h) mw_234 mw_232 mw_233 mw_72 mw_0 (cX_o0 ε S) rfl by_X9_refuse ⟨rfl, rfl, by decide, by decide⟩ rfl rfl (Nat.le_of_ble_eq_true rfl) dX9_candidate_37 (fun r7 S8 eS8 => ?_)
    exact bs_iret hC dX9_candidate_40 rfl
  refine bs_aload_n hC 0 dX9_candidate_9 rfl rfl ?_
  refine bs_bipush hC (-4 : Int32) dX9_candidate_10 rfl ?_
  refine bs_callV_i hC (rm := ({ frames := 1, cells := 0, slots := 0, locals := 22 } : Room)) [.int (-4 : Int32)] [] (fun h => c_X9_refuse (bd_l Γ) (bd_D Γ) ε (-4 : Int32) S h) mw_234 mw_232 mw_233 mw_72 mw_0 (cX_o0 ε S) rfl by_X9_refuse ⟨rfl, rfl, by decide, by decide⟩ rfl rfl (Nat.le_of_ble_eq_true rfl) dX9_candidate_12 (fun r11 S12 eS12 => ?_)
  exact bs_iret hC dX9_candidate_15 rfl
theorem c_X9_candidate (l : Launch) (D : va_G) (ε : bd_E) (x1 : Int32) (x2 : Int32)  (S : bd_T) (h0 : (f_X9_candidate x1 x2 S).isSome = true) : bd_Con l yX9_candidate (Cond.code yX9_candidate cX9_candidate 3 (some .int) :: bd_tbl) ({ frames := 2, cells := 0, slots := 0, locals := 44 } : Room) D ε (cX ε) bd_vi [.ref (bd_a ε 0), .int x1, .int x2] S (f_X9_candidate x1 x2 S) :=
  bd_con (by decide +kernel) (Nat.le_of_ble_eq_true rfl) ⟨rfl, rfl⟩ h0 (fun Γ _ _ hC => bs_eq bs_bs (b_X9_candidate hC x1 x2 S))
set_option maxRecDepth 100000 in
set_option maxHeartbeats 4000000 in
theorem b_X8_inWindow {Γ : bd_G} {ε : bd_E} {t0 : Option (Int32 × bd_T)} (hC : bd_C Γ cX8_inWindow 2 RX8 (some .boolean) ({ frames := 0, cells := 0, slots := 0, locals := 0 } : Room) ε (cX ε) bd_vi t0) (x1 : Int32)  (S : bd_T) : bd_S Γ 2 t0 ((f_X8_inWindow x1 S).bind some) (cX ε S) 0 [(0, .ref (bd_a ε 1)), (1, .int x1)] [] := by
  unfold f_X8_inWindow
  refine bs_iload_n hC 1 dX8_inWindow_0 rfl rfl ?_
  refine bs_aload_n hC 0 dX8_inWindow_1 rfl rfl ?_
  refine bs_get hC (v := .int (bd_I S 3)) hin_X8 1 (cX_o1 ε S) rfl 3 (by decide) mw_138 rfl dX8_inWindow_2 ?_
  refine bs_icmp_lt hC 20 dX8_inWindow_5 (by decide) (fun c2 => ?_) (fun c2 => ?_)
  · refine bs_iconst hC (0 : Int32) dX8_inWindow_20 rfl ?_
    exact bs_zret hC dX8_inWindow_21 rfl rfl
  refine bs_iload_n hC 1 dX8_inWindow_8 rfl rfl ?_
  refine bs_aload_n hC 0 dX8_inWindow_9 rfl rfl ?_
  refine bs_get hC (v := .int (bd_I S 4)) hin_X8 1 (cX_o1 ε S) rfl 4 (by decide) mw_139 rfl dX8_inWindow_10 ?_
  refine bs_icmp_gt hC 20 dX8_inWindow_13 (by decide) (fun c1 => ?_) (fun c1 => ?_)
  · refine bs_iconst hC (0 : Int32) dX8_inWindow_20 rfl ?_
    exact bs_zret hC dX8_inWindow_21 rfl rfl
  refine bs_iconst hC (1 : Int32) dX8_inWindow_16 rfl ?_
  refine bs_goto hC 21 dX8_inWindow_17 (by decide) ?_
  exact bs_zret hC dX8_inWindow_21 rfl rfl
theorem c_X8_inWindow (l : Launch) (D : va_G) (ε : bd_E) (x1 : Int32)  (S : bd_T) (h0 : (f_X8_inWindow x1 S).isSome = true) : bd_Con l yX8_inWindow (Cond.code yX8_inWindow cX8_inWindow 2 (some .boolean) :: bd_tbl) ({ frames := 0, cells := 0, slots := 0, locals := 0 } : Room) D ε (cX ε) bd_vi [.ref (bd_a ε 1), .int x1] S (f_X8_inWindow x1 S) :=
  bd_con (by decide +kernel) (Nat.le_of_ble_eq_true rfl) ⟨rfl, rfl⟩ h0 (fun Γ _ _ hC => bs_eq bs_bs (b_X8_inWindow hC x1 S))
set_option maxRecDepth 100000 in
set_option maxHeartbeats 4000000 in
theorem b_X8_nearer {Γ : bd_G} {ε : bd_E} {t0 : Option (Int32 × bd_T)} (hC : bd_C Γ cX8_nearer 3 RX8 (some .int) ({ frames := 0, cells := 0, slots := 0, locals := 0 } : Room) ε (cX ε) bd_vi t0) (x1 : Int32) (x2 : Int32)  (S : bd_T) : bd_S Γ 3 t0 ((f_X8_nearer x1 x2 S).bind some) (cX ε S) 0 [(0, .ref (bd_a ε 1)), (1, .int x1), (2, .int x2)] [] := by
  unfold f_X8_nearer
  refine bs_iload_n hC 1 dX8_nearer_0 rfl rfl ?_
  refine bs_aload_n hC 0 dX8_nearer_1 rfl rfl ?_
  refine bs_get hC (v := .int (bd_I S 2)) hin_X8 1 (cX_o1 ε S) rfl 2 (by decide) mw_137 rfl dX8_nearer_2 ?_
  refine bs_iload_n hC 1 dX8_nearer_5 rfl rfl ?_
  refine bs_isub hC dX8_nearer_6 ?_
  refine bs_iload_n hC 2 dX8_nearer_7 rfl rfl ?_
  refine bs_imul hC dX8_nearer_8 ?_
  refine bs_bipush hC (100 : Int32) dX8_nearer_9 rfl ?_
  refine bs_idivc hC dX8_nearer_11 (by decide) ?_
  refine bs_iadd hC dX8_nearer_12 ?_
  exact bs_iret hC dX8_nearer_13 rfl
theorem c_X8_nearer (l : Launch) (D : va_G) (ε : bd_E) (x1 : Int32) (x2 : Int32)  (S : bd_T) (h0 : (f_X8_nearer x1 x2 S).isSome = true) : bd_Con l yX8_nearer (Cond.code yX8_nearer cX8_nearer 3 (some .int) :: bd_tbl) ({ frames := 0, cells := 0, slots := 0, locals := 0 } : Room) D ε (cX ε) bd_vi [.ref (bd_a ε 1), .int x1, .int x2] S (f_X8_nearer x1 x2 S) :=
  bd_con (by decide +kernel) (Nat.le_of_ble_eq_true rfl) ⟨rfl, rfl⟩ h0 (fun Γ _ _ hC => bs_eq bs_bs (b_X8_nearer hC x1 x2 S))
set_option maxRecDepth 100000 in
set_option maxHeartbeats 4000000 in
theorem lb_X8_nearing_7 {Γ : bd_G} {ε : bd_E} {t0 : Option (Int32 × bd_T)} (hC : bd_C Γ cX8_nearing 9 RX8 (some .int) ({ frames := 1, cells := 0, slots := 0, locals := 22 } : Room) ε (cX ε) bd_vi t0) (p2 : Int32) (p3 : Int32) (p5 : Int32) {K : (Int32 × Int32 × bd_T) ⊕ ((Int32 × bd_T) ⊕ (Int32 × bd_T)) → Option (Int32 × bd_T)} (hk : ∀ (x6 : Int32) (x7 : Int32) (S : bd_T), bd_S Γ 9 t0 (K (.inl (x6, x7, S))) (cX ε S) 7 [(0, .ref (bd_a ε 1)), (2, .int p2), (3, .int p3), (5, .int p5), (6, .int x6), (7, .int x7)] []) (hx : ∀ (y6 : Int32) (S : bd_T), bd_S Γ 9 t0 (K (.inr (.inr (y6, S)))) (cX ε S) 68 [(6, .int y6)] []) (hr : ∀ z, K (.inr (.inl z)) = some z) (x6 : Int32) (x7 : Int32) (S : bd_T) : bd_S Γ 9 t0 ((fb_X8_nearing_7 p2 p3 p5 x6 x7 S).bind K) (cX ε S) 7 [(0, .ref (bd_a ε 1)), (2, .int p2), (3, .int p3), (5, .int p5), (6, .int x6), (7, .int x7)] [] := by
  unfold fb_X8_nearing_7
  refine bs_iload hC 5 dX8_nearing_7 rfl ?_
  refine bs_iload hC 3 dX8_nearing_9 rfl ?_
  refine bs_icmp_ge hC 68 dX8_nearing_11 (by decide) (fun c16 => ?_) (fun c16 => ?_)
  · refine bs_some ?_
    refine bs_pick [4] rfl ?_
    exact hx x6 S
  refine bs_aload_n hC 0 dX8_nearing_14 rfl rfl ?_
  refine bs_iload hC 4 dX8_nearing_15 rfl ?_
  refine bs_aload_n hC 0 dX8_nearing_17 rfl rfl ?_
  refine bs_iload hC 5 dX8_nearing_18 rfl ?_
  refine bs_callV_i hC (rm := ({ frames := 0, cells := 0, slots := 0, locals := 0 } : Room)) [.int x7] [.int x6, .ref (bd_a ε 1)] (fun h => c_X8_inWindow (bd_l Γ) (bd_D Γ) ε x7 S h) mw_311 mw_309 mw_310 mw_73 mw_15 (cX_o1 ε S) rfl by_X8_inWindow ⟨rfl, rfl, by decide, by decide⟩ rfl rfl (Nat.le_of_ble_eq_true rfl) dX8_nearing_20 (fun r1 S2 eS2 => ?_)
  refine bs_if_eq hC 30 dX8_nearing_23 (by decide) (fun c15 => ?_) (fun c15 => ?_)
  · refine bs_iload_n hC 1 dX8_nearing_30 rfl rfl ?_
    refine bs_callV_i hC (rm := ({ frames := 0, cells := 0, slots := 0, locals := 0 } : Room)) [.int x6, .int p2] [] (fun h => c_X8_nearer (bd_l Γ) (bd_D Γ) ε x6 p2 S2 h) mw_314 mw_312 mw_313 mw_73 mw_16 (cX_o1 ε S2) rfl by_X8_nearer ⟨rfl, rfl, by decide, by decide⟩ rfl rfl (Nat.le_of_ble_eq_true rfl) dX8_nearing_31 (fun r3 S4 eS4 => ?_)
    refine bs_istore hC [(8, .int r3), (0, .ref (bd_a ε 1)), (2, .int p2), (3, .int p3), (5, .int p5), (6, .int x6), (7, .int x7)] dX8_nearing_34 (by decide) rfl ?_
    refine bs_iload hC 0 dX8_nearing_36 rfl ?_
    refine bs_iload hC 5 dX8_nearing_38 rfl ?_
    refine bs_icmp_ne hC 58 dX8_nearing_40 (by decide) (fun c8 => ?_) (fun c8 => ?_)
    · refine bs_aload_n hC 1 dX8_nearing_43 rfl rfl ?_
      refine bs_iload hC 5 dX8_nearing_44 rfl ?_
      refine bs_iload_n hC 3 dX8_nearing_46 rfl rfl ?_
      refine bs_callV_i hC (rm := ({ frames := 0, cells := 0, slots := 0, locals := 0 } : Room)) [.int x6, .int p3] [] (fun h => c_X8_nearer (bd_l Γ) (bd_D Γ) ε x6 p3 S4 h) mw_314 mw_312 mw_313 mw_73 mw_16 (cX_o1 ε S4) rfl by_X8_nearer ⟨rfl, rfl, by decide, by decide⟩ rfl rfl (Nat.le_of_ble_eq_true rfl) dX8_nearing_47 (fun r5 S6 eS6 => ?_)
      refine bs_iload hC 5 dX8_nearing_50 rfl ?_
      refine bs_icmp_ne hC 58 dX8_nearing_52 (by decide) (fun c7 => ?_) (fun c7 => ?_)
      · refine bs_iload hC 5 dX8_nearing_55 rfl ?_
        exact bs_iret hC dX8_nearing_57 (hr _)
      refine bs_iload hC 0 dX8_nearing_58 rfl ?_
      refine bs_istore hC [(6, .int r3), (8, .int r3), (0, .ref (bd_a ε 1)), (2, .int p2), (3, .int p3), (5, .int p5), (7, .int x7)] dX8_nearing_60 (by decide) rfl ?_
      refine bs_iinc hC 6 [(7, .int (x7 + 1)), (6, .int r3), (8, .int r3), (0, .ref (bd_a ε 1)), (2, .int p2), (3, .int p3), (5, .int p5)] dX8_nearing_62 rfl rfl (by decide) rfl ?_
      refine bs_goto hC 7 dX8_nearing_65 (by decide) ?_
      refine bs_some ?_
      refine bs_pick [3, 4, 5, 6, 1, 0] rfl ?_
      exact hk r3 (x7 + 1) S6
    refine bs_iload hC 0 dX8_nearing_58 rfl ?_
    refine bs_istore hC [(6, .int r3), (8, .int r3), (0, .ref (bd_a ε 1)), (2, .int p2), (3, .int p3), (5, .int p5), (7, .int x7)] dX8_nearing_60 (by decide) rfl ?_
    refine bs_iinc hC 6 [(7, .int (x7 + 1)), (6, .int r3), (8, .int r3), (0, .ref (bd_a ε 1)), (2, .int p2), (3, .int p3), (5, .int p5)] dX8_nearing_62 rfl rfl (by decide) rfl ?_
    refine bs_goto hC 7 dX8_nearing_65 (by decide) ?_
    refine bs_some ?_
    refine bs_pick [3, 4, 5, 6, 1, 0] rfl ?_
    exact hk r3 (x7 + 1) S4
  refine bs_iload_n hC 2 dX8_nearing_26 rfl rfl ?_
  refine bs_goto hC 31 dX8_nearing_27 (by decide) ?_
  refine bs_callV_i hC (rm := ({ frames := 0, cells := 0, slots := 0, locals := 0 } : Room)) [.int x6, .int p3] [] (fun h => c_X8_nearer (bd_l Γ) (bd_D Γ) ε x6 p3 S2 h) mw_314 mw_312 mw_313 mw_73 mw_16 (cX_o1 ε S2) rfl by_X8_nearer ⟨rfl, rfl, by decide, by decide⟩ rfl rfl (Nat.le_of_ble_eq_true rfl) dX8_nearing_31 (fun r9 S10 eS10 => ?_)
  refine bs_istore hC [(8, .int r9), (0, .ref (bd_a ε 1)), (2, .int p2), (3, .int p3), (5, .int p5), (6, .int x6), (7, .int x7)] dX8_nearing_34 (by decide) rfl ?_
  refine bs_iload hC 0 dX8_nearing_36 rfl ?_
  refine bs_iload hC 5 dX8_nearing_38 rfl ?_
  refine bs_icmp_ne hC 58 dX8_nearing_40 (by decide) (fun c14 => ?_) (fun c14 => ?_)
  · refine bs_aload_n hC 1 dX8_nearing_43 rfl rfl ?_
    refine bs_iload hC 5 dX8_nearing_44 rfl ?_
    refine bs_iload_n hC 3 dX8_nearing_46 rfl rfl ?_
    refine bs_callV_i hC (rm := ({ frames := 0, cells := 0, slots := 0, locals := 0 } : Room)) [.int x6, .int p3] [] (fun h => c_X8_nearer (bd_l Γ) (bd_D Γ) ε x6 p3 S10 h) mw_314 mw_312 mw_313 mw_73 mw_16 (cX_o1 ε S10) rfl by_X8_nearer ⟨rfl, rfl, by decide, by decide⟩ rfl rfl (Nat.le_of_ble_eq_true rfl) dX8_nearing_47 (fun r11 S12 eS12 => ?_)
    refine bs_iload hC 5 dX8_nearing_50 rfl ?_
    refine bs_icmp_ne hC 58 dX8_nearing_52 (by decide) (fun c13 => ?_) (fun c13 => ?_)
    · refine bs_iload hC 5 dX8_nearing_55 rfl ?_
      exact bs_iret hC dX8_nearing_57 (hr _)
    refine bs_iload hC 0 dX8_nearing_58 rfl ?_
    refine bs_istore hC [(6, .int r9), (8, .int r9), (0, .ref (bd_a ε 1)), (2, .int p2), (3, .int p3), (5, .int p5), (7, .int x7)] dX8_nearing_60 (by decide) rfl ?_
    refine bs_iinc hC 6 [(7, .int (x7 + 1)), (6, .int r9), (8, .int r9), (0, .ref (bd_a ε 1)), (2, .int p2), (3, .int p3), (5, .int p5)] dX8_nearing_62 rfl rfl (by decide) rfl ?_
    refine bs_goto hC 7 dX8_nearing_65 (by decide) ?_
    refine bs_some ?_
    refine bs_pick [3, 4, 5, 6, 1, 0] rfl ?_
    exact hk r9 (x7 + 1) S12
  refine bs_iload hC 0 dX8_nearing_58 rfl ?_
  refine bs_istore hC [(6, .int r9), (8, .int r9), (0, .ref (bd_a ε 1)), (2, .int p2), (3, .int p3), (5, .int p5), (7, .int x7)] dX8_nearing_60 (by decide) rfl ?_
  refine bs_iinc hC 6 [(7, .int (x7 + 1)), (6, .int r9), (8, .int r9), (0, .ref (bd_a ε 1)), (2, .int p2), (3, .int p3), (5, .int p5)] dX8_nearing_62 rfl rfl (by decide) rfl ?_
  refine bs_goto hC 7 dX8_nearing_65 (by decide) ?_
  refine bs_some ?_
  refine bs_pick [3, 4, 5, 6, 1, 0] rfl ?_
  exact hk r9 (x7 + 1) S10
set_option maxRecDepth 100000 in
set_option maxHeartbeats 4000000 in
theorem b_X8_nearing {Γ : bd_G} {ε : bd_E} {t0 : Option (Int32 × bd_T)} (hC : bd_C Γ cX8_nearing 9 RX8 (some .int) ({ frames := 1, cells := 0, slots := 0, locals := 22 } : Room) ε (cX ε) bd_vi t0) (x1 : Int32) (x2 : Int32) (x3 : Int32) (x4 : Int32) (x5 : Int32)  (S : bd_T) : bd_S Γ 9 t0 ((f_X8_nearing x1 x2 x3 x4 x5 S).bind some) (cX ε S) 0 [(0, .ref (bd_a ε 1)), (1, .int x1), (2, .int x2), (3, .int x3), (4, .int x4), (5, .int x5)] [] := by
  unfold f_X8_nearing
  refine bs_iload_n hC 1 dX8_nearing_0 rfl rfl ?_
  refine bs_istore hC [(6, .int x1), (0, .ref (bd_a ε 1)), (1, .int x1), (2, .int x2), (3, .int x3), (4, .int x4), (5, .int x5)] dX8_nearing_1 (by decide) rfl ?_
  refine bs_iload hC 5 dX8_nearing_3 rfl ?_
  refine bs_istore hC [(7, .int x4), (6, .int x1), (0, .ref (bd_a ε 1)), (1, .int x1), (2, .int x2), (3, .int x3), (4, .int x4), (5, .int x5)] dX8_nearing_5 (by decide) rfl ?_
  refine bs_pick [2, 4, 5, 7, 1, 0] rfl ?_
  refine bs_loopK (fun (q : Int32 × Int32 × bd_T) t => bd_S Γ 9 t0 t (cX ε (q.2.2)) 7 [(0, .ref (bd_a ε 1)), (2, .int x2), (3, .int x3), (5, .int x5), (6, .int (q.1)), (7, .int (q.2.1))] []) (fun (q : (Int32 × bd_T) ⊕ (Int32 × bd_T)) t => Sum.elim (fun (z : Int32 × bd_T) => t = some z) (fun (q : Int32 × bd_T) => bd_S Γ 9 t0 t (cX ε (q.2)) 68 [(6, .int (q.1))] []) q) (fun q => fb_X8_nearing_7 x2 x3 x5 q.1 q.2.1 q.2.2) (fun _ => bs_none) (fun K hk hx q => lb_X8_nearing_7 hC   x2 x3 x5 (fun a0 a1 S => hk (a0, a1, S)) (fun b0 S => hx (.inr (b0, S))) (fun z => hx (.inl z)) (q.1) (q.2.1) (q.2.2)) (fun r => ?_) bd_K (x1, x4, S)
  rcases r with r | r
  · exact rfl
  obtain ⟨y17, S18⟩ := r
  show bd_S Γ 9 t0 (Option.bind _ _) (cX ε S18) 68 [(6, .int y17)] []
  try dsimp only [Sum.elim_inr]
  refine bs_iload hC 0 dX8_nearing_68 rfl ?_
  exact bs_iret hC dX8_nearing_70 rfl
theorem c_X8_nearing (l : Launch) (D : va_G) (ε : bd_E) (x1 : Int32) (x2 : Int32) (x3 : Int32) (x4 : Int32) (x5 : Int32)  (S : bd_T) (h0 : (f_X8_nearing x1 x2 x3 x4 x5 S).isSome = true) : bd_Con l yX8_nearing (Cond.code yX8_nearing cX8_nearing 9 (some .int) :: bd_tbl) ({ frames := 1, cells := 0, slots := 0, locals := 22 } : Room) D ε (cX ε) bd_vi [.ref (bd_a ε 1), .int x1, .int x2, .int x3, .int x4, .int x5] S (f_X8_nearing x1 x2 x3 x4 x5 S) :=
  bd_con (by decide +kernel) (Nat.le_of_ble_eq_true rfl) ⟨rfl, rfl⟩ h0 (fun Γ _ _ hC => bs_eq bs_bs (b_X8_nearing hC x1 x2 x3 x4 x5 S))
set_option maxRecDepth 100000 in
set_option maxHeartbeats 4000000 in
theorem b_X8_minutesInWindow {Γ : bd_G} {ε : bd_E} {t0 : Option (Int32 × bd_T)} (hC : bd_C Γ cX8_minutesInWindow 3 RX8 (some .int) ({ frames := 1, cells := 0, slots := 0, locals := 17 } : Room) ε (cX ε) bd_vi t0) (x1 : Int32) (x2 : Int32)  (S : bd_T) : bd_S Γ 3 t0 ((f_X8_minutesInWindow x1 x2 S).bind some) (cX ε S) 0 [(0, .ref (bd_a ε 1)), (1, .int x1), (2, .int x2)] [] := by
  unfold f_X8_minutesInWindow
  refine bs_iconst hC (0 : Int32) dX8_minutesInWindow_0 rfl ?_
  refine bs_iload_n hC 2 dX8_minutesInWindow_1 rfl rfl ?_
  refine bs_aload_n hC 0 dX8_minutesInWindow_2 rfl rfl ?_
  refine bs_get hC (v := .int (bd_I S 4)) hin_X8 1 (cX_o1 ε S) rfl 4 (by decide) mw_139 rfl dX8_minutesInWindow_3 ?_
  refine bs_mmin hC mw_303 mw_304 mw_83 mw_305 (Nat.le_of_ble_eq_true rfl) (Nat.le_of_ble_eq_true rfl) dX8_minutesInWindow_6 ?_
  refine bs_iload_n hC 1 dX8_minutesInWindow_9 rfl rfl ?_
  refine bs_aload_n hC 0 dX8_minutesInWindow_10 rfl rfl ?_
  refine bs_get hC (v := .int (bd_I S 3)) hin_X8 1 (cX_o1 ε S) rfl 3 (by decide) mw_138 rfl dX8_minutesInWindow_11 ?_
  refine bs_mmax hC mw_297 mw_298 mw_83 mw_299 (Nat.le_of_ble_eq_true rfl) (Nat.le_of_ble_eq_true rfl) dX8_minutesInWindow_14 ?_
  refine bs_isub hC dX8_minutesInWindow_17 ?_
  refine bs_iconst hC (1 : Int32) dX8_minutesInWindow_18 rfl ?_
  refine bs_iadd hC dX8_minutesInWindow_19 ?_
  refine bs_mmax hC mw_297 mw_298 mw_83 mw_299 (Nat.le_of_ble_eq_true rfl) (Nat.le_of_ble_eq_true rfl) dX8_minutesInWindow_20 ?_
  exact bs_iret hC dX8_minutesInWindow_23 rfl
theorem c_X8_minutesInWindow (l : Launch) (D : va_G) (ε : bd_E) (x1 : Int32) (x2 : Int32)  (S : bd_T) (h0 : (f_X8_minutesInWindow x1 x2 S).isSome = true) : bd_Con l yX8_minutesInWindow (Cond.code yX8_minutesInWindow cX8_minutesInWindow 3 (some .int) :: bd_tbl) ({ frames := 1, cells := 0, slots := 0, locals := 17 } : Room) D ε (cX ε) bd_vi [.ref (bd_a ε 1), .int x1, .int x2] S (f_X8_minutesInWindow x1 x2 S) :=
  bd_con (by decide +kernel) (Nat.le_of_ble_eq_true rfl) ⟨rfl, rfl⟩ h0 (fun Γ _ _ hC => bs_eq bs_bs (b_X8_minutesInWindow hC x1 x2 S))
set_option maxRecDepth 100000 in
set_option maxHeartbeats 4000000 in
theorem b_X8_leftAfter {Γ : bd_G} {ε : bd_E} {t0 : Option (Int32 × bd_T)} (hC : bd_C Γ cX8_leftAfter 6 RX8 (some .int) ({ frames := 2, cells := 0, slots := 0, locals := 50 } : Room) ε (cX ε) bd_vi t0) (x1 : Int32) (x2 : Int32) (x3 : Int32)  (S : bd_T) : bd_S Γ 6 t0 ((f_X8_leftAfter x1 x2 x3 S).bind some) (cX ε S) 0 [(0, .ref (bd_a ε 1)), (1, .int x1), (2, .int x2), (3, .int x3)] [] := by
  unfold f_X8_leftAfter
  refine bs_aload_n hC 0 dX8_leftAfter_0 rfl rfl ?_
  refine bs_get hC (v := .ref (bd_a ε 8)) hin_X8 1 (cX_o1 ε S) rfl 0 (by decide) mw_135 rfl dX8_leftAfter_1 ?_
  refine bs_getN hC (v := .ref (bd_a ε (12 + 12))) hin_X7 8 (cX_o8 ε S) rfl 2 (by decide) nf_5 rfl dX8_leftAfter_4 ?_
  refine bs_iload_n hC 1 dX8_leftAfter_7 rfl rfl ?_
  refine bs_callSN_i hC (rm := ({ frames := 0, cells := 0, slots := 0, locals := 0 } : Room)) [.ref (bd_a ε (12 + 12)), .int x1] [] (fun h => c_X9_at (bd_l Γ) (bd_D Γ) ε 12 x1 (by decide) S h) mw_237 nm_22 mw_236 mw_72 by_X9_at ⟨rfl, rfl, by decide, by decide⟩ rfl rfl (Nat.le_of_ble_eq_true rfl) dX8_leftAfter_8 (fun r1 S2 eS2 => ?_)
  refine bs_istore hC [(4, .int r1), (0, .ref (bd_a ε 1)), (1, .int x1), (2, .int x2), (3, .int x3)] dX8_leftAfter_11 (by decide) rfl ?_
  refine bs_aload_n hC 1 dX8_leftAfter_13 rfl rfl ?_
  refine bs_get hC (v := .ref (bd_a ε 8)) hin_X8 1 (cX_o1 ε S2) rfl 0 (by decide) mw_135 rfl dX8_leftAfter_14 ?_
  refine bs_getN hC (v := .ref (bd_a ε (12 + 13))) hin_X7 8 (cX_o8 ε S2) rfl 3 (by decide) nf_7 rfl dX8_leftAfter_17 ?_
  refine bs_iload_n hC 2 dX8_leftAfter_20 rfl rfl ?_
  refine bs_callSN_i hC (rm := ({ frames := 0, cells := 0, slots := 0, locals := 0 } : Room)) [.ref (bd_a ε (12 + 13)), .int x1] [] (fun h => c_X9_at (bd_l Γ) (bd_D Γ) ε 13 x1 (by decide) S2 h) mw_237 nm_22 mw_236 mw_72 by_X9_at ⟨rfl, rfl, by decide, by decide⟩ rfl rfl (Nat.le_of_ble_eq_true rfl) dX8_leftAfter_21 (fun r3 S4 eS4 => ?_)
  refine bs_istore hC [(5, .int r3), (4, .int r1), (0, .ref (bd_a ε 1)), (1, .int x1), (2, .int x2), (3, .int x3)] dX8_leftAfter_24 (by decide) rfl ?_
  refine bs_aload_n hC 2 dX8_leftAfter_26 rfl rfl ?_
  refine bs_get hC (v := .ref (bd_a ε 8)) hin_X8 1 (cX_o1 ε S4) rfl 0 (by decide) mw_135 rfl dX8_leftAfter_27 ?_
  refine bs_getN hC (v := .ref (bd_a ε (12 + 11))) hin_X7 8 (cX_o8 ε S4) rfl 1 (by decide) nf_3 rfl dX8_leftAfter_30 ?_
  refine bs_iload_n hC 3 dX8_leftAfter_33 rfl rfl ?_
  refine bs_callSN_i hC (rm := ({ frames := 0, cells := 0, slots := 0, locals := 0 } : Room)) [.ref (bd_a ε (12 + 11)), .int x1] [] (fun h => c_X9_at (bd_l Γ) (bd_D Γ) ε 11 x1 (by decide) S4 h) mw_237 nm_22 mw_236 mw_72 by_X9_at ⟨rfl, rfl, by decide, by decide⟩ rfl rfl (Nat.le_of_ble_eq_true rfl) dX8_leftAfter_34 (fun r5 S6 eS6 => ?_)
  refine bs_case (c := r5 = 0) (fun c7 => ?_) (fun c7 => ?_)
  · refine bs_tabIn hC (0 : Int32) (35) 72 dX8_leftAfter_37 c7 (by decide) (by decide) rfl (by decide) ?_
    refine bs_iconst hC (0 : Int32) dX8_leftAfter_72 rfl ?_
    refine bs_iload hC 1 dX8_leftAfter_73 rfl ?_
    refine bs_iload hC 0 dX8_leftAfter_75 rfl ?_
    refine bs_iload_n hC 5 dX8_leftAfter_77 rfl rfl ?_
    refine bs_imul hC dX8_leftAfter_78 ?_
    refine bs_isub hC dX8_leftAfter_79 ?_
    refine bs_mmax hC mw_297 mw_298 mw_83 mw_299 (Nat.le_of_ble_eq_true rfl) (Nat.le_of_ble_eq_true rfl) dX8_leftAfter_80 ?_
    exact bs_iret hC dX8_leftAfter_83 rfl
  refine bs_case (c := r5 = 1) (fun c8 => ?_) (fun c8 => ?_)
  · refine bs_tabIn hC (1 : Int32) (86) 123 dX8_leftAfter_37 c8 (by decide) (by decide) rfl (by decide) ?_
    refine bs_aload_n hC 2 dX8_leftAfter_123 rfl rfl ?_
    refine bs_iload hC 1 dX8_leftAfter_124 rfl ?_
    refine bs_iload hC 0 dX8_leftAfter_126 rfl ?_
    refine bs_iload hC 0 dX8_leftAfter_128 rfl ?_
    refine bs_iload_n hC 4 dX8_leftAfter_130 rfl rfl ?_
    refine bs_iload_n hC 4 dX8_leftAfter_131 rfl rfl ?_
    refine bs_iload_n hC 5 dX8_leftAfter_132 rfl rfl ?_
    refine bs_iadd hC dX8_leftAfter_133 ?_
    refine bs_callV_i hC (rm := ({ frames := 1, cells := 0, slots := 0, locals := 22 } : Room)) [.int r1, .int r3, .int r3, .int x2, .int (x2 + x3)] [] (fun h => c_X8_nearing (bd_l Γ) (bd_D Γ) ε r1 r3 r3 x2 (x2 + x3) S6 h) mw_308 mw_306 mw_307 mw_73 mw_14 (cX_o1 ε S6) rfl by_X8_nearing ⟨rfl, rfl, by decide, by decide⟩ rfl rfl (Nat.le_of_ble_eq_true rfl) dX8_leftAfter_134 (fun r9 S10 eS10 => ?_)
    exact bs_iret hC dX8_leftAfter_137 rfl
  refine bs_case (c := r5 = 2) (fun c11 => ?_) (fun c11 => ?_)
  · refine bs_tabIn hC (2 : Int32) (47) 84 dX8_leftAfter_37 c11 (by decide) (by decide) rfl (by decide) ?_
    refine bs_iconst hC (0 : Int32) dX8_leftAfter_84 rfl ?_
    refine bs_iload hC 1 dX8_leftAfter_85 rfl ?_
    refine bs_iload hC 0 dX8_leftAfter_87 rfl ?_
    refine bs_bipush hC (10 : Int32) dX8_leftAfter_89 rfl ?_
    refine bs_imul hC dX8_leftAfter_91 ?_
    refine bs_iload_n hC 5 dX8_leftAfter_92 rfl rfl ?_
    refine bs_bipush hC (10 : Int32) dX8_leftAfter_93 rfl ?_
    refine bs_idivc hC dX8_leftAfter_95 (by decide) ?_
    refine bs_imul hC dX8_leftAfter_96 ?_
    refine bs_isub hC dX8_leftAfter_97 ?_
    refine bs_mmax hC mw_297 mw_298 mw_83 mw_299 (Nat.le_of_ble_eq_true rfl) (Nat.le_of_ble_eq_true rfl) dX8_leftAfter_98 ?_
    exact bs_iret hC dX8_leftAfter_101 rfl
  refine bs_case (c := r5 = 3) (fun c12 => ?_) (fun c12 => ?_)
  · refine bs_tabIn hC (3 : Int32) (65) 102 dX8_leftAfter_37 c12 (by decide) (by decide) rfl (by decide) ?_
    refine bs_iconst hC (0 : Int32) dX8_leftAfter_102 rfl ?_
    refine bs_iload hC 1 dX8_leftAfter_103 rfl ?_
    refine bs_iload hC 0 dX8_leftAfter_105 rfl ?_
    refine bs_aload_n hC 2 dX8_leftAfter_107 rfl rfl ?_
    refine bs_iload_n hC 4 dX8_leftAfter_108 rfl rfl ?_
    refine bs_iload_n hC 4 dX8_leftAfter_109 rfl rfl ?_
    refine bs_iload_n hC 5 dX8_leftAfter_110 rfl rfl ?_
    refine bs_iadd hC dX8_leftAfter_111 ?_
    refine bs_iconst hC (1 : Int32) dX8_leftAfter_112 rfl ?_
    refine bs_isub hC dX8_leftAfter_113 ?_
    refine bs_callV_i hC (rm := ({ frames := 1, cells := 0, slots := 0, locals := 17 } : Room)) [.int x2, .int ((x2 + x3) - (1 : Int32))] [.int r3, .int r1, .int (0 : Int32)] (fun h => c_X8_minutesInWindow (bd_l Γ) (bd_D Γ) ε x2 ((x2 + x3) - (1 : Int32)) S6 h) mw_302 mw_300 mw_301 mw_73 mw_13 (cX_o1 ε S6) rfl by_X8_minutesInWindow ⟨rfl, rfl, by decide, by decide⟩ rfl rfl (Nat.le_of_ble_eq_true rfl) dX8_leftAfter_114 (fun r13 S14 eS14 => ?_)
    refine bs_imul hC dX8_leftAfter_117 ?_
    refine bs_isub hC dX8_leftAfter_118 ?_
    refine bs_mmax hC mw_297 mw_298 mw_83 mw_299 (Nat.le_of_ble_eq_true rfl) (Nat.le_of_ble_eq_true rfl) dX8_leftAfter_119 ?_
    exact bs_iret hC dX8_leftAfter_122 rfl
  refine bs_case (c := r5 = 4) (fun c15 => ?_) (fun c15 => ?_)
  · refine bs_tabIn hC (4 : Int32) (101) 138 dX8_leftAfter_37 c15 (by decide) (by decide) rfl (by decide) ?_
    refine bs_aload_n hC 2 dX8_leftAfter_138 rfl rfl ?_
    refine bs_iload hC 1 dX8_leftAfter_139 rfl ?_
    refine bs_iload hC 0 dX8_leftAfter_141 rfl ?_
    refine bs_bipush hC (100 : Int32) dX8_leftAfter_143 rfl ?_
    refine bs_iconst hC (2 : Int32) dX8_leftAfter_145 rfl ?_
    refine bs_iload hC 0 dX8_leftAfter_146 rfl ?_
    refine bs_imul hC dX8_leftAfter_148 ?_
    refine bs_mmin hC mw_303 mw_304 mw_83 mw_305 (Nat.le_of_ble_eq_true rfl) (Nat.le_of_ble_eq_true rfl) dX8_leftAfter_149 ?_
    refine bs_iload_n hC 4 dX8_leftAfter_152 rfl rfl ?_
    refine bs_iload_n hC 4 dX8_leftAfter_153 rfl rfl ?_
    refine bs_iload_n hC 5 dX8_leftAfter_154 rfl rfl ?_
    refine bs_iadd hC dX8_leftAfter_155 ?_
    refine bs_callV_i hC (rm := ({ frames := 1, cells := 0, slots := 0, locals := 22 } : Room)) [.int r1, .int r3, .int (if ((2 : Int32) * r3) < (100 : Int32) then ((2 : Int32) * r3) else (100 : Int32)), .int x2, .int (x2 + x3)] [] (fun h => c_X8_nearing (bd_l Γ) (bd_D Γ) ε r1 r3 (if ((2 : Int32) * r3) < (100 : Int32) then ((2 : Int32) * r3) else (100 : Int32)) x2 (x2 + x3) S6 h) mw_308 mw_306 mw_307 mw_73 mw_14 (cX_o1 ε S6) rfl by_X8_nearing ⟨rfl, rfl, by decide, by decide⟩ rfl rfl (Nat.le_of_ble_eq_true rfl) dX8_leftAfter_156 (fun r16 S17 eS17 => ?_)
    exact bs_iret hC dX8_leftAfter_159 rfl
  refine bs_tabOut hC 160 dX8_leftAfter_37 (by have h0 := lv_neT (k := (0 : Int32)) (a := 0) c7 rfl; have h1 := lv_neT (k := (1 : Int32)) (a := 1) c8 rfl; have h2 := lv_neT (k := (2 : Int32)) (a := 2) c11 rfl; have h3 := lv_neT (k := (3 : Int32)) (a := 3) c12 rfl; have h4 := lv_neT (k := (4 : Int32)) (a := 4) c15 rfl; omega) (by decide) ?_
  refine bs_iload hC 1 dX8_leftAfter_160 rfl ?_
  exact bs_iret hC dX8_leftAfter_162 rfl
theorem c_X8_leftAfter (l : Launch) (D : va_G) (ε : bd_E) (x1 : Int32) (x2 : Int32) (x3 : Int32)  (S : bd_T) (h0 : (f_X8_leftAfter x1 x2 x3 S).isSome = true) : bd_Con l yX8_leftAfter (Cond.code yX8_leftAfter cX8_leftAfter 6 (some .int) :: bd_tbl) ({ frames := 2, cells := 0, slots := 0, locals := 50 } : Room) D ε (cX ε) bd_vi [.ref (bd_a ε 1), .int x1, .int x2, .int x3] S (f_X8_leftAfter x1 x2 x3 S) :=
  bd_con (by decide +kernel) (Nat.le_of_ble_eq_true rfl) ⟨rfl, rfl⟩ h0 (fun Γ _ _ hC => bs_eq bs_bs (b_X8_leftAfter hC x1 x2 x3 S))
set_option maxRecDepth 100000 in
set_option maxHeartbeats 4000000 in
theorem b_X9_left {Γ : bd_G} {ε : bd_E} {t0 : Option (Int32 × bd_T)} (hC : bd_C Γ cX9_left 4 RX9 (some .int) ({ frames := 3, cells := 0, slots := 0, locals := 75 } : Room) ε (cX ε) bd_vi t0) (x1 : Int32) (x2 : Int32) (x3 : Int32)  (S : bd_T) : bd_S Γ 4 t0 ((f_X9_left x1 x2 x3 S).bind some) (cX ε S) 0 [(0, .ref (bd_a ε 0)), (1, .int x1), (2, .int x2), (3, .int x3)] [] := by
  unfold f_X9_left
  refine bs_aload_n hC 0 dX9_left_0 rfl rfl ?_
  refine bs_iload_n hC 1 dX9_left_1 rfl rfl ?_
  refine bs_callV_i hC (rm := ({ frames := 0, cells := 0, slots := 0, locals := 0 } : Room)) [.int x1] [] (fun h => c_X9_isThing (bd_l Γ) (bd_D Γ) ε x1 S h) mw_269 mw_267 mw_268 mw_72 mw_7 (cX_o0 ε S) rfl by_X9_isThing ⟨rfl, rfl, by decide, by decide⟩ rfl rfl (Nat.le_of_ble_eq_true rfl) dX9_left_2 (fun r1 S2 eS2 => ?_)
  refine bs_if_ne hC 14 dX9_left_5 (by decide) (fun c19 => ?_) (fun c19 => ?_)
  · refine bs_aload_n hC 0 dX9_left_8 rfl rfl ?_
    refine bs_iconst hC (-1 : Int32) dX9_left_9 rfl ?_
    refine bs_callV_i hC (rm := ({ frames := 1, cells := 0, slots := 0, locals := 22 } : Room)) [.int (-1 : Int32)] [] (fun h => c_X9_refuse (bd_l Γ) (bd_D Γ) ε (-1 : Int32) S2 h) mw_234 mw_232 mw_233 mw_72 mw_0 (cX_o0 ε S2) rfl by_X9_refuse ⟨rfl, rfl, by decide, by decide⟩ rfl rfl (Nat.le_of_ble_eq_true rfl) dX9_left_10 (fun r3 S4 eS4 => ?_)
    exact bs_iret hC dX9_left_13 rfl
  refine bs_iload_n hC 2 dX9_left_14 rfl rfl ?_
  refine bs_if_lt hC 22 dX9_left_15 (by decide) (fun c18 => ?_) (fun c18 => ?_)
  · refine bs_aload_n hC 0 dX9_left_22 rfl rfl ?_
    refine bs_bipush hC (-4 : Int32) dX9_left_23 rfl ?_
    refine bs_callV_i hC (rm := ({ frames := 1, cells := 0, slots := 0, locals := 22 } : Room)) [.int (-4 : Int32)] [] (fun h => c_X9_refuse (bd_l Γ) (bd_D Γ) ε (-4 : Int32) S2 h) mw_234 mw_232 mw_233 mw_72 mw_0 (cX_o0 ε S2) rfl by_X9_refuse ⟨rfl, rfl, by decide, by decide⟩ rfl rfl (Nat.le_of_ble_eq_true rfl) dX9_left_25 (fun r5 S6 eS6 => ?_)
    exact bs_iret hC dX9_left_28 rfl
  refine bs_iload_n hC 3 dX9_left_18 rfl rfl ?_
  refine bs_if_ge hC 29 dX9_left_19 (by decide) (fun c17 => ?_) (fun c17 => ?_)
  · refine bs_iload_n hC 2 dX9_left_29 rfl rfl ?_
    refine bs_sipush hC (299 : Int32) dX9_left_30 rfl ?_
    refine bs_icmp_gt hC 43 dX9_left_33 (by decide) (fun c14 => ?_) (fun c14 => ?_)
    · refine bs_aload_n hC 0 dX9_left_43 rfl rfl ?_
      refine bs_bipush hC (-6 : Int32) dX9_left_44 rfl ?_
      refine bs_callV_i hC (rm := ({ frames := 1, cells := 0, slots := 0, locals := 22 } : Room)) [.int (-6 : Int32)] [] (fun h => c_X9_refuse (bd_l Γ) (bd_D Γ) ε (-6 : Int32) S2 h) mw_234 mw_232 mw_233 mw_72 mw_0 (cX_o0 ε S2) rfl by_X9_refuse ⟨rfl, rfl, by decide, by decide⟩ rfl rfl (Nat.le_of_ble_eq_true rfl) dX9_left_46 (fun r7 S8 eS8 => ?_)
      exact bs_iret hC dX9_left_49 rfl
    refine bs_iload_n hC 3 dX9_left_36 rfl rfl ?_
    refine bs_sipush hC (299 : Int32) dX9_left_37 rfl ?_
    refine bs_icmp_le hC 50 dX9_left_40 (by decide) (fun c13 => ?_) (fun c13 => ?_)
    · refine bs_aload_n hC 0 dX9_left_50 rfl rfl ?_
      refine bs_get hC (v := .ref (bd_a ε 1)) hin_X9 0 (cX_o0 ε S2) rfl 0 (by decide) mw_206 rfl dX9_left_51 ?_
      refine bs_iload_n hC 1 dX9_left_54 rfl rfl ?_
      refine bs_iload_n hC 2 dX9_left_55 rfl rfl ?_
      refine bs_iload_n hC 3 dX9_left_56 rfl rfl ?_
      refine bs_callVN_i hC (rm := ({ frames := 2, cells := 0, slots := 0, locals := 50 } : Room)) [.int x1, .int x2, .int x3] [] (fun h => c_X8_leftAfter (bd_l Γ) (bd_D Γ) ε x1 x2 x3 S2 h) mw_296 nm_21 mw_295 mw_73 mw_12 (cX_o1 ε S2) rfl by_X8_leftAfter ⟨rfl, rfl, by decide, by decide⟩ rfl rfl (Nat.le_of_ble_eq_true rfl) dX9_left_57 (fun r9 S10 eS10 => ?_)
      exact bs_iret hC dX9_left_60 rfl
    refine bs_aload_n hC 0 dX9_left_43 rfl rfl ?_
    refine bs_bipush hC (-6 : Int32) dX9_left_44 rfl ?_
    refine bs_callV_i hC (rm := ({ frames := 1, cells := 0, slots := 0, locals := 22 } : Room)) [.int (-6 : Int32)] [] (fun h => c_X9_refuse (bd_l Γ) (bd_D Γ) ε (-6 : Int32) S2 h) mw_234 mw_232 mw_233 mw_72 mw_0 (cX_o0 ε S2) rfl by_X9_refuse ⟨rfl, rfl, by decide, by decide⟩ rfl rfl (Nat.le_of_ble_eq_true rfl) dX9_left_46 (fun r11 S12 eS12 => ?_)
    exact bs_iret hC dX9_left_49 rfl
  refine bs_aload_n hC 0 dX9_left_22 rfl rfl ?_
  refine bs_bipush hC (-4 : Int32) dX9_left_23 rfl ?_
  refine bs_callV_i hC (rm := ({ frames := 1, cells := 0, slots := 0, locals := 22 } : Room)) [.int (-4 : Int32)] [] (fun h => c_X9_refuse (bd_l Γ) (bd_D Γ) ε (-4 : Int32) S2 h) mw_234 mw_232 mw_233 mw_72 mw_0 (cX_o0 ε S2) rfl by_X9_refuse ⟨rfl, rfl, by decide, by decide⟩ rfl rfl (Nat.le_of_ble_eq_true rfl) dX9_left_25 (fun r15 S16 eS16 => ?_)
  exact bs_iret hC dX9_left_28 rfl
theorem c_X9_left (l : Launch) (D : va_G) (ε : bd_E) (x1 : Int32) (x2 : Int32) (x3 : Int32)  (S : bd_T) (h0 : (f_X9_left x1 x2 x3 S).isSome = true) : bd_Con l yX9_left (Cond.code yX9_left cX9_left 4 (some .int) :: bd_tbl) ({ frames := 3, cells := 0, slots := 0, locals := 75 } : Room) D ε (cX ε) bd_vi [.ref (bd_a ε 0), .int x1, .int x2, .int x3] S (f_X9_left x1 x2 x3 S) :=
  bd_con (by decide +kernel) (Nat.le_of_ble_eq_true rfl) ⟨rfl, rfl⟩ h0 (fun Γ _ _ hC => bs_eq bs_bs (b_X9_left hC x1 x2 x3 S))
set_option maxRecDepth 100000 in
set_option maxHeartbeats 4000000 in
theorem b_X4_add {Γ : bd_G} {ε : bd_E} {t0 : Option (Int32 × bd_T)} (hC : bd_C Γ cX4_add 5 RX4 (some .int) ({ frames := 1, cells := 0, slots := 0, locals := 22 } : Room) ε (cX ε) bd_vi t0) (x1 : Int32) (x2 : Int32) (x3 : Int32) (x4 : Int32)  (S : bd_T) : bd_S Γ 5 t0 ((f_X4_add x1 x2 x3 x4 S).bind some) (cX ε S) 0 [(0, .ref (bd_a ε 9)), (1, .int x1), (2, .int x2), (3, .int x3), (4, .int x4)] [] := by
  unfold f_X4_add
  refine bs_aload_n hC 0 dX4_add_0 rfl rfl ?_
  refine bs_get hC (v := .ref (bd_a ε (12 + 17))) hin_X4 9 (cX_o9 ε S) rfl 2 (by decide) mw_125 rfl dX4_add_1 ?_
  refine bs_aload_n hC 0 dX4_add_4 rfl rfl ?_
  refine bs_get hC (v := .int (bd_I S 18)) hin_X4 9 (cX_o9 ε S) rfl 0 (by decide) mw_123 rfl dX4_add_5 ?_
  refine bs_iload_n hC 1 dX4_add_8 rfl rfl ?_
  refine bs_callSN_v hC (rm := ({ frames := 0, cells := 0, slots := 0, locals := 0 } : Room)) [.ref (bd_a ε (12 + 17)), .int (bd_I S 18), .int x1] [] (fun h => c_X9_lay (bd_l Γ) (bd_D Γ) ε 17 (bd_I S 18) x1 (by decide) S h) mw_240 nm_24 mw_239 mw_72 by_X9_lay ⟨rfl, rfl, by decide, by decide⟩ rfl rfl (Nat.le_of_ble_eq_true rfl) dX4_add_9 (fun r1 S2 eS2 => ?_)
  refine bs_aload_n hC 0 dX4_add_12 rfl rfl ?_
  refine bs_get hC (v := .ref (bd_a ε (12 + 18))) hin_X4 9 (cX_o9 ε S2) rfl 3 (by decide) mw_126 rfl dX4_add_13 ?_
  refine bs_aload_n hC 0 dX4_add_16 rfl rfl ?_
  refine bs_get hC (v := .int (bd_I S2 18)) hin_X4 9 (cX_o9 ε S2) rfl 0 (by decide) mw_123 rfl dX4_add_17 ?_
  refine bs_iload_n hC 2 dX4_add_20 rfl rfl ?_
  refine bs_callSN_v hC (rm := ({ frames := 0, cells := 0, slots := 0, locals := 0 } : Room)) [.ref (bd_a ε (12 + 18)), .int (bd_I S2 18), .int x2] [] (fun h => c_X9_lay (bd_l Γ) (bd_D Γ) ε 18 (bd_I S2 18) x2 (by decide) S2 h) mw_240 nm_24 mw_239 mw_72 by_X9_lay ⟨rfl, rfl, by decide, by decide⟩ rfl rfl (Nat.le_of_ble_eq_true rfl) dX4_add_21 (fun r3 S4 eS4 => ?_)
  refine bs_aload_n hC 0 dX4_add_24 rfl rfl ?_
  refine bs_get hC (v := .ref (bd_a ε (12 + 19))) hin_X4 9 (cX_o9 ε S4) rfl 4 (by decide) mw_127 rfl dX4_add_25 ?_
  refine bs_aload_n hC 0 dX4_add_28 rfl rfl ?_
  refine bs_get hC (v := .int (bd_I S4 18)) hin_X4 9 (cX_o9 ε S4) rfl 0 (by decide) mw_123 rfl dX4_add_29 ?_
  refine bs_iload_n hC 3 dX4_add_32 rfl rfl ?_
  refine bs_callSN_v hC (rm := ({ frames := 0, cells := 0, slots := 0, locals := 0 } : Room)) [.ref (bd_a ε (12 + 19)), .int (bd_I S4 18), .int x3] [] (fun h => c_X9_lay (bd_l Γ) (bd_D Γ) ε 19 (bd_I S4 18) x3 (by decide) S4 h) mw_240 nm_24 mw_239 mw_72 by_X9_lay ⟨rfl, rfl, by decide, by decide⟩ rfl rfl (Nat.le_of_ble_eq_true rfl) dX4_add_33 (fun r5 S6 eS6 => ?_)
  refine bs_aload_n hC 0 dX4_add_36 rfl rfl ?_
  refine bs_get hC (v := .ref (bd_a ε (12 + 20))) hin_X4 9 (cX_o9 ε S6) rfl 5 (by decide) mw_128 rfl dX4_add_37 ?_
  refine bs_aload_n hC 0 dX4_add_40 rfl rfl ?_
  refine bs_get hC (v := .int (bd_I S6 18)) hin_X4 9 (cX_o9 ε S6) rfl 0 (by decide) mw_123 rfl dX4_add_41 ?_
  refine bs_iload hC 4 dX4_add_44 rfl ?_
  refine bs_callSN_v hC (rm := ({ frames := 0, cells := 0, slots := 0, locals := 0 } : Room)) [.ref (bd_a ε (12 + 20)), .int (bd_I S6 18), .int x4] [] (fun h => c_X9_lay (bd_l Γ) (bd_D Γ) ε 20 (bd_I S6 18) x4 (by decide) S6 h) mw_240 nm_24 mw_239 mw_72 by_X9_lay ⟨rfl, rfl, by decide, by decide⟩ rfl rfl (Nat.le_of_ble_eq_true rfl) dX4_add_46 (fun r7 S8 eS8 => ?_)
  refine bs_aload_n hC 0 dX4_add_49 rfl rfl ?_
  refine bs_dup hC dX4_add_50 rfl ?_
  refine bs_get hC (v := .int (bd_I S8 18)) hin_X4 9 (cX_o9 ε S8) rfl 0 (by decide) mw_123 rfl dX4_add_51 ?_
  refine bs_iconst hC (1 : Int32) dX4_add_54 rfl ?_
  refine bs_iadd hC dX4_add_55 ?_
  refine bs_put hC (kk := 18) hin_X4 tyX4 tyX4_ok nmX4 9 (cX_o9 ε S8) rfl 0 (by decide) mw_123 rfl rfl rfl (Nat.le_of_ble_eq_true rfl) (cX_p18 ε S8 _) dX4_add_56 (fun S9 eS9 => ?_)
  refine bs_aload_n hC 0 dX4_add_59 rfl rfl ?_
  refine bs_get hC (v := .int (bd_I S9 18)) hin_X4 9 (cX_o9 ε S9) rfl 0 (by decide) mw_123 rfl dX4_add_60 ?_
  refine bs_iconst hC (1 : Int32) dX4_add_63 rfl ?_
  refine bs_isub hC dX4_add_64 ?_
  exact bs_iret hC dX4_add_65 rfl
theorem c_X4_add (l : Launch) (D : va_G) (ε : bd_E) (x1 : Int32) (x2 : Int32) (x3 : Int32) (x4 : Int32)  (S : bd_T) (h0 : (f_X4_add x1 x2 x3 x4 S).isSome = true) : bd_Con l yX4_add (Cond.code yX4_add cX4_add 5 (some .int) :: bd_tbl) ({ frames := 1, cells := 0, slots := 0, locals := 22 } : Room) D ε (cX ε) bd_vi [.ref (bd_a ε 9), .int x1, .int x2, .int x3, .int x4] S (f_X4_add x1 x2 x3 x4 S) :=
  bd_con (by decide +kernel) (Nat.le_of_ble_eq_true rfl) ⟨rfl, rfl⟩ h0 (fun Γ _ _ hC => bs_eq bs_bs (b_X4_add hC x1 x2 x3 x4 S))
set_option maxRecDepth 100000 in
set_option maxHeartbeats 4000000 in
theorem b_X9_look {Γ : bd_G} {ε : bd_E} {t0 : Option (Int32 × bd_T)} (hC : bd_C Γ cX9_look 5 RX9 (some .int) ({ frames := 2, cells := 0, slots := 0, locals := 46 } : Room) ε (cX ε) bd_vi t0) (x1 : Int32) (x2 : Int32) (x3 : Int32) (x4 : Int32)  (S : bd_T) : bd_S Γ 5 t0 ((f_X9_look x1 x2 x3 x4 S).bind some) (cX ε S) 0 [(0, .ref (bd_a ε 0)), (1, .int x1), (2, .int x2), (3, .int x3), (4, .int x4)] [] := by
  unfold f_X9_look
  refine bs_aload_n hC 0 dX9_look_0 rfl rfl ?_
  refine bs_iload_n hC 1 dX9_look_1 rfl rfl ?_
  refine bs_callV_i hC (rm := ({ frames := 0, cells := 0, slots := 0, locals := 0 } : Room)) [.int x1] [] (fun h => c_X9_isThing (bd_l Γ) (bd_D Γ) ε x1 S h) mw_269 mw_267 mw_268 mw_72 mw_7 (cX_o0 ε S) rfl by_X9_isThing ⟨rfl, rfl, by decide, by decide⟩ rfl rfl (Nat.le_of_ble_eq_true rfl) dX9_look_2 (fun r1 S2 eS2 => ?_)
  refine bs_if_ne hC 14 dX9_look_5 (by decide) (fun c25 => ?_) (fun c25 => ?_)
  · refine bs_aload_n hC 0 dX9_look_8 rfl rfl ?_
    refine bs_iconst hC (-1 : Int32) dX9_look_9 rfl ?_
    refine bs_callV_i hC (rm := ({ frames := 1, cells := 0, slots := 0, locals := 22 } : Room)) [.int (-1 : Int32)] [] (fun h => c_X9_refuse (bd_l Γ) (bd_D Γ) ε (-1 : Int32) S2 h) mw_234 mw_232 mw_233 mw_72 mw_0 (cX_o0 ε S2) rfl by_X9_refuse ⟨rfl, rfl, by decide, by decide⟩ rfl rfl (Nat.le_of_ble_eq_true rfl) dX9_look_10 (fun r3 S4 eS4 => ?_)
    exact bs_iret hC dX9_look_13 rfl
  refine bs_iload_n hC 2 dX9_look_14 rfl rfl ?_
  refine bs_if_lt hC 28 dX9_look_15 (by decide) (fun c24 => ?_) (fun c24 => ?_)
  · refine bs_aload_n hC 0 dX9_look_28 rfl rfl ?_
    refine bs_bipush hC (-4 : Int32) dX9_look_29 rfl ?_
    refine bs_callV_i hC (rm := ({ frames := 1, cells := 0, slots := 0, locals := 22 } : Room)) [.int (-4 : Int32)] [] (fun h => c_X9_refuse (bd_l Γ) (bd_D Γ) ε (-4 : Int32) S2 h) mw_234 mw_232 mw_233 mw_72 mw_0 (cX_o0 ε S2) rfl by_X9_refuse ⟨rfl, rfl, by decide, by decide⟩ rfl rfl (Nat.le_of_ble_eq_true rfl) dX9_look_31 (fun r5 S6 eS6 => ?_)
    exact bs_iret hC dX9_look_34 rfl
  refine bs_iload_n hC 3 dX9_look_18 rfl rfl ?_
  refine bs_if_lt hC 28 dX9_look_19 (by decide) (fun c23 => ?_) (fun c23 => ?_)
  · refine bs_aload_n hC 0 dX9_look_28 rfl rfl ?_
    refine bs_bipush hC (-4 : Int32) dX9_look_29 rfl ?_
    refine bs_callV_i hC (rm := ({ frames := 1, cells := 0, slots := 0, locals := 22 } : Room)) [.int (-4 : Int32)] [] (fun h => c_X9_refuse (bd_l Γ) (bd_D Γ) ε (-4 : Int32) S2 h) mw_234 mw_232 mw_233 mw_72 mw_0 (cX_o0 ε S2) rfl by_X9_refuse ⟨rfl, rfl, by decide, by decide⟩ rfl rfl (Nat.le_of_ble_eq_true rfl) dX9_look_31 (fun r7 S8 eS8 => ?_)
    exact bs_iret hC dX9_look_34 rfl
  refine bs_iload hC 4 dX9_look_22 rfl ?_
  refine bs_iload_n hC 3 dX9_look_24 rfl rfl ?_
  refine bs_icmp_ge hC 35 dX9_look_25 (by decide) (fun c22 => ?_) (fun c22 => ?_)
  · refine bs_iload_n hC 2 dX9_look_35 rfl rfl ?_
    refine bs_sipush hC (299 : Int32) dX9_look_36 rfl ?_
    refine bs_icmp_gt hC 65 dX9_look_39 (by decide) (fun c19 => ?_) (fun c19 => ?_)
    · refine bs_aload_n hC 0 dX9_look_65 rfl rfl ?_
      refine bs_bipush hC (-6 : Int32) dX9_look_66 rfl ?_
      refine bs_callV_i hC (rm := ({ frames := 1, cells := 0, slots := 0, locals := 22 } : Room)) [.int (-6 : Int32)] [] (fun h => c_X9_refuse (bd_l Γ) (bd_D Γ) ε (-6 : Int32) S2 h) mw_234 mw_232 mw_233 mw_72 mw_0 (cX_o0 ε S2) rfl by_X9_refuse ⟨rfl, rfl, by decide, by decide⟩ rfl rfl (Nat.le_of_ble_eq_true rfl) dX9_look_68 (fun r9 S10 eS10 => ?_)
      exact bs_iret hC dX9_look_71 rfl
    refine bs_iload hC 4 dX9_look_42 rfl ?_
    refine bs_sipush hC (9999 : Int32) dX9_look_44 rfl ?_
    refine bs_icmp_gt hC 65 dX9_look_47 (by decide) (fun c18 => ?_) (fun c18 => ?_)
    · refine bs_aload_n hC 0 dX9_look_65 rfl rfl ?_
      refine bs_bipush hC (-6 : Int32) dX9_look_66 rfl ?_
      refine bs_callV_i hC (rm := ({ frames := 1, cells := 0, slots := 0, locals := 22 } : Room)) [.int (-6 : Int32)] [] (fun h => c_X9_refuse (bd_l Γ) (bd_D Γ) ε (-6 : Int32) S2 h) mw_234 mw_232 mw_233 mw_72 mw_0 (cX_o0 ε S2) rfl by_X9_refuse ⟨rfl, rfl, by decide, by decide⟩ rfl rfl (Nat.le_of_ble_eq_true rfl) dX9_look_68 (fun r11 S12 eS12 => ?_)
      exact bs_iret hC dX9_look_71 rfl
    refine bs_aload_n hC 0 dX9_look_50 rfl rfl ?_
    refine bs_get hC (v := .ref (bd_a ε 1)) hin_X9 0 (cX_o0 ε S2) rfl 0 (by decide) mw_206 rfl dX9_look_51 ?_
    refine bs_getN hC (v := .ref (bd_a ε 9)) hin_X8 1 (cX_o1 ε S2) rfl 1 (by decide) nf_20 rfl dX9_look_54 ?_
    refine bs_getN hC (v := .int (bd_I S2 18)) hin_X4 9 (cX_o9 ε S2) rfl 0 (by decide) nf_11 rfl dX9_look_57 ?_
    refine bs_bipush hC (10 : Int32) dX9_look_60 rfl ?_
    refine bs_icmp_lt hC 72 dX9_look_62 (by decide) (fun c17 => ?_) (fun c17 => ?_)
    · refine bs_aload_n hC 0 dX9_look_72 rfl rfl ?_
      refine bs_get hC (v := .ref (bd_a ε 1)) hin_X9 0 (cX_o0 ε S2) rfl 0 (by decide) mw_206 rfl dX9_look_73 ?_
      refine bs_getN hC (v := .ref (bd_a ε 9)) hin_X8 1 (cX_o1 ε S2) rfl 1 (by decide) nf_20 rfl dX9_look_76 ?_
      refine bs_iload_n hC 1 dX9_look_79 rfl rfl ?_
      refine bs_iload_n hC 2 dX9_look_80 rfl rfl ?_
      refine bs_iload_n hC 3 dX9_look_81 rfl rfl ?_
      refine bs_iload hC 4 dX9_look_82 rfl ?_
      refine bs_callVN_i hC (rm := ({ frames := 1, cells := 0, slots := 0, locals := 22 } : Room)) [.int x1, .int x2, .int x3, .int x4] [] (fun h => c_X4_add (bd_l Γ) (bd_D Γ) ε x1 x2 x3 x4 S2 h) mw_320 nm_23 mw_319 mw_75 mw_17 (cX_o9 ε S2) rfl by_X4_add ⟨rfl, rfl, by decide, by decide⟩ rfl rfl (Nat.le_of_ble_eq_true rfl) dX9_look_84 (fun r13 S14 eS14 => ?_)
      exact bs_iret hC dX9_look_87 rfl
    refine bs_aload_n hC 0 dX9_look_65 rfl rfl ?_
    refine bs_bipush hC (-6 : Int32) dX9_look_66 rfl ?_
    refine bs_callV_i hC (rm := ({ frames := 1, cells := 0, slots := 0, locals := 22 } : Room)) [.int (-6 : Int32)] [] (fun h => c_X9_refuse (bd_l Γ) (bd_D Γ) ε (-6 : Int32) S2 h) mw_234 mw_232 mw_233 mw_72 mw_0 (cX_o0 ε S2) rfl by_X9_refuse ⟨rfl, rfl, by decide, by decide⟩ rfl rfl (Nat.le_of_ble_eq_true rfl) dX9_look_68 (fun r15 S16 eS16 => ?_)
    exact bs_iret hC dX9_look_71 rfl
  refine bs_aload_n hC 0 dX9_look_28 rfl rfl ?_
  refine bs_bipush hC (-4 : Int32) dX9_look_29 rfl ?_
  refine bs_callV_i hC (rm := ({ frames := 1, cells := 0, slots := 0, locals := 22 } : Room)) [.int (-4 : Int32)] [] (fun h => c_X9_refuse (bd_l Γ) (bd_D Γ) ε (-4 : Int32) S2 h) mw_234 mw_232 mw_233 mw_72 mw_0 (cX_o0 ε S2) rfl by_X9_refuse ⟨rfl, rfl, by decide, by decide⟩ rfl rfl (Nat.le_of_ble_eq_true rfl) dX9_look_31 (fun r20 S21 eS21 => ?_)
  exact bs_iret hC dX9_look_34 rfl
theorem c_X9_look (l : Launch) (D : va_G) (ε : bd_E) (x1 : Int32) (x2 : Int32) (x3 : Int32) (x4 : Int32)  (S : bd_T) (h0 : (f_X9_look x1 x2 x3 x4 S).isSome = true) : bd_Con l yX9_look (Cond.code yX9_look cX9_look 5 (some .int) :: bd_tbl) ({ frames := 2, cells := 0, slots := 0, locals := 46 } : Room) D ε (cX ε) bd_vi [.ref (bd_a ε 0), .int x1, .int x2, .int x3, .int x4] S (f_X9_look x1 x2 x3 x4 S) :=
  bd_con (by decide +kernel) (Nat.le_of_ble_eq_true rfl) ⟨rfl, rfl⟩ h0 (fun Γ _ _ hC => bs_eq bs_bs (b_X9_look hC x1 x2 x3 x4 S))
set_option maxRecDepth 100000 in
set_option maxHeartbeats 4000000 in
theorem b_X4_mark {Γ : bd_G} {ε : bd_E} {t0 : Option (Int32 × bd_T)} (hC : bd_C Γ cX4_mark 5 RX4 (some .boolean) ({ frames := 0, cells := 0, slots := 0, locals := 0 } : Room) ε (cX ε) bd_vi t0) (x1 : Int32) (x2 : Int32)  (S : bd_T) : bd_S Γ 5 t0 ((f_X4_mark x1 x2 S).bind some) (cX ε S) 0 [(0, .ref (bd_a ε 9)), (1, .int x1), (2, .int x2)] [] := by
  unfold f_X4_mark
  refine bs_iconst hC (1 : Int32) dX4_mark_0 rfl ?_
  refine bs_iload_n hC 1 dX4_mark_1 rfl rfl ?_
  refine bs_ishl hC dX4_mark_2 ?_
  refine bs_leti (fun z1 ez1 => ?_)
  refine bs_istore_n hC [(3, .int z1), (0, .ref (bd_a ε 9)), (1, .int x1), (2, .int x2)] dX4_mark_3 rfl (by decide) rfl ?_
  refine bs_aload_n hC 1 dX4_mark_4 rfl rfl ?_
  refine bs_get hC (v := .int (bd_I S 19)) hin_X4 9 (cX_o9 ε S) rfl 1 (by decide) mw_124 rfl dX4_mark_5 ?_
  refine bs_leti (fun z2 ez2 => ?_)
  refine bs_istore hC [(4, .int z2), (3, .int z1), (0, .ref (bd_a ε 9)), (1, .int x1), (2, .int x2)] dX4_mark_8 (by decide) rfl ?_
  refine bs_aload_n hC 2 dX4_mark_10 rfl rfl ?_
  refine bs_iload_n hC 4 dX4_mark_11 rfl rfl ?_
  refine bs_if_eq hC 24 dX4_mark_12 (by decide) (fun c7 => ?_) (fun c7 => ?_)
  · refine bs_aload_n hC 2 dX4_mark_24 rfl rfl ?_
    refine bs_get hC (v := .int (bd_I S 19)) hin_X4 9 (cX_o9 ε S) rfl 1 (by decide) mw_124 rfl dX4_mark_25 ?_
    refine bs_iload_n hC 1 dX4_mark_28 rfl rfl ?_
    refine bs_iconst hC (-1 : Int32) dX4_mark_29 rfl ?_
    refine bs_ixor hC dX4_mark_30 ?_
    refine bs_iand hC dX4_mark_31 ?_
    refine bs_put hC (kk := 19) hin_X4 tyX4 tyX4_ok nmX4 9 (cX_o9 ε S) rfl 1 (by decide) mw_124 rfl rfl rfl (Nat.le_of_ble_eq_true rfl) (cX_p19 ε S _) dX4_mark_32 (fun S3 eS3 => ?_)
    refine bs_aload_n hC 2 dX4_mark_35 rfl rfl ?_
    refine bs_get hC (v := .int (bd_I S3 19)) hin_X4 9 (cX_o9 ε S3) rfl 1 (by decide) mw_124 rfl dX4_mark_36 ?_
    refine bs_iload hC 0 dX4_mark_39 rfl ?_
    refine bs_icmp_eq hC 48 dX4_mark_41 (by decide) (fun c4 => ?_) (fun c4 => ?_)
    · refine bs_iconst hC (0 : Int32) dX4_mark_48 rfl ?_
      exact bs_zret hC dX4_mark_49 rfl rfl
    refine bs_iconst hC (1 : Int32) dX4_mark_44 rfl ?_
    refine bs_goto hC 49 dX4_mark_45 (by decide) ?_
    exact bs_zret hC dX4_mark_49 rfl rfl
  refine bs_aload_n hC 2 dX4_mark_15 rfl rfl ?_
  refine bs_get hC (v := .int (bd_I S 19)) hin_X4 9 (cX_o9 ε S) rfl 1 (by decide) mw_124 rfl dX4_mark_16 ?_
  refine bs_iload_n hC 1 dX4_mark_19 rfl rfl ?_
  refine bs_ior hC dX4_mark_20 ?_
  refine bs_goto hC 32 dX4_mark_21 (by decide) ?_
  refine bs_put hC (kk := 19) hin_X4 tyX4 tyX4_ok nmX4 9 (cX_o9 ε S) rfl 1 (by decide) mw_124 rfl rfl rfl (Nat.le_of_ble_eq_true rfl) (cX_p19 ε S _) dX4_mark_32 (fun S5 eS5 => ?_)
  refine bs_aload_n hC 2 dX4_mark_35 rfl rfl ?_
  refine bs_get hC (v := .int (bd_I S5 19)) hin_X4 9 (cX_o9 ε S5) rfl 1 (by decide) mw_124 rfl dX4_mark_36 ?_
  refine bs_iload hC 0 dX4_mark_39 rfl ?_
  refine bs_icmp_eq hC 48 dX4_mark_41 (by decide) (fun c6 => ?_) (fun c6 => ?_)
  · refine bs_iconst hC (0 : Int32) dX4_mark_48 rfl ?_
    exact bs_zret hC dX4_mark_49 rfl rfl
  refine bs_iconst hC (1 : Int32) dX4_mark_44 rfl ?_
  refine bs_goto hC 49 dX4_mark_45 (by decide) ?_
  exact bs_zret hC dX4_mark_49 rfl rfl
theorem c_X4_mark (l : Launch) (D : va_G) (ε : bd_E) (x1 : Int32) (x2 : Int32)  (S : bd_T) (h0 : (f_X4_mark x1 x2 S).isSome = true) : bd_Con l yX4_mark (Cond.code yX4_mark cX4_mark 5 (some .boolean) :: bd_tbl) ({ frames := 0, cells := 0, slots := 0, locals := 0 } : Room) D ε (cX ε) bd_vi [.ref (bd_a ε 9), .int x1, .int x2] S (f_X4_mark x1 x2 S) :=
  bd_con (by decide +kernel) (Nat.le_of_ble_eq_true rfl) ⟨rfl, rfl⟩ h0 (fun Γ _ _ hC => bs_eq bs_bs (b_X4_mark hC x1 x2 S))
set_option maxRecDepth 100000 in
set_option maxHeartbeats 4000000 in
theorem b_X9_doubt {Γ : bd_G} {ε : bd_E} {t0 : Option (Int32 × bd_T)} (hC : bd_C Γ cX9_doubt 3 RX9 (some .int) ({ frames := 2, cells := 0, slots := 0, locals := 43 } : Room) ε (cX ε) bd_vi t0) (x1 : Int32) (x2 : Int32)  (S : bd_T) : bd_S Γ 3 t0 ((f_X9_doubt x1 x2 S).bind some) (cX ε S) 0 [(0, .ref (bd_a ε 0)), (1, .int x1), (2, .int x2)] [] := by
  unfold f_X9_doubt
  refine bs_iload_n hC 1 dX9_doubt_0 rfl rfl ?_
  refine bs_if_lt hC 18 dX9_doubt_1 (by decide) (fun c9 => ?_) (fun c9 => ?_)
  · refine bs_aload_n hC 0 dX9_doubt_18 rfl rfl ?_
    refine bs_iconst hC (-1 : Int32) dX9_doubt_19 rfl ?_
    refine bs_callV_i hC (rm := ({ frames := 1, cells := 0, slots := 0, locals := 22 } : Room)) [.int (-1 : Int32)] [] (fun h => c_X9_refuse (bd_l Γ) (bd_D Γ) ε (-1 : Int32) S h) mw_234 mw_232 mw_233 mw_72 mw_0 (cX_o0 ε S) rfl by_X9_refuse ⟨rfl, rfl, by decide, by decide⟩ rfl rfl (Nat.le_of_ble_eq_true rfl) dX9_doubt_20 (fun r1 S2 eS2 => ?_)
    exact bs_iret hC dX9_doubt_23 rfl
  refine bs_iload_n hC 1 dX9_doubt_4 rfl rfl ?_
  refine bs_aload_n hC 0 dX9_doubt_5 rfl rfl ?_
  refine bs_get hC (v := .ref (bd_a ε 1)) hin_X9 0 (cX_o0 ε S) rfl 0 (by decide) mw_206 rfl dX9_doubt_6 ?_
  refine bs_getN hC (v := .ref (bd_a ε 9)) hin_X8 1 (cX_o1 ε S) rfl 1 (by decide) nf_20 rfl dX9_doubt_9 ?_
  refine bs_getN hC (v := .int (bd_I S 18)) hin_X4 9 (cX_o9 ε S) rfl 0 (by decide) nf_11 rfl dX9_doubt_12 ?_
  refine bs_icmp_lt hC 24 dX9_doubt_15 (by decide) (fun c8 => ?_) (fun c8 => ?_)
  · refine bs_aload_n hC 0 dX9_doubt_24 rfl rfl ?_
    refine bs_get hC (v := .ref (bd_a ε 1)) hin_X9 0 (cX_o0 ε S) rfl 0 (by decide) mw_206 rfl dX9_doubt_25 ?_
    refine bs_getN hC (v := .ref (bd_a ε 9)) hin_X8 1 (cX_o1 ε S) rfl 1 (by decide) nf_20 rfl dX9_doubt_28 ?_
    refine bs_iload_n hC 1 dX9_doubt_31 rfl rfl ?_
    refine bs_iload_n hC 2 dX9_doubt_32 rfl rfl ?_
    refine bs_callVN_i hC (rm := ({ frames := 0, cells := 0, slots := 0, locals := 0 } : Room)) [.int x1, .int x2] [] (fun h => c_X4_mark (bd_l Γ) (bd_D Γ) ε x1 x2 S h) mw_326 nm_25 mw_325 mw_75 mw_18 (cX_o9 ε S) rfl by_X4_mark ⟨rfl, rfl, by decide, by decide⟩ rfl rfl (Nat.le_of_ble_eq_true rfl) dX9_doubt_33 (fun r3 S4 eS4 => ?_)
    refine bs_if_eq hC 43 dX9_doubt_36 (by decide) (fun c5 => ?_) (fun c5 => ?_)
    · refine bs_iconst hC (0 : Int32) dX9_doubt_43 rfl ?_
      exact bs_iret hC dX9_doubt_44 rfl
    refine bs_iconst hC (1 : Int32) dX9_doubt_39 rfl ?_
    refine bs_goto hC 44 dX9_doubt_40 (by decide) ?_
    exact bs_iret hC dX9_doubt_44 rfl
  refine bs_aload_n hC 0 dX9_doubt_18 rfl rfl ?_
  refine bs_iconst hC (-1 : Int32) dX9_doubt_19 rfl ?_
  refine bs_callV_i hC (rm := ({ frames := 1, cells := 0, slots := 0, locals := 22 } : Room)) [.int (-1 : Int32)] [] (fun h => c_X9_refuse (bd_l Γ) (bd_D Γ) ε (-1 : Int32) S h) mw_234 mw_232 mw_233 mw_72 mw_0 (cX_o0 ε S) rfl by_X9_refuse ⟨rfl, rfl, by decide, by decide⟩ rfl rfl (Nat.le_of_ble_eq_true rfl) dX9_doubt_20 (fun r6 S7 eS7 => ?_)
  exact bs_iret hC dX9_doubt_23 rfl
theorem c_X9_doubt (l : Launch) (D : va_G) (ε : bd_E) (x1 : Int32) (x2 : Int32)  (S : bd_T) (h0 : (f_X9_doubt x1 x2 S).isSome = true) : bd_Con l yX9_doubt (Cond.code yX9_doubt cX9_doubt 3 (some .int) :: bd_tbl) ({ frames := 2, cells := 0, slots := 0, locals := 43 } : Room) D ε (cX ε) bd_vi [.ref (bd_a ε 0), .int x1, .int x2] S (f_X9_doubt x1 x2 S) :=
  bd_con (by decide +kernel) (Nat.le_of_ble_eq_true rfl) ⟨rfl, rfl⟩ h0 (fun Γ _ _ hC => bs_eq bs_bs (b_X9_doubt hC x1 x2 S))
set_option maxRecDepth 100000 in
set_option maxHeartbeats 4000000 in
theorem b_X9_wrongMinute {Γ : bd_G} {ε : bd_E} {t0 : Option (Int32 × bd_T)} (hC : bd_C Γ cX9_wrongMinute 1 RX9 (some .int) ({ frames := 0, cells := 0, slots := 0, locals := 0 } : Room) ε (cX ε) bd_vi t0) (x0 : Int32)  (S : bd_T) : bd_S Γ 1 t0 ((f_X9_wrongMinute x0 S).bind some) (cX ε S) 0 [(0, .int x0)] [] := by
  unfold f_X9_wrongMinute
  refine bs_iload_n hC 0 dX9_wrongMinute_0 rfl rfl ?_
  refine bs_if_ge hC 7 dX9_wrongMinute_1 (by decide) (fun c2 => ?_) (fun c2 => ?_)
  · refine bs_iload_n hC 0 dX9_wrongMinute_7 rfl rfl ?_
    refine bs_sipush hC (299 : Int32) dX9_wrongMinute_8 rfl ?_
    refine bs_icmp_le hC 19 dX9_wrongMinute_11 (by decide) (fun c1 => ?_) (fun c1 => ?_)
    · refine bs_iconst hC (0 : Int32) dX9_wrongMinute_19 rfl ?_
      exact bs_iret hC dX9_wrongMinute_20 rfl
    refine bs_bipush hC (-6 : Int32) dX9_wrongMinute_14 rfl ?_
    refine bs_goto hC 20 dX9_wrongMinute_16 (by decide) ?_
    exact bs_iret hC dX9_wrongMinute_20 rfl
  refine bs_bipush hC (-4 : Int32) dX9_wrongMinute_4 rfl ?_
  exact bs_iret hC dX9_wrongMinute_6 rfl
theorem c_X9_wrongMinute (l : Launch) (D : va_G) (ε : bd_E) (x0 : Int32)  (S : bd_T) (h0 : (f_X9_wrongMinute x0 S).isSome = true) : bd_Con l yX9_wrongMinute (Cond.code yX9_wrongMinute cX9_wrongMinute 1 (some .int) :: bd_tbl) ({ frames := 0, cells := 0, slots := 0, locals := 0 } : Room) D ε (cX ε) bd_vi [.int x0] S (f_X9_wrongMinute x0 S) :=
  bd_con (by decide +kernel) (Nat.le_of_ble_eq_true rfl) ⟨rfl, rfl⟩ h0 (fun Γ _ _ hC => bs_eq bs_bs (b_X9_wrongMinute hC x0 S))
set_option maxRecDepth 100000 in
set_option maxHeartbeats 4000000 in
theorem b_X9_join {Γ : bd_G} {ε : bd_E} {t0 : Option (Int32 × bd_T)} (hC : bd_C Γ cX9_join 6 RX9 (some .int) ({ frames := 2, cells := 0, slots := 0, locals := 46 } : Room) ε (cX ε) bd_vi t0) (x1 : Int32) (x2 : Int32) (x3 : Int32) (x4 : Int32)  (S : bd_T) : bd_S Γ 6 t0 ((f_X9_join x1 x2 x3 x4 S).bind some) (cX ε S) 0 [(0, .ref (bd_a ε 0)), (1, .int x1), (2, .int x2), (3, .int x3), (4, .int x4)] [] := by
  unfold f_X9_join
  refine bs_aload_n hC 0 dX9_join_0 rfl rfl ?_
  refine bs_iload_n hC 1 dX9_join_1 rfl rfl ?_
  refine bs_callV_i hC (rm := ({ frames := 0, cells := 0, slots := 0, locals := 0 } : Room)) [.int x1] [] (fun h => c_X9_isThing (bd_l Γ) (bd_D Γ) ε x1 S h) mw_269 mw_267 mw_268 mw_72 mw_7 (cX_o0 ε S) rfl by_X9_isThing ⟨rfl, rfl, by decide, by decide⟩ rfl rfl (Nat.le_of_ble_eq_true rfl) dX9_join_2 (fun r1 S2 eS2 => ?_)
  refine bs_if_eq hC 18 dX9_join_5 (by decide) (fun c27 => ?_) (fun c27 => ?_)
  · refine bs_aload_n hC 0 dX9_join_18 rfl rfl ?_
    refine bs_iconst hC (-1 : Int32) dX9_join_19 rfl ?_
    refine bs_callV_i hC (rm := ({ frames := 1, cells := 0, slots := 0, locals := 22 } : Room)) [.int (-1 : Int32)] [] (fun h => c_X9_refuse (bd_l Γ) (bd_D Γ) ε (-1 : Int32) S2 h) mw_234 mw_232 mw_233 mw_72 mw_0 (cX_o0 ε S2) rfl by_X9_refuse ⟨rfl, rfl, by decide, by decide⟩ rfl rfl (Nat.le_of_ble_eq_true rfl) dX9_join_20 (fun r3 S4 eS4 => ?_)
    exact bs_iret hC dX9_join_23 rfl
  refine bs_iload_n hC 2 dX9_join_8 rfl rfl ?_
  refine bs_iconst hC (-1 : Int32) dX9_join_9 rfl ?_
  refine bs_icmp_lt hC 18 dX9_join_10 (by decide) (fun c26 => ?_) (fun c26 => ?_)
  · refine bs_aload_n hC 0 dX9_join_18 rfl rfl ?_
    refine bs_iconst hC (-1 : Int32) dX9_join_19 rfl ?_
    refine bs_callV_i hC (rm := ({ frames := 1, cells := 0, slots := 0, locals := 22 } : Room)) [.int (-1 : Int32)] [] (fun h => c_X9_refuse (bd_l Γ) (bd_D Γ) ε (-1 : Int32) S2 h) mw_234 mw_232 mw_233 mw_72 mw_0 (cX_o0 ε S2) rfl by_X9_refuse ⟨rfl, rfl, by decide, by decide⟩ rfl rfl (Nat.le_of_ble_eq_true rfl) dX9_join_20 (fun r5 S6 eS6 => ?_)
    exact bs_iret hC dX9_join_23 rfl
  refine bs_iload_n hC 2 dX9_join_13 rfl rfl ?_
  refine bs_iload_n hC 1 dX9_join_14 rfl rfl ?_
  refine bs_icmp_lt hC 24 dX9_join_15 (by decide) (fun c25 => ?_) (fun c25 => ?_)
  · refine bs_iload_n hC 2 dX9_join_24 rfl rfl ?_
    refine bs_iconst hC (-1 : Int32) dX9_join_25 rfl ?_
    refine bs_icmp_ne hC 44 dX9_join_26 (by decide) (fun c22 => ?_) (fun c22 => ?_)
    · refine bs_aload_n hC 0 dX9_join_29 rfl rfl ?_
      refine bs_get hC (v := .ref (bd_a ε 1)) hin_X9 0 (cX_o0 ε S2) rfl 0 (by decide) mw_206 rfl dX9_join_30 ?_
      refine bs_getN hC (v := .ref (bd_a ε 8)) hin_X8 1 (cX_o1 ε S2) rfl 0 (by decide) nf_18 rfl dX9_join_33 ?_
      refine bs_iload_n hC 1 dX9_join_36 rfl rfl ?_
      refine bs_iconst hC (-1 : Int32) dX9_join_37 rfl ?_
      refine bs_iconst hC (0 : Int32) dX9_join_38 rfl ?_
      refine bs_iconst hC (0 : Int32) dX9_join_39 rfl ?_
      refine bs_callVN_i hC (rm := ({ frames := 1, cells := 0, slots := 0, locals := 22 } : Room)) [.int x1, .int (-1 : Int32), .int (0 : Int32), .int (0 : Int32)] [] (fun h => c_X7_tie (bd_l Γ) (bd_D Γ) ε x1 (-1 : Int32) (0 : Int32) (0 : Int32) S2 h) mw_262 nm_26 mw_261 mw_74 mw_6 (cX_o8 ε S2) rfl by_X7_tie ⟨rfl, rfl, by decide, by decide⟩ rfl rfl (Nat.le_of_ble_eq_true rfl) dX9_join_40 (fun r7 S8 eS8 => ?_)
      exact bs_iret hC dX9_join_43 rfl
    refine bs_iload_n hC 3 dX9_join_44 rfl rfl ?_
    refine bs_if_lt hC 53 dX9_join_45 (by decide) (fun c21 => ?_) (fun c21 => ?_)
    · refine bs_aload_n hC 0 dX9_join_53 rfl rfl ?_
      refine bs_bipush hC (-2 : Int32) dX9_join_54 rfl ?_
      refine bs_callV_i hC (rm := ({ frames := 1, cells := 0, slots := 0, locals := 22 } : Room)) [.int (-2 : Int32)] [] (fun h => c_X9_refuse (bd_l Γ) (bd_D Γ) ε (-2 : Int32) S2 h) mw_234 mw_232 mw_233 mw_72 mw_0 (cX_o0 ε S2) rfl by_X9_refuse ⟨rfl, rfl, by decide, by decide⟩ rfl rfl (Nat.le_of_ble_eq_true rfl) dX9_join_56 (fun r9 S10 eS10 => ?_)
      exact bs_iret hC dX9_join_59 rfl
    refine bs_iload_n hC 3 dX9_join_48 rfl rfl ?_
    refine bs_iconst hC (3 : Int32) dX9_join_49 rfl ?_
    refine bs_icmp_le hC 60 dX9_join_50 (by decide) (fun c20 => ?_) (fun c20 => ?_)
    · refine bs_iload hC 4 dX9_join_60 rfl ?_
      refine bs_callS_i hC (rm := ({ frames := 0, cells := 0, slots := 0, locals := 0 } : Room)) [.int x4] [] (fun h => c_X9_wrongMinute (bd_l Γ) (bd_D Γ) ε x4 S2 h) mw_333 mw_331 mw_332 mw_72 by_X9_wrongMinute ⟨rfl, rfl, by decide, by decide⟩ rfl rfl (Nat.le_of_ble_eq_true rfl) dX9_join_62 (fun r11 S12 eS12 => ?_)
      refine bs_istore hC [(5, .int r11), (0, .ref (bd_a ε 0)), (1, .int x1), (2, .int x2), (3, .int x3), (4, .int x4)] dX9_join_65 (by decide) rfl ?_
      refine bs_iload hC 0 dX9_join_67 rfl ?_
      refine bs_if_ge hC 81 dX9_join_69 (by decide) (fun c17 => ?_) (fun c17 => ?_)
      · refine bs_aload_n hC 1 dX9_join_81 rfl rfl ?_
        refine bs_get hC (v := .ref (bd_a ε 1)) hin_X9 0 (cX_o0 ε S12) rfl 0 (by decide) mw_206 rfl dX9_join_82 ?_
        refine bs_getN hC (v := .ref (bd_a ε 8)) hin_X8 1 (cX_o1 ε S12) rfl 0 (by decide) nf_18 rfl dX9_join_85 ?_
        refine bs_iload_n hC 2 dX9_join_88 rfl rfl ?_
        refine bs_iload_n hC 3 dX9_join_89 rfl rfl ?_
        refine bs_iload_n hC 4 dX9_join_90 rfl rfl ?_
        refine bs_iload hC 5 dX9_join_91 rfl ?_
        refine bs_callVN_i hC (rm := ({ frames := 1, cells := 0, slots := 0, locals := 22 } : Room)) [.int x1, .int x2, .int x3, .int x4] [] (fun h => c_X7_tie (bd_l Γ) (bd_D Γ) ε x1 x2 x3 x4 S12 h) mw_262 nm_26 mw_261 mw_74 mw_6 (cX_o8 ε S12) rfl by_X7_tie ⟨rfl, rfl, by decide, by decide⟩ rfl rfl (Nat.le_of_ble_eq_true rfl) dX9_join_93 (fun r13 S14 eS14 => ?_)
        exact bs_iret hC dX9_join_96 rfl
      refine bs_aload_n hC 1 dX9_join_72 rfl rfl ?_
      refine bs_iload hC 0 dX9_join_73 rfl ?_
      refine bs_callV_i hC (rm := ({ frames := 1, cells := 0, slots := 0, locals := 22 } : Room)) [.int r11] [] (fun h => c_X9_refuse (bd_l Γ) (bd_D Γ) ε r11 S12 h) mw_234 mw_232 mw_233 mw_72 mw_0 (cX_o0 ε S12) rfl by_X9_refuse ⟨rfl, rfl, by decide, by decide⟩ rfl rfl (Nat.le_of_ble_eq_true rfl) dX9_join_75 (fun r15 S16 eS16 => ?_)
      refine bs_goto hC 96 dX9_join_78 (by decide) ?_
      exact bs_iret hC dX9_join_96 rfl
    refine bs_aload_n hC 0 dX9_join_53 rfl rfl ?_
    refine bs_bipush hC (-2 : Int32) dX9_join_54 rfl ?_
    refine bs_callV_i hC (rm := ({ frames := 1, cells := 0, slots := 0, locals := 22 } : Room)) [.int (-2 : Int32)] [] (fun h => c_X9_refuse (bd_l Γ) (bd_D Γ) ε (-2 : Int32) S2 h) mw_234 mw_232 mw_233 mw_72 mw_0 (cX_o0 ε S2) rfl by_X9_refuse ⟨rfl, rfl, by decide, by decide⟩ rfl rfl (Nat.le_of_ble_eq_true rfl) dX9_join_56 (fun r18 S19 eS19 => ?_)
    exact bs_iret hC dX9_join_59 rfl
  refine bs_aload_n hC 0 dX9_join_18 rfl rfl ?_
  refine bs_iconst hC (-1 : Int32) dX9_join_19 rfl ?_
  refine bs_callV_i hC (rm := ({ frames := 1, cells := 0, slots := 0, locals := 22 } : Room)) [.int (-1 : Int32)] [] (fun h => c_X9_refuse (bd_l Γ) (bd_D Γ) ε (-1 : Int32) S2 h) mw_234 mw_232 mw_233 mw_72 mw_0 (cX_o0 ε S2) rfl by_X9_refuse ⟨rfl, rfl, by decide, by decide⟩ rfl rfl (Nat.le_of_ble_eq_true rfl) dX9_join_20 (fun r23 S24 eS24 => ?_)
  exact bs_iret hC dX9_join_23 rfl
theorem c_X9_join (l : Launch) (D : va_G) (ε : bd_E) (x1 : Int32) (x2 : Int32) (x3 : Int32) (x4 : Int32)  (S : bd_T) (h0 : (f_X9_join x1 x2 x3 x4 S).isSome = true) : bd_Con l yX9_join (Cond.code yX9_join cX9_join 6 (some .int) :: bd_tbl) ({ frames := 2, cells := 0, slots := 0, locals := 46 } : Room) D ε (cX ε) bd_vi [.ref (bd_a ε 0), .int x1, .int x2, .int x3, .int x4] S (f_X9_join x1 x2 x3 x4 S) :=
  bd_con (by decide +kernel) (Nat.le_of_ble_eq_true rfl) ⟨rfl, rfl⟩ h0 (fun Γ _ _ hC => bs_eq bs_bs (b_X9_join hC x1 x2 x3 x4 S))
set_option maxRecDepth 100000 in
set_option maxHeartbeats 4000000 in
theorem lb_X8_fillToward_15 {Γ : bd_G} {ε : bd_E} {t0 : Option (Unit × bd_T)} (hC : bd_C Γ cX8_fillToward 5 RX8 none ({ frames := 1, cells := 0, slots := 0, locals := 22 } : Room) ε (cX ε) bd_vv t0) (p1 : Int32) {K : (Int32 × Int32 × bd_T) ⊕ (bd_T) → Option (Unit × bd_T)} (hk : ∀ (x3 : Int32) (x4 : Int32) (S : bd_T), bd_S Γ 5 t0 (K (.inl (x3, x4, S))) (cX ε S) 15 [(0, .ref (bd_a ε 1)), (1, .int p1), (3, .int x3), (4, .int x4)] []) (hx : ∀ (S : bd_T), bd_S Γ 5 t0 (K (.inr S)) (cX ε S) 53 [] []) (x3 : Int32) (x4 : Int32) (S : bd_T) : bd_S Γ 5 t0 ((fb_X8_fillToward_15 p1 x3 x4 S).bind K) (cX ε S) 15 [(0, .ref (bd_a ε 1)), (1, .int p1), (3, .int x3), (4, .int x4)] [] := by
  unfold fb_X8_fillToward_15
  refine bs_iload hC 3 dX8_fillToward_15 rfl ?_
  refine bs_if_lt hC 53 dX8_fillToward_17 (by decide) (fun c9 => ?_) (fun c9 => ?_)
  · refine bs_some ?_
    refine bs_pick [] rfl ?_
    exact hx S
  refine bs_aload_n hC 0 dX8_fillToward_20 rfl rfl ?_
  refine bs_get hC (v := .ref (bd_a ε (12 + 4))) hin_X8 1 (cX_o1 ε S) rfl 8 (by decide) mw_143 rfl dX8_fillToward_21 ?_
  refine bs_iload hC 3 dX8_fillToward_24 rfl ?_
  refine bs_iload_n hC 2 dX8_fillToward_26 rfl rfl ?_
  refine bs_callSN_v hC (rm := ({ frames := 0, cells := 0, slots := 0, locals := 0 } : Room)) [.ref (bd_a ε (12 + 4)), .int x4, .int x3] [] (fun h => c_X9_lay (bd_l Γ) (bd_D Γ) ε 4 x4 x3 (by decide) S h) mw_240 nm_20 mw_239 mw_72 by_X9_lay ⟨rfl, rfl, by decide, by decide⟩ rfl rfl (Nat.le_of_ble_eq_true rfl) dX8_fillToward_27 (fun r3 S4 eS4 => ?_)
  refine bs_aload_n hC 0 dX8_fillToward_30 rfl rfl ?_
  refine bs_iload_n hC 2 dX8_fillToward_31 rfl rfl ?_
  refine bs_aload_n hC 0 dX8_fillToward_32 rfl rfl ?_
  refine bs_get hC (v := .ref (bd_a ε 8)) hin_X8 1 (cX_o1 ε S4) rfl 0 (by decide) mw_135 rfl dX8_fillToward_33 ?_
  refine bs_getN hC (v := .ref (bd_a ε (12 + 13))) hin_X7 8 (cX_o8 ε S4) rfl 3 (by decide) nf_7 rfl dX8_fillToward_36 ?_
  refine bs_iload_n hC 1 dX8_fillToward_39 rfl rfl ?_
  refine bs_callSN_i hC (rm := ({ frames := 0, cells := 0, slots := 0, locals := 0 } : Room)) [.ref (bd_a ε (12 + 13)), .int p1] [.int x3, .ref (bd_a ε 1)] (fun h => c_X9_at (bd_l Γ) (bd_D Γ) ε 13 p1 (by decide) S4 h) mw_237 nm_22 mw_236 mw_72 by_X9_at ⟨rfl, rfl, by decide, by decide⟩ rfl rfl (Nat.le_of_ble_eq_true rfl) dX8_fillToward_40 (fun r5 S6 eS6 => ?_)
  refine bs_callV_i hC (rm := ({ frames := 0, cells := 0, slots := 0, locals := 0 } : Room)) [.int x3, .int r5] [] (fun h => c_X8_nearer (bd_l Γ) (bd_D Γ) ε x3 r5 S6 h) mw_314 mw_312 mw_313 mw_73 mw_16 (cX_o1 ε S6) rfl by_X8_nearer ⟨rfl, rfl, by decide, by decide⟩ rfl rfl (Nat.le_of_ble_eq_true rfl) dX8_fillToward_43 (fun r7 S8 eS8 => ?_)
  refine bs_istore_n hC [(3, .int r7), (0, .ref (bd_a ε 1)), (1, .int p1), (4, .int x4)] dX8_fillToward_46 rfl (by decide) rfl ?_
  refine bs_iinc hC 3 [(4, .int (x4 + (-1))), (3, .int r7), (0, .ref (bd_a ε 1)), (1, .int p1)] dX8_fillToward_47 rfl rfl (by decide) rfl ?_
  refine bs_goto hC 15 dX8_fillToward_50 (by decide) ?_
  refine bs_some ?_
  refine bs_pick [2, 3, 1, 0] rfl ?_
  exact hk r7 (x4 + (-1)) S8
set_option maxRecDepth 100000 in
set_option maxHeartbeats 4000000 in
theorem b_X8_fillToward {Γ : bd_G} {ε : bd_E} {t0 : Option (Unit × bd_T)} (hC : bd_C Γ cX8_fillToward 5 RX8 none ({ frames := 1, cells := 0, slots := 0, locals := 22 } : Room) ε (cX ε) bd_vv t0) (x1 : Int32) (x2 : Int32)  (S : bd_T) : bd_S Γ 5 t0 ((f_X8_fillToward x1 x2 S).bind some) (cX ε S) 0 [(0, .ref (bd_a ε 1)), (1, .int x1), (2, .int x2)] [] := by
  unfold f_X8_fillToward
  refine bs_aload_n hC 0 dX8_fillToward_0 rfl rfl ?_
  refine bs_get hC (v := .ref (bd_a ε 8)) hin_X8 1 (cX_o1 ε S) rfl 0 (by decide) mw_135 rfl dX8_fillToward_1 ?_
  refine bs_getN hC (v := .ref (bd_a ε (12 + 12))) hin_X7 8 (cX_o8 ε S) rfl 2 (by decide) nf_5 rfl dX8_fillToward_4 ?_
  refine bs_iload_n hC 1 dX8_fillToward_7 rfl rfl ?_
  refine bs_callSN_i hC (rm := ({ frames := 0, cells := 0, slots := 0, locals := 0 } : Room)) [.ref (bd_a ε (12 + 12)), .int x1] [] (fun h => c_X9_at (bd_l Γ) (bd_D Γ) ε 12 x1 (by decide) S h) mw_237 nm_22 mw_236 mw_72 by_X9_at ⟨rfl, rfl, by decide, by decide⟩ rfl rfl (Nat.le_of_ble_eq_true rfl) dX8_fillToward_8 (fun r1 S2 eS2 => ?_)
  refine bs_istore_n hC [(3, .int r1), (0, .ref (bd_a ε 1)), (1, .int x1), (2, .int x2)] dX8_fillToward_11 rfl (by decide) rfl ?_
  refine bs_iload_n hC 3 dX8_fillToward_12 rfl rfl ?_
  refine bs_istore hC [(4, .int x2), (3, .int r1), (0, .ref (bd_a ε 1)), (1, .int x1), (2, .int x2)] dX8_fillToward_13 (by decide) rfl ?_
  refine bs_pick [2, 3, 1, 0] rfl ?_
  refine bs_loopK (fun (q : Int32 × Int32 × bd_T) t => bd_S Γ 5 t0 t (cX ε (q.2.2)) 15 [(0, .ref (bd_a ε 1)), (1, .int x1), (3, .int (q.1)), (4, .int (q.2.1))] []) (fun (q : bd_T) t => bd_S Γ 5 t0 t (cX ε (q)) 53 [] []) (fun q => fb_X8_fillToward_15 x1 q.1 q.2.1 q.2.2) (fun _ => bs_none) (fun K hk hx q => lb_X8_fillToward_15 hC   x1 (fun a0 a1 S => hk (a0, a1, S)) (fun  S => hx (S))  (q.1) (q.2.1) (q.2.2)) (fun r => ?_) bd_K (r1, x2, S2)
  obtain ⟨S10, rfl⟩ : ∃ z, z = r := ⟨_, rfl⟩
  show bd_S Γ 5 t0 (Option.bind _ _) (cX ε S10) 53 [] []
  try dsimp only
  exact bs_vret hC dX8_fillToward_53 rfl
theorem c_X8_fillToward (l : Launch) (D : va_G) (ε : bd_E) (x1 : Int32) (x2 : Int32)  (S : bd_T) (h0 : (f_X8_fillToward x1 x2 S).isSome = true) : bd_Con l yX8_fillToward (Cond.code yX8_fillToward cX8_fillToward 5 none :: bd_tbl) ({ frames := 1, cells := 0, slots := 0, locals := 22 } : Room) D ε (cX ε) bd_vv [.ref (bd_a ε 1), .int x1, .int x2] S (f_X8_fillToward x1 x2 S) :=
  bd_con (by decide +kernel) (Nat.le_of_ble_eq_true rfl) ⟨rfl, rfl⟩ h0 (fun Γ _ _ hC => bs_eq bs_bs (b_X8_fillToward hC x1 x2 S))
set_option maxRecDepth 100000 in
set_option maxHeartbeats 4000000 in
theorem lb_X8_fillLefts_24 {Γ : bd_G} {ε : bd_E} {t0 : Option (Unit × bd_T)} (hC : bd_C Γ cX8_fillLefts 4 RX8 none ({ frames := 3, cells := 0, slots := 0, locals := 75 } : Room) ε (cX ε) bd_vv t0) (p1 : Int32) (p2 : Int32) {K : (Int32 × bd_T) ⊕ (bd_T) → Option (Unit × bd_T)} (hk : ∀ (x3 : Int32) (S : bd_T), bd_S Γ 4 t0 (K (.inl (x3, S))) (cX ε S) 24 [(0, .ref (bd_a ε 1)), (1, .int p1), (2, .int p2), (3, .int x3)] []) (hx : ∀ (S : bd_T), bd_S Γ 4 t0 (K (.inr S)) (cX ε S) 59 [] []) (x3 : Int32) (S : bd_T) : bd_S Γ 4 t0 ((fb_X8_fillLefts_24 p1 p2 x3 S).bind K) (cX ε S) 24 [(0, .ref (bd_a ε 1)), (1, .int p1), (2, .int p2), (3, .int x3)] [] := by
  unfold fb_X8_fillLefts_24
  refine bs_iload_n hC 3 dX8_fillLefts_24 rfl rfl ?_
  refine bs_iload_n hC 2 dX8_fillLefts_25 rfl rfl ?_
  refine bs_icmp_gt hC 59 dX8_fillLefts_26 (by decide) (fun c10 => ?_) (fun c10 => ?_)
  · refine bs_some ?_
    refine bs_pick [] rfl ?_
    exact hx S
  refine bs_iload_n hC 3 dX8_fillLefts_29 rfl rfl ?_
  refine bs_sipush hC (300 : Int32) dX8_fillLefts_30 rfl ?_
  refine bs_icmp_ge hC 59 dX8_fillLefts_33 (by decide) (fun c9 => ?_) (fun c9 => ?_)
  · refine bs_some ?_
    refine bs_pick [] rfl ?_
    exact hx S
  refine bs_aload_n hC 0 dX8_fillLefts_36 rfl rfl ?_
  refine bs_get hC (v := .ref (bd_a ε (12 + 4))) hin_X8 1 (cX_o1 ε S) rfl 8 (by decide) mw_143 rfl dX8_fillLefts_37 ?_
  refine bs_iload_n hC 3 dX8_fillLefts_40 rfl rfl ?_
  refine bs_aload_n hC 0 dX8_fillLefts_41 rfl rfl ?_
  refine bs_iload_n hC 1 dX8_fillLefts_42 rfl rfl ?_
  refine bs_iload_n hC 3 dX8_fillLefts_43 rfl rfl ?_
  refine bs_iload_n hC 2 dX8_fillLefts_44 rfl rfl ?_
  refine bs_iload_n hC 3 dX8_fillLefts_45 rfl rfl ?_
  refine bs_isub hC dX8_fillLefts_46 ?_
  refine bs_callV_i hC (rm := ({ frames := 2, cells := 0, slots := 0, locals := 50 } : Room)) [.int p1, .int x3, .int (p2 - x3)] [.int x3, .ref (bd_a ε (12 + 4))] (fun h => c_X8_leftAfter (bd_l Γ) (bd_D Γ) ε p1 x3 (p2 - x3) S h) mw_296 mw_348 mw_295 mw_73 mw_12 (cX_o1 ε S) rfl by_X8_leftAfter ⟨rfl, rfl, by decide, by decide⟩ rfl rfl (Nat.le_of_ble_eq_true rfl) dX8_fillLefts_47 (fun r5 S6 eS6 => ?_)
  refine bs_callSN_v hC (rm := ({ frames := 0, cells := 0, slots := 0, locals := 0 } : Room)) [.ref (bd_a ε (12 + 4)), .int x3, .int r5] [] (fun h => c_X9_lay (bd_l Γ) (bd_D Γ) ε 4 x3 r5 (by decide) S6 h) mw_240 nm_20 mw_239 mw_72 by_X9_lay ⟨rfl, rfl, by decide, by decide⟩ rfl rfl (Nat.le_of_ble_eq_true rfl) dX8_fillLefts_50 (fun r7 S8 eS8 => ?_)
  refine bs_iinc hC 3 [(3, .int (x3 + 1)), (0, .ref (bd_a ε 1)), (1, .int p1), (2, .int p2)] dX8_fillLefts_53 rfl rfl (by decide) rfl ?_
  refine bs_goto hC 24 dX8_fillLefts_56 (by decide) ?_
  refine bs_some ?_
  refine bs_pick [1, 2, 3, 0] rfl ?_
  exact hk (x3 + 1) S8
set_option maxRecDepth 100000 in
set_option maxHeartbeats 4000000 in
theorem b_X8_fillLefts {Γ : bd_G} {ε : bd_E} {t0 : Option (Unit × bd_T)} (hC : bd_C Γ cX8_fillLefts 4 RX8 none ({ frames := 3, cells := 0, slots := 0, locals := 75 } : Room) ε (cX ε) bd_vv t0) (x1 : Int32) (x2 : Int32)  (S : bd_T) : bd_S Γ 4 t0 ((f_X8_fillLefts x1 x2 S).bind some) (cX ε S) 0 [(0, .ref (bd_a ε 1)), (1, .int x1), (2, .int x2)] [] := by
  unfold f_X8_fillLefts
  refine bs_aload_n hC 0 dX8_fillLefts_0 rfl rfl ?_
  refine bs_get hC (v := .ref (bd_a ε 8)) hin_X8 1 (cX_o1 ε S) rfl 0 (by decide) mw_135 rfl dX8_fillLefts_1 ?_
  refine bs_getN hC (v := .ref (bd_a ε (12 + 11))) hin_X7 8 (cX_o8 ε S) rfl 1 (by decide) nf_3 rfl dX8_fillLefts_4 ?_
  refine bs_iload_n hC 1 dX8_fillLefts_7 rfl rfl ?_
  refine bs_callSN_i hC (rm := ({ frames := 0, cells := 0, slots := 0, locals := 0 } : Room)) [.ref (bd_a ε (12 + 11)), .int x1] [] (fun h => c_X9_at (bd_l Γ) (bd_D Γ) ε 11 x1 (by decide) S h) mw_237 nm_22 mw_236 mw_72 by_X9_at ⟨rfl, rfl, by decide, by decide⟩ rfl rfl (Nat.le_of_ble_eq_true rfl) dX8_fillLefts_8 (fun r1 S2 eS2 => ?_)
  refine bs_iconst hC (1 : Int32) dX8_fillLefts_11 rfl ?_
  refine bs_icmp_ne hC 22 dX8_fillLefts_12 (by decide) (fun c12 => ?_) (fun c12 => ?_)
  · refine bs_aload_n hC 0 dX8_fillLefts_15 rfl rfl ?_
    refine bs_iload_n hC 1 dX8_fillLefts_16 rfl rfl ?_
    refine bs_iload_n hC 2 dX8_fillLefts_17 rfl rfl ?_
    refine bs_callV_v hC (rm := ({ frames := 1, cells := 0, slots := 0, locals := 22 } : Room)) [.int x1, .int x2] [] (fun h => c_X8_fillToward (bd_l Γ) (bd_D Γ) ε x1 x2 S2 h) mw_347 mw_345 mw_346 mw_73 mw_22 (cX_o1 ε S2) rfl by_X8_fillToward ⟨rfl, rfl, by decide, by decide⟩ rfl rfl (Nat.le_of_ble_eq_true rfl) dX8_fillLefts_18 (fun r3 S4 eS4 => ?_)
    exact bs_vret hC dX8_fillLefts_21 rfl
  refine bs_iconst hC (0 : Int32) dX8_fillLefts_22 rfl ?_
  refine bs_istore_n hC [(3, .int (0 : Int32)), (0, .ref (bd_a ε 1)), (1, .int x1), (2, .int x2)] dX8_fillLefts_23 rfl (by decide) rfl ?_
  refine bs_pick [1, 2, 3, 0] rfl ?_
  refine bs_loopK (fun (q : Int32 × bd_T) t => bd_S Γ 4 t0 t (cX ε (q.2)) 24 [(0, .ref (bd_a ε 1)), (1, .int x1), (2, .int x2), (3, .int (q.1))] []) (fun (q : bd_T) t => bd_S Γ 4 t0 t (cX ε (q)) 59 [] []) (fun q => fb_X8_fillLefts_24 x1 x2 q.1 q.2) (fun _ => bs_none) (fun K hk hx q => lb_X8_fillLefts_24 hC   x1 x2 (fun a0 S => hk (a0, S)) (fun  S => hx (S))  (q.1) (q.2)) (fun r => ?_) bd_K ((0 : Int32), S2)
  obtain ⟨S11, rfl⟩ : ∃ z, z = r := ⟨_, rfl⟩
  show bd_S Γ 4 t0 (Option.bind _ _) (cX ε S11) 59 [] []
  try dsimp only
  exact bs_vret hC dX8_fillLefts_59 rfl
theorem c_X8_fillLefts (l : Launch) (D : va_G) (ε : bd_E) (x1 : Int32) (x2 : Int32)  (S : bd_T) (h0 : (f_X8_fillLefts x1 x2 S).isSome = true) : bd_Con l yX8_fillLefts (Cond.code yX8_fillLefts cX8_fillLefts 4 none :: bd_tbl) ({ frames := 3, cells := 0, slots := 0, locals := 75 } : Room) D ε (cX ε) bd_vv [.ref (bd_a ε 1), .int x1, .int x2] S (f_X8_fillLefts x1 x2 S) :=
  bd_con (by decide +kernel) (Nat.le_of_ble_eq_true rfl) ⟨rfl, rfl⟩ h0 (fun Γ _ _ hC => bs_eq bs_bs (b_X8_fillLefts hC x1 x2 S))
set_option maxRecDepth 100000 in
set_option maxHeartbeats 4000000 in
theorem lb_X0_learnLook_61 {Γ : bd_G} {ε : bd_E} {t0 : Option (Unit × bd_T)} (hC : bd_C Γ cX0_learnLook 10 RX0 none ({ frames := 4, cells := 0, slots := 0, locals := 98 } : Room) ε (cX ε) bd_vv t0) (p2 : Int32) (p3 : Int32) (p4 : Int32) (p5 : Int32) (p6 : Int32) {K : (Int32 × bd_T) ⊕ (bd_T) → Option (Unit × bd_T)} (hk : ∀ (x7 : Int32) (S : bd_T), bd_S Γ 10 t0 (K (.inl (x7, S))) (cX ε S) 61 [(0, .ref (bd_a ε 4)), (1, .ref (bd_a ε 1)), (2, .int p2), (3, .int p3), (4, .int p4), (5, .int p5), (6, .int p6), (7, .int x7)] []) (hx : ∀ (S : bd_T), bd_S Γ 10 t0 (K (.inr S)) (cX ε S) 139 [] []) (x7 : Int32) (S : bd_T) : bd_S Γ 10 t0 ((fb_X0_learnLook_61 p2 p3 p4 p5 p6 x7 S).bind K) (cX ε S) 61 [(0, .ref (bd_a ε 4)), (1, .ref (bd_a ε 1)), (2, .int p2), (3, .int p3), (4, .int p4), (5, .int p5), (6, .int p6), (7, .int x7)] [] := by
  unfold fb_X0_learnLook_61
  refine bs_iload hC 7 dX0_learnLook_61 rfl ?_
  refine bs_sipush hC (300 : Int32) dX0_learnLook_63 rfl ?_
  refine bs_icmp_ge hC 139 dX0_learnLook_66 (by decide) (fun c31 => ?_) (fun c31 => ?_)
  · refine bs_some ?_
    refine bs_pick [] rfl ?_
    exact hx S
  refine bs_aload_n hC 1 dX0_learnLook_69 rfl rfl ?_
  refine bs_getN hC (v := .ref (bd_a ε (12 + 4))) hin_X8 1 (cX_o1 ε S) rfl 8 (by decide) nf_27 rfl dX0_learnLook_70 ?_
  refine bs_iload hC 7 dX0_learnLook_73 rfl ?_
  refine bs_callSN_i hC (rm := ({ frames := 0, cells := 0, slots := 0, locals := 0 } : Room)) [.ref (bd_a ε (12 + 4)), .int x7] [] (fun h => c_X9_at (bd_l Γ) (bd_D Γ) ε 4 x7 (by decide) S h) mw_237 nm_28 mw_236 mw_72 by_X9_at ⟨rfl, rfl, by decide, by decide⟩ rfl rfl (Nat.le_of_ble_eq_true rfl) dX0_learnLook_75 (fun r11 S12 eS12 => ?_)
  refine bs_istore hC [(8, .int r11), (0, .ref (bd_a ε 4)), (1, .ref (bd_a ε 1)), (2, .int p2), (3, .int p3), (4, .int p4), (5, .int p5), (6, .int p6), (7, .int x7)] dX0_learnLook_78 (by decide) rfl ?_
  refine bs_iload hC 8 dX0_learnLook_80 rfl ?_
  refine bs_iload hC 5 dX0_learnLook_82 rfl ?_
  refine bs_icmp_gt hC 101 dX0_learnLook_84 (by decide) (fun c30 => ?_) (fun c30 => ?_)
  · refine bs_iload_n hC 4 dX0_learnLook_101 rfl rfl ?_
    refine bs_sipush hC (300 : Int32) dX0_learnLook_102 rfl ?_
    refine bs_imul hC dX0_learnLook_105 ?_
    refine bs_iload hC 8 dX0_learnLook_106 rfl ?_
    refine bs_iadd hC dX0_learnLook_108 ?_
    refine bs_leti (fun z13 ez13 => ?_)
    refine bs_istore hC [(9, .int z13), (8, .int r11), (0, .ref (bd_a ε 4)), (1, .ref (bd_a ε 1)), (2, .int p2), (3, .int p3), (4, .int p4), (5, .int p5), (6, .int p6), (7, .int x7)] dX0_learnLook_109 (by decide) rfl ?_
    refine bs_aload_n hC 2 dX0_learnLook_111 rfl rfl ?_
    refine bs_get hC (v := .ref (bd_a ε (12 + 9))) hin_X0 4 (cX_o4 ε S12) rfl 0 (by decide) mw_175 rfl dX0_learnLook_112 ?_
    refine bs_iload hC 0 dX0_learnLook_115 rfl ?_
    refine bs_aload_n hC 2 dX0_learnLook_117 rfl rfl ?_
    refine bs_get hC (v := .ref (bd_a ε (12 + 9))) hin_X0 4 (cX_o4 ε S12) rfl 0 (by decide) mw_175 rfl dX0_learnLook_118 ?_
    refine bs_iload hC 0 dX0_learnLook_121 rfl ?_
    refine bs_callSN_i hC (rm := ({ frames := 0, cells := 0, slots := 0, locals := 0 } : Room)) [.ref (bd_a ε (12 + 9)), .int z13] [.int z13, .ref (bd_a ε (12 + 9))] (fun h => c_X9_at (bd_l Γ) (bd_D Γ) ε 9 z13 (by decide) S12 h) mw_237 nm_28 mw_236 mw_72 by_X9_at ⟨rfl, rfl, by decide, by decide⟩ rfl rfl (Nat.le_of_ble_eq_true rfl) dX0_learnLook_123 (fun r14 S15 eS15 => ?_)
    refine bs_iconst hC (1 : Int32) dX0_learnLook_126 rfl ?_
    refine bs_iload_n hC 4 dX0_learnLook_127 rfl rfl ?_
    refine bs_ishl hC dX0_learnLook_128 ?_
    refine bs_ior hC dX0_learnLook_129 ?_
    refine bs_callSN_v hC (rm := ({ frames := 0, cells := 0, slots := 0, locals := 0 } : Room)) [.ref (bd_a ε (12 + 9)), .int z13, .int (r14 ||| ((1 : Int32) <<< (p2 &&& 31)))] [] (fun h => c_X9_lay (bd_l Γ) (bd_D Γ) ε 9 z13 (r14 ||| ((1 : Int32) <<< (p2 &&& 31))) (by decide) S15 h) mw_240 nm_30 mw_239 mw_72 by_X9_lay ⟨rfl, rfl, by decide, by decide⟩ rfl rfl (Nat.le_of_ble_eq_true rfl) dX0_learnLook_130 (fun r16 S17 eS17 => ?_)
    refine bs_iinc hC 9 [(7, .int (x7 + 1)), (9, .int z13), (8, .int r11), (0, .ref (bd_a ε 4)), (1, .ref (bd_a ε 1)), (2, .int p2), (3, .int p3), (4, .int p4), (5, .int p5), (6, .int p6)] dX0_learnLook_133 rfl rfl (by decide) rfl ?_
    refine bs_goto hC 61 dX0_learnLook_136 (by decide) ?_
    refine bs_some ?_
    refine bs_pick [3, 4, 5, 6, 7, 8, 9, 0] rfl ?_
    exact hk (x7 + 1) S17
  refine bs_iload hC 0 dX0_learnLook_87 rfl ?_
  refine bs_iload hC 6 dX0_learnLook_89 rfl ?_
  refine bs_icmp_lt hC 101 dX0_learnLook_91 (by decide) (fun c29 => ?_) (fun c29 => ?_)
  · refine bs_iload_n hC 4 dX0_learnLook_101 rfl rfl ?_
    refine bs_sipush hC (300 : Int32) dX0_learnLook_102 rfl ?_
    refine bs_imul hC dX0_learnLook_105 ?_
    refine bs_iload hC 8 dX0_learnLook_106 rfl ?_
    refine bs_iadd hC dX0_learnLook_108 ?_
    refine bs_leti (fun z18 ez18 => ?_)
    refine bs_istore hC [(9, .int z18), (8, .int r11), (0, .ref (bd_a ε 4)), (1, .ref (bd_a ε 1)), (2, .int p2), (3, .int p3), (4, .int p4), (5, .int p5), (6, .int p6), (7, .int x7)] dX0_learnLook_109 (by decide) rfl ?_
    refine bs_aload_n hC 2 dX0_learnLook_111 rfl rfl ?_
    refine bs_get hC (v := .ref (bd_a ε (12 + 9))) hin_X0 4 (cX_o4 ε S12) rfl 0 (by decide) mw_175 rfl dX0_learnLook_112 ?_
    refine bs_iload hC 0 dX0_learnLook_115 rfl ?_
    refine bs_aload_n hC 2 dX0_learnLook_117 rfl rfl ?_
    refine bs_get hC (v := .ref (bd_a ε (12 + 9))) hin_X0 4 (cX_o4 ε S12) rfl 0 (by decide) mw_175 rfl dX0_learnLook_118 ?_
    refine bs_iload hC 0 dX0_learnLook_121 rfl ?_
    refine bs_callSN_i hC (rm := ({ frames := 0, cells := 0, slots := 0, locals := 0 } : Room)) [.ref (bd_a ε (12 + 9)), .int z18] [.int z18, .ref (bd_a ε (12 + 9))] (fun h => c_X9_at (bd_l Γ) (bd_D Γ) ε 9 z18 (by decide) S12 h) mw_237 nm_28 mw_236 mw_72 by_X9_at ⟨rfl, rfl, by decide, by decide⟩ rfl rfl (Nat.le_of_ble_eq_true rfl) dX0_learnLook_123 (fun r19 S20 eS20 => ?_)
    refine bs_iconst hC (1 : Int32) dX0_learnLook_126 rfl ?_
    refine bs_iload_n hC 4 dX0_learnLook_127 rfl rfl ?_
    refine bs_ishl hC dX0_learnLook_128 ?_
    refine bs_ior hC dX0_learnLook_129 ?_
    refine bs_callSN_v hC (rm := ({ frames := 0, cells := 0, slots := 0, locals := 0 } : Room)) [.ref (bd_a ε (12 + 9)), .int z18, .int (r19 ||| ((1 : Int32) <<< (p2 &&& 31)))] [] (fun h => c_X9_lay (bd_l Γ) (bd_D Γ) ε 9 z18 (r19 ||| ((1 : Int32) <<< (p2 &&& 31))) (by decide) S20 h) mw_240 nm_30 mw_239 mw_72 by_X9_lay ⟨rfl, rfl, by decide, by decide⟩ rfl rfl (Nat.le_of_ble_eq_true rfl) dX0_learnLook_130 (fun r21 S22 eS22 => ?_)
    refine bs_iinc hC 9 [(7, .int (x7 + 1)), (9, .int z18), (8, .int r11), (0, .ref (bd_a ε 4)), (1, .ref (bd_a ε 1)), (2, .int p2), (3, .int p3), (4, .int p4), (5, .int p5), (6, .int p6)] dX0_learnLook_133 rfl rfl (by decide) rfl ?_
    refine bs_goto hC 61 dX0_learnLook_136 (by decide) ?_
    refine bs_some ?_
    refine bs_pick [3, 4, 5, 6, 7, 8, 9, 0] rfl ?_
    exact hk (x7 + 1) S22
  refine bs_iload hC 0 dX0_learnLook_94 rfl ?_
  refine bs_iload hC 7 dX0_learnLook_96 rfl ?_
  refine bs_icmp_le hC 133 dX0_learnLook_98 (by decide) (fun c28 => ?_) (fun c28 => ?_)
  · refine bs_iinc hC 8 [(7, .int (x7 + 1)), (8, .int r11), (0, .ref (bd_a ε 4)), (1, .ref (bd_a ε 1)), (2, .int p2), (3, .int p3), (4, .int p4), (5, .int p5), (6, .int p6)] dX0_learnLook_133 rfl rfl (by decide) rfl ?_
    refine bs_goto hC 61 dX0_learnLook_136 (by decide) ?_
    refine bs_some ?_
    refine bs_pick [2, 3, 4, 5, 6, 7, 8, 0] rfl ?_
    exact hk (x7 + 1) S12
  refine bs_iload_n hC 4 dX0_learnLook_101 rfl rfl ?_
  refine bs_sipush hC (300 : Int32) dX0_learnLook_102 rfl ?_
  refine bs_imul hC dX0_learnLook_105 ?_
  refine bs_iload hC 8 dX0_learnLook_106 rfl ?_
  refine bs_iadd hC dX0_learnLook_108 ?_
  refine bs_leti (fun z23 ez23 => ?_)
  refine bs_istore hC [(9, .int z23), (8, .int r11), (0, .ref (bd_a ε 4)), (1, .ref (bd_a ε 1)), (2, .int p2), (3, .int p3), (4, .int p4), (5, .int p5), (6, .int p6), (7, .int x7)] dX0_learnLook_109 (by decide) rfl ?_
  refine bs_aload_n hC 2 dX0_learnLook_111 rfl rfl ?_
  refine bs_get hC (v := .ref (bd_a ε (12 + 9))) hin_X0 4 (cX_o4 ε S12) rfl 0 (by decide) mw_175 rfl dX0_learnLook_112 ?_
  refine bs_iload hC 0 dX0_learnLook_115 rfl ?_
  refine bs_aload_n hC 2 dX0_learnLook_117 rfl rfl ?_
  refine bs_get hC (v := .ref (bd_a ε (12 + 9))) hin_X0 4 (cX_o4 ε S12) rfl 0 (by decide) mw_175 rfl dX0_learnLook_118 ?_
  refine bs_iload hC 0 dX0_learnLook_121 rfl ?_
  refine bs_callSN_i hC (rm := ({ frames := 0, cells := 0, slots := 0, locals := 0 } : Room)) [.ref (bd_a ε (12 + 9)), .int z23] [.int z23, .ref (bd_a ε (12 + 9))] (fun h => c_X9_at (bd_l Γ) (bd_D Γ) ε 9 z23 (by decide) S12 h) mw_237 nm_28 mw_236 mw_72 by_X9_at ⟨rfl, rfl, by decide, by decide⟩ rfl rfl (Nat.le_of_ble_eq_true rfl) dX0_learnLook_123 (fun r24 S25 eS25 => ?_)
  refine bs_iconst hC (1 : Int32) dX0_learnLook_126 rfl ?_
  refine bs_iload_n hC 4 dX0_learnLook_127 rfl rfl ?_
  refine bs_ishl hC dX0_learnLook_128 ?_
  refine bs_ior hC dX0_learnLook_129 ?_
  refine bs_callSN_v hC (rm := ({ frames := 0, cells := 0, slots := 0, locals := 0 } : Room)) [.ref (bd_a ε (12 + 9)), .int z23, .int (r24 ||| ((1 : Int32) <<< (p2 &&& 31)))] [] (fun h => c_X9_lay (bd_l Γ) (bd_D Γ) ε 9 z23 (r24 ||| ((1 : Int32) <<< (p2 &&& 31))) (by decide) S25 h) mw_240 nm_30 mw_239 mw_72 by_X9_lay ⟨rfl, rfl, by decide, by decide⟩ rfl rfl (Nat.le_of_ble_eq_true rfl) dX0_learnLook_130 (fun r26 S27 eS27 => ?_)
  refine bs_iinc hC 9 [(7, .int (x7 + 1)), (9, .int z23), (8, .int r11), (0, .ref (bd_a ε 4)), (1, .ref (bd_a ε 1)), (2, .int p2), (3, .int p3), (4, .int p4), (5, .int p5), (6, .int p6)] dX0_learnLook_133 rfl rfl (by decide) rfl ?_
  refine bs_goto hC 61 dX0_learnLook_136 (by decide) ?_
  refine bs_some ?_
  refine bs_pick [3, 4, 5, 6, 7, 8, 9, 0] rfl ?_
  exact hk (x7 + 1) S27
set_option maxRecDepth 100000 in
set_option maxHeartbeats 4000000 in
theorem b_X0_learnLook {Γ : bd_G} {ε : bd_E} {t0 : Option (Unit × bd_T)} (hC : bd_C Γ cX0_learnLook 10 RX0 none ({ frames := 4, cells := 0, slots := 0, locals := 98 } : Room) ε (cX ε) bd_vv t0) (x2 : Int32)  (S : bd_T) : bd_S Γ 10 t0 ((f_X0_learnLook x2 S).bind some) (cX ε S) 0 [(0, .ref (bd_a ε 4)), (1, .ref (bd_a ε 1)), (2, .int x2)] [] := by
  unfold f_X0_learnLook
  refine bs_aload_n hC 1 dX0_learnLook_0 rfl rfl ?_
  refine bs_getN hC (v := .ref (bd_a ε 9)) hin_X8 1 (cX_o1 ε S) rfl 1 (by decide) nf_19 rfl dX0_learnLook_1 ?_
  refine bs_getN hC (v := .ref (bd_a ε (12 + 17))) hin_X4 9 (cX_o9 ε S) rfl 2 (by decide) nf_14 rfl dX0_learnLook_4 ?_
  refine bs_iload_n hC 2 dX0_learnLook_7 rfl rfl ?_
  refine bs_callSN_i hC (rm := ({ frames := 0, cells := 0, slots := 0, locals := 0 } : Room)) [.ref (bd_a ε (12 + 17)), .int x2] [] (fun h => c_X9_at (bd_l Γ) (bd_D Γ) ε 17 x2 (by decide) S h) mw_237 nm_28 mw_236 mw_72 by_X9_at ⟨rfl, rfl, by decide, by decide⟩ rfl rfl (Nat.le_of_ble_eq_true rfl) dX0_learnLook_8 (fun r1 S2 eS2 => ?_)
  refine bs_istore_n hC [(3, .int r1), (0, .ref (bd_a ε 4)), (1, .ref (bd_a ε 1)), (2, .int x2)] dX0_learnLook_11 rfl (by decide) rfl ?_
  refine bs_aload_n hC 2 dX0_learnLook_12 rfl rfl ?_
  refine bs_getN hC (v := .ref (bd_a ε 9)) hin_X8 1 (cX_o1 ε S2) rfl 1 (by decide) nf_19 rfl dX0_learnLook_13 ?_
  refine bs_getN hC (v := .ref (bd_a ε (12 + 18))) hin_X4 9 (cX_o9 ε S2) rfl 3 (by decide) nf_15 rfl dX0_learnLook_16 ?_
  refine bs_iload_n hC 3 dX0_learnLook_19 rfl rfl ?_
  refine bs_callSN_i hC (rm := ({ frames := 0, cells := 0, slots := 0, locals := 0 } : Room)) [.ref (bd_a ε (12 + 18)), .int x2] [] (fun h => c_X9_at (bd_l Γ) (bd_D Γ) ε 18 x2 (by decide) S2 h) mw_237 nm_28 mw_236 mw_72 by_X9_at ⟨rfl, rfl, by decide, by decide⟩ rfl rfl (Nat.le_of_ble_eq_true rfl) dX0_learnLook_20 (fun r3 S4 eS4 => ?_)
  refine bs_istore hC [(4, .int r3), (3, .int r1), (0, .ref (bd_a ε 4)), (1, .ref (bd_a ε 1)), (2, .int x2)] dX0_learnLook_23 (by decide) rfl ?_
  refine bs_aload_n hC 3 dX0_learnLook_25 rfl rfl ?_
  refine bs_getN hC (v := .ref (bd_a ε 9)) hin_X8 1 (cX_o1 ε S4) rfl 1 (by decide) nf_19 rfl dX0_learnLook_26 ?_
  refine bs_getN hC (v := .ref (bd_a ε (12 + 19))) hin_X4 9 (cX_o9 ε S4) rfl 4 (by decide) nf_16 rfl dX0_learnLook_29 ?_
  refine bs_iload_n hC 4 dX0_learnLook_32 rfl rfl ?_
  refine bs_callSN_i hC (rm := ({ frames := 0, cells := 0, slots := 0, locals := 0 } : Room)) [.ref (bd_a ε (12 + 19)), .int x2] [] (fun h => c_X9_at (bd_l Γ) (bd_D Γ) ε 19 x2 (by decide) S4 h) mw_237 nm_28 mw_236 mw_72 by_X9_at ⟨rfl, rfl, by decide, by decide⟩ rfl rfl (Nat.le_of_ble_eq_true rfl) dX0_learnLook_33 (fun r5 S6 eS6 => ?_)
  refine bs_istore hC [(5, .int r5), (4, .int r3), (3, .int r1), (0, .ref (bd_a ε 4)), (1, .ref (bd_a ε 1)), (2, .int x2)] dX0_learnLook_36 (by decide) rfl ?_
  refine bs_aload_n hC 4 dX0_learnLook_38 rfl rfl ?_
  refine bs_getN hC (v := .ref (bd_a ε 9)) hin_X8 1 (cX_o1 ε S6) rfl 1 (by decide) nf_19 rfl dX0_learnLook_39 ?_
  refine bs_getN hC (v := .ref (bd_a ε (12 + 20))) hin_X4 9 (cX_o9 ε S6) rfl 5 (by decide) nf_17 rfl dX0_learnLook_42 ?_
  refine bs_iload_n hC 5 dX0_learnLook_45 rfl rfl ?_
  refine bs_callSN_i hC (rm := ({ frames := 0, cells := 0, slots := 0, locals := 0 } : Room)) [.ref (bd_a ε (12 + 20)), .int x2] [] (fun h => c_X9_at (bd_l Γ) (bd_D Γ) ε 20 x2 (by decide) S6 h) mw_237 nm_28 mw_236 mw_72 by_X9_at ⟨rfl, rfl, by decide, by decide⟩ rfl rfl (Nat.le_of_ble_eq_true rfl) dX0_learnLook_46 (fun r7 S8 eS8 => ?_)
  refine bs_istore hC [(6, .int r7), (5, .int r5), (4, .int r3), (3, .int r1), (0, .ref (bd_a ε 4)), (1, .ref (bd_a ε 1)), (2, .int x2)] dX0_learnLook_49 (by decide) rfl ?_
  refine bs_aload_n hC 5 dX0_learnLook_51 rfl rfl ?_
  refine bs_iload_n hC 3 dX0_learnLook_52 rfl rfl ?_
  refine bs_iload hC 2 dX0_learnLook_53 rfl ?_
  refine bs_callVN_v hC (rm := ({ frames := 3, cells := 0, slots := 0, locals := 75 } : Room)) [.int r1, .int r3] [] (fun h => c_X8_fillLefts (bd_l Γ) (bd_D Γ) ε r1 r3 S8 h) mw_344 nm_29 mw_343 mw_73 mw_21 (cX_o1 ε S8) rfl by_X8_fillLefts ⟨rfl, rfl, by decide, by decide⟩ rfl rfl (Nat.le_of_ble_eq_true rfl) dX0_learnLook_55 (fun r9 S10 eS10 => ?_)
  refine bs_iconst hC (0 : Int32) dX0_learnLook_58 rfl ?_
  refine bs_istore hC [(7, .int (0 : Int32)), (6, .int r7), (5, .int r5), (4, .int r3), (3, .int r1), (0, .ref (bd_a ε 4)), (1, .ref (bd_a ε 1)), (2, .int x2)] dX0_learnLook_59 (by decide) rfl ?_
  refine bs_pick [5, 6, 7, 4, 3, 2, 1, 0] rfl ?_
  refine bs_loopK (fun (q : Int32 × bd_T) t => bd_S Γ 10 t0 t (cX ε (q.2)) 61 [(0, .ref (bd_a ε 4)), (1, .ref (bd_a ε 1)), (2, .int x2), (3, .int r1), (4, .int r3), (5, .int r5), (6, .int r7), (7, .int (q.1))] []) (fun (q : bd_T) t => bd_S Γ 10 t0 t (cX ε (q)) 139 [] []) (fun q => fb_X0_learnLook_61 x2 r1 r3 r5 r7 q.1 q.2) (fun _ => bs_none) (fun K hk hx q => lb_X0_learnLook_61 hC   x2 r1 r3 r5 r7 (fun a0 S => hk (a0, S)) (fun  S => hx (S))  (q.1) (q.2)) (fun r => ?_) bd_K ((0 : Int32), S10)
  obtain ⟨S32, rfl⟩ : ∃ z, z = r := ⟨_, rfl⟩
  show bd_S Γ 10 t0 (Option.bind _ _) (cX ε S32) 139 [] []
  try dsimp only
  exact bs_vret hC dX0_learnLook_139 rfl
theorem c_X0_learnLook (l : Launch) (D : va_G) (ε : bd_E) (x2 : Int32)  (S : bd_T) (h0 : (f_X0_learnLook x2 S).isSome = true) : bd_Con l yX0_learnLook (Cond.code yX0_learnLook cX0_learnLook 10 none :: bd_tbl) ({ frames := 4, cells := 0, slots := 0, locals := 98 } : Room) D ε (cX ε) bd_vv [.ref (bd_a ε 4), .ref (bd_a ε 1), .int x2] S (f_X0_learnLook x2 S) :=
  bd_con (by decide +kernel) (Nat.le_of_ble_eq_true rfl) ⟨rfl, rfl⟩ h0 (fun Γ _ _ hC => bs_eq bs_bs (b_X0_learnLook hC x2 S))
set_option maxRecDepth 100000 in
set_option maxHeartbeats 4000000 in
theorem lb_X0_learn_5 {Γ : bd_G} {ε : bd_E} {t0 : Option (Unit × bd_T)} (hC : bd_C Γ cX0_learn 3 RX0 none ({ frames := 5, cells := 0, slots := 0, locals := 127 } : Room) ε (cX ε) bd_vv t0)  {K : (Int32 × bd_T) ⊕ (bd_T) → Option (Unit × bd_T)} (hk : ∀ (x2 : Int32) (S : bd_T), bd_S Γ 3 t0 (K (.inl (x2, S))) (cX ε S) 5 [(0, .ref (bd_a ε 4)), (1, .ref (bd_a ε 1)), (2, .int x2)] []) (hx : ∀ (S : bd_T), bd_S Γ 3 t0 (K (.inr S)) (cX ε S) 28 [(0, .ref (bd_a ε 4)), (1, .ref (bd_a ε 1))] []) (x2 : Int32) (S : bd_T) : bd_S Γ 3 t0 ((fb_X0_learn_5 x2 S).bind K) (cX ε S) 5 [(0, .ref (bd_a ε 4)), (1, .ref (bd_a ε 1)), (2, .int x2)] [] := by
  unfold fb_X0_learn_5
  refine bs_iload_n hC 2 dX0_learn_5 rfl rfl ?_
  refine bs_aload_n hC 1 dX0_learn_6 rfl rfl ?_
  refine bs_getN hC (v := .ref (bd_a ε 9)) hin_X8 1 (cX_o1 ε S) rfl 1 (by decide) nf_19 rfl dX0_learn_7 ?_
  refine bs_getN hC (v := .int (bd_I S 18)) hin_X4 9 (cX_o9 ε S) rfl 0 (by decide) nf_10 rfl dX0_learn_10 ?_
  refine bs_icmp_ge hC 28 dX0_learn_13 (by decide) (fun c4 => ?_) (fun c4 => ?_)
  · refine bs_some ?_
    refine bs_pick [0, 1] rfl ?_
    exact hx S
  refine bs_aload_n hC 0 dX0_learn_16 rfl rfl ?_
  refine bs_aload_n hC 1 dX0_learn_17 rfl rfl ?_
  refine bs_iload_n hC 2 dX0_learn_18 rfl rfl ?_
  refine bs_callV_v hC (rm := ({ frames := 4, cells := 0, slots := 0, locals := 98 } : Room)) [.ref (bd_a ε 1), .int x2] [] (fun h => c_X0_learnLook (bd_l Γ) (bd_D Γ) ε x2 S h) mw_342 mw_340 mw_341 mw_77 mw_20 (cX_o4 ε S) rfl by_X0_learnLook ⟨rfl, rfl, by decide, by decide⟩ rfl rfl (Nat.le_of_ble_eq_true rfl) dX0_learn_19 (fun r2 S3 eS3 => ?_)
  refine bs_iinc hC 2 [(2, .int (x2 + 1)), (0, .ref (bd_a ε 4)), (1, .ref (bd_a ε 1))] dX0_learn_22 rfl rfl (by decide) rfl ?_
  refine bs_goto hC 5 dX0_learn_25 (by decide) ?_
  refine bs_some ?_
  refine bs_pick [1, 2, 0] rfl ?_
  exact hk (x2 + 1) S3
set_option maxRecDepth 100000 in
set_option maxHeartbeats 4000000 in
theorem b_X0_learn {Γ : bd_G} {ε : bd_E} {t0 : Option (Unit × bd_T)} (hC : bd_C Γ cX0_learn 3 RX0 none ({ frames := 5, cells := 0, slots := 0, locals := 127 } : Room) ε (cX ε) bd_vv t0)  (S : bd_T) : bd_S Γ 3 t0 ((f_X0_learn S).bind some) (cX ε S) 0 [(0, .ref (bd_a ε 4)), (1, .ref (bd_a ε 1))] [] := by
  unfold f_X0_learn
  refine bs_aload_n hC 0 dX0_learn_0 rfl rfl ?_
  refine bs_get hC (v := .int (bd_I S 15)) hin_X0 4 (cX_o4 ε S) rfl 1 (by decide) mw_176 rfl dX0_learn_1 ?_
  refine bs_leti (fun z1 ez1 => ?_)
  refine bs_istore_n hC [(2, .int z1), (0, .ref (bd_a ε 4)), (1, .ref (bd_a ε 1))] dX0_learn_4 rfl (by decide) rfl ?_
  refine bs_pick [1, 2, 0] rfl ?_
  refine bs_loopK (fun (q : Int32 × bd_T) t => bd_S Γ 3 t0 t (cX ε (q.2)) 5 [(0, .ref (bd_a ε 4)), (1, .ref (bd_a ε 1)), (2, .int (q.1))] []) (fun (q : bd_T) t => bd_S Γ 3 t0 t (cX ε (q)) 28 [(0, .ref (bd_a ε 4)), (1, .ref (bd_a ε 1))] []) (fun q => fb_X0_learn_5 q.1 q.2) (fun _ => bs_none) (fun K hk hx q => lb_X0_learn_5 hC    (fun a0 S => hk (a0, S)) (fun  S => hx (S))  (q.1) (q.2)) (fun r => ?_) bd_K (z1, S)
  obtain ⟨S5, rfl⟩ : ∃ z, z = r := ⟨_, rfl⟩
  show bd_S Γ 3 t0 (Option.bind _ _) (cX ε S5) 28 [(0, .ref (bd_a ε 4)), (1, .ref (bd_a ε 1))] []
  try dsimp only
  refine bs_aload_n hC 0 dX0_learn_28 rfl rfl ?_
  refine bs_aload_n hC 1 dX0_learn_29 rfl rfl ?_
  refine bs_getN hC (v := .ref (bd_a ε 9)) hin_X8 1 (cX_o1 ε S5) rfl 1 (by decide) nf_19 rfl dX0_learn_30 ?_
  refine bs_getN hC (v := .int (bd_I S5 18)) hin_X4 9 (cX_o9 ε S5) rfl 0 (by decide) nf_10 rfl dX0_learn_33 ?_
  refine bs_put hC (kk := 15) hin_X0 tyX0 tyX0_ok nmX0 4 (cX_o4 ε S5) rfl 1 (by decide) mw_176 rfl rfl rfl (Nat.le_of_ble_eq_true rfl) (cX_p15 ε S5 _) dX0_learn_36 (fun S6 eS6 => ?_)
  exact bs_vret hC dX0_learn_39 rfl
theorem c_X0_learn (l : Launch) (D : va_G) (ε : bd_E)  (S : bd_T) (h0 : (f_X0_learn S).isSome = true) : bd_Con l yX0_learn (Cond.code yX0_learn cX0_learn 3 none :: bd_tbl) ({ frames := 5, cells := 0, slots := 0, locals := 127 } : Room) D ε (cX ε) bd_vv [.ref (bd_a ε 4), .ref (bd_a ε 1)] S (f_X0_learn S) :=
  bd_con (by decide +kernel) (Nat.le_of_ble_eq_true rfl) ⟨rfl, rfl⟩ h0 (fun Γ _ _ hC => bs_eq bs_bs (b_X0_learn hC S))
set_option maxRecDepth 100000 in
set_option maxHeartbeats 4000000 in
theorem b_X0_speaking {Γ : bd_G} {ε : bd_E} {t0 : Option (Int32 × bd_T)} (hC : bd_C Γ cX0_speaking 4 RX0 (some .int) ({ frames := 1, cells := 0, slots := 0, locals := 21 } : Room) ε (cX ε) bd_vi t0) (x2 : Int32) (x3 : Int32)  (S : bd_T) : bd_S Γ 4 t0 ((f_X0_speaking x2 x3 S).bind some) (cX ε S) 0 [(0, .ref (bd_a ε 4)), (1, .ref (bd_a ε 1)), (2, .int x2), (3, .int x3)] [] := by
  unfold f_X0_speaking
  refine bs_aload_n hC 0 dX0_speaking_0 rfl rfl ?_
  refine bs_get hC (v := .ref (bd_a ε (12 + 9))) hin_X0 4 (cX_o4 ε S) rfl 0 (by decide) mw_175 rfl dX0_speaking_1 ?_
  refine bs_iload_n hC 2 dX0_speaking_4 rfl rfl ?_
  refine bs_sipush hC (300 : Int32) dX0_speaking_5 rfl ?_
  refine bs_imul hC dX0_speaking_8 ?_
  refine bs_iload_n hC 3 dX0_speaking_9 rfl rfl ?_
  refine bs_iadd hC dX0_speaking_10 ?_
  refine bs_callSN_i hC (rm := ({ frames := 0, cells := 0, slots := 0, locals := 0 } : Room)) [.ref (bd_a ε (12 + 9)), .int ((x2 * (300 : Int32)) + x3)] [] (fun h => c_X9_at (bd_l Γ) (bd_D Γ) ε 9 ((x2 * (300 : Int32)) + x3) (by decide) S h) mw_237 nm_28 mw_236 mw_72 by_X9_at ⟨rfl, rfl, by decide, by decide⟩ rfl rfl (Nat.le_of_ble_eq_true rfl) dX0_speaking_11 (fun r1 S2 eS2 => ?_)
  refine bs_aload_n hC 1 dX0_speaking_14 rfl rfl ?_
  refine bs_getN hC (v := .ref (bd_a ε 9)) hin_X8 1 (cX_o1 ε S2) rfl 1 (by decide) nf_19 rfl dX0_speaking_15 ?_
  refine bs_getN hC (v := .int (bd_I S2 19)) hin_X4 9 (cX_o9 ε S2) rfl 1 (by decide) nf_12 rfl dX0_speaking_18 ?_
  refine bs_iconst hC (-1 : Int32) dX0_speaking_21 rfl ?_
  refine bs_ixor hC dX0_speaking_22 ?_
  refine bs_iand hC dX0_speaking_23 ?_
  exact bs_iret hC dX0_speaking_24 rfl
theorem c_X0_speaking (l : Launch) (D : va_G) (ε : bd_E) (x2 : Int32) (x3 : Int32)  (S : bd_T) (h0 : (f_X0_speaking x2 x3 S).isSome = true) : bd_Con l yX0_speaking (Cond.code yX0_speaking cX0_speaking 4 (some .int) :: bd_tbl) ({ frames := 1, cells := 0, slots := 0, locals := 21 } : Room) D ε (cX ε) bd_vi [.ref (bd_a ε 4), .ref (bd_a ε 1), .int x2, .int x3] S (f_X0_speaking x2 x3 S) :=
  bd_con (by decide +kernel) (Nat.le_of_ble_eq_true rfl) ⟨rfl, rfl⟩ h0 (fun Γ _ _ hC => bs_eq bs_bs (b_X0_speaking hC x2 x3 S))
set_option maxRecDepth 100000 in
set_option maxHeartbeats 4000000 in
theorem lb_X9_alone_29 {Γ : bd_G} {ε : bd_E} {t0 : Option (Int32 × bd_T)} (hC : bd_C Γ cX9_alone 4 RX9 (some .int) ({ frames := 6, cells := 0, slots := 0, locals := 149 } : Room) ε (cX ε) bd_vi t0) (p1 : Int32) {K : (Int32 × Int32 × bd_T) ⊕ (Int32 × bd_T) → Option (Int32 × bd_T)} (hk : ∀ (x2 : Int32) (x3 : Int32) (S : bd_T), bd_S Γ 4 t0 (K (.inl (x2, x3, S))) (cX ε S) 29 [(0, .ref (bd_a ε 0)), (1, .int p1), (2, .int x2), (3, .int x3)] []) (hx : ∀ (y2 : Int32) (S : bd_T), bd_S Γ 4 t0 (K (.inr (y2, S))) (cX ε S) 61 [(2, .int y2)] []) (x2 : Int32) (x3 : Int32) (S : bd_T) : bd_S Γ 4 t0 ((fb_X9_alone_29 p1 x2 x3 S).bind K) (cX ε S) 29 [(0, .ref (bd_a ε 0)), (1, .int p1), (2, .int x2), (3, .int x3)] [] := by
  unfold fb_X9_alone_29
  refine bs_iload_n hC 3 dX9_alone_29 rfl rfl ?_
  refine bs_sipush hC (300 : Int32) dX9_alone_30 rfl ?_
  refine bs_icmp_ge hC 61 dX9_alone_33 (by decide) (fun c10 => ?_) (fun c10 => ?_)
  · refine bs_some ?_
    refine bs_pick [2] rfl ?_
    exact hx x2 S
  refine bs_aload_n hC 0 dX9_alone_36 rfl rfl ?_
  refine bs_get hC (v := .ref (bd_a ε 4)) hin_X9 0 (cX_o0 ε S) rfl 7 (by decide) mw_213 rfl dX9_alone_37 ?_
  refine bs_aload_n hC 0 dX9_alone_40 rfl rfl ?_
  refine bs_get hC (v := .ref (bd_a ε 1)) hin_X9 0 (cX_o0 ε S) rfl 0 (by decide) mw_206 rfl dX9_alone_41 ?_
  refine bs_iload_n hC 1 dX9_alone_44 rfl rfl ?_
  refine bs_iload_n hC 3 dX9_alone_45 rfl rfl ?_
  refine bs_callVN_i hC (rm := ({ frames := 1, cells := 0, slots := 0, locals := 21 } : Room)) [.ref (bd_a ε 1), .int p1, .int x3] [] (fun h => c_X0_speaking (bd_l Γ) (bd_D Γ) ε p1 x3 S h) mw_350 nm_31 mw_349 mw_77 mw_23 (cX_o4 ε S) rfl by_X0_speaking ⟨rfl, rfl, by decide, by decide⟩ rfl rfl (Nat.le_of_ble_eq_true rfl) dX9_alone_46 (fun r7 S8 eS8 => ?_)
  refine bs_if_ne hC 55 dX9_alone_49 (by decide) (fun c9 => ?_) (fun c9 => ?_)
  · refine bs_iinc hC 2 [(2, .int (x2 + 1)), (0, .ref (bd_a ε 0)), (1, .int p1), (3, .int x3)] dX9_alone_52 rfl rfl (by decide) rfl ?_
    refine bs_iinc hC 3 [(3, .int (x3 + 1)), (2, .int (x2 + 1)), (0, .ref (bd_a ε 0)), (1, .int p1)] dX9_alone_55 rfl rfl (by decide) rfl ?_
    refine bs_goto hC 29 dX9_alone_58 (by decide) ?_
    refine bs_some ?_
    refine bs_pick [2, 3, 1, 0] rfl ?_
    exact hk (x2 + 1) (x3 + 1) S8
  refine bs_iinc hC 3 [(3, .int (x3 + 1)), (0, .ref (bd_a ε 0)), (1, .int p1), (2, .int x2)] dX9_alone_55 rfl rfl (by decide) rfl ?_
  refine bs_goto hC 29 dX9_alone_58 (by decide) ?_
  refine bs_some ?_
  refine bs_pick [1, 2, 3, 0] rfl ?_
  exact hk x2 (x3 + 1) S8
set_option maxRecDepth 100000 in
set_option maxHeartbeats 4000000 in
theorem b_X9_alone {Γ : bd_G} {ε : bd_E} {t0 : Option (Int32 × bd_T)} (hC : bd_C Γ cX9_alone 4 RX9 (some .int) ({ frames := 6, cells := 0, slots := 0, locals := 149 } : Room) ε (cX ε) bd_vi t0) (x1 : Int32)  (S : bd_T) : bd_S Γ 4 t0 ((f_X9_alone x1 S).bind some) (cX ε S) 0 [(0, .ref (bd_a ε 0)), (1, .int x1)] [] := by
  unfold f_X9_alone
  refine bs_aload_n hC 0 dX9_alone_0 rfl rfl ?_
  refine bs_iload_n hC 1 dX9_alone_1 rfl rfl ?_
  refine bs_callV_i hC (rm := ({ frames := 0, cells := 0, slots := 0, locals := 0 } : Room)) [.int x1] [] (fun h => c_X9_isThing (bd_l Γ) (bd_D Γ) ε x1 S h) mw_269 mw_267 mw_268 mw_72 mw_7 (cX_o0 ε S) rfl by_X9_isThing ⟨rfl, rfl, by decide, by decide⟩ rfl rfl (Nat.le_of_ble_eq_true rfl) dX9_alone_2 (fun r1 S2 eS2 => ?_)
  refine bs_if_ne hC 14 dX9_alone_5 (by decide) (fun c13 => ?_) (fun c13 => ?_)
  · refine bs_aload_n hC 0 dX9_alone_8 rfl rfl ?_
    refine bs_iconst hC (-1 : Int32) dX9_alone_9 rfl ?_
    refine bs_callV_i hC (rm := ({ frames := 1, cells := 0, slots := 0, locals := 22 } : Room)) [.int (-1 : Int32)] [] (fun h => c_X9_refuse (bd_l Γ) (bd_D Γ) ε (-1 : Int32) S2 h) mw_234 mw_232 mw_233 mw_72 mw_0 (cX_o0 ε S2) rfl by_X9_refuse ⟨rfl, rfl, by decide, by decide⟩ rfl rfl (Nat.le_of_ble_eq_true rfl) dX9_alone_10 (fun r3 S4 eS4 => ?_)
    exact bs_iret hC dX9_alone_13 rfl
  refine bs_aload_n hC 0 dX9_alone_14 rfl rfl ?_
  refine bs_get hC (v := .ref (bd_a ε 4)) hin_X9 0 (cX_o0 ε S2) rfl 7 (by decide) mw_213 rfl dX9_alone_15 ?_
  refine bs_aload_n hC 0 dX9_alone_18 rfl rfl ?_
  refine bs_get hC (v := .ref (bd_a ε 1)) hin_X9 0 (cX_o0 ε S2) rfl 0 (by decide) mw_206 rfl dX9_alone_19 ?_
  refine bs_callVN_v hC (rm := ({ frames := 5, cells := 0, slots := 0, locals := 127 } : Room)) [.ref (bd_a ε 1)] [] (fun h => c_X0_learn (bd_l Γ) (bd_D Γ) ε S2 h) mw_339 nm_27 mw_338 mw_77 mw_19 (cX_o4 ε S2) rfl by_X0_learn ⟨rfl, rfl, by decide, by decide⟩ rfl rfl (Nat.le_of_ble_eq_true rfl) dX9_alone_22 (fun r5 S6 eS6 => ?_)
  refine bs_iconst hC (0 : Int32) dX9_alone_25 rfl ?_
  refine bs_istore_n hC [(2, .int (0 : Int32)), (0, .ref (bd_a ε 0)), (1, .int x1)] dX9_alone_26 rfl (by decide) rfl ?_
  refine bs_iconst hC (0 : Int32) dX9_alone_27 rfl ?_
  refine bs_istore_n hC [(3, .int (0 : Int32)), (2, .int (0 : Int32)), (0, .ref (bd_a ε 0)), (1, .int x1)] dX9_alone_28 rfl (by decide) rfl ?_
  refine bs_pick [2, 3, 1, 0] rfl ?_
  refine bs_loopK (fun (q : Int32 × Int32 × bd_T) t => bd_S Γ 4 t0 t (cX ε (q.2.2)) 29 [(0, .ref (bd_a ε 0)), (1, .int x1), (2, .int (q.1)), (3, .int (q.2.1))] []) (fun (q : Int32 × bd_T) t => bd_S Γ 4 t0 t (cX ε (q.2)) 61 [(2, .int (q.1))] []) (fun q => fb_X9_alone_29 x1 q.1 q.2.1 q.2.2) (fun _ => bs_none) (fun K hk hx q => lb_X9_alone_29 hC   x1 (fun a0 a1 S => hk (a0, a1, S)) (fun b0 S => hx (b0, S))  (q.1) (q.2.1) (q.2.2)) (fun r => ?_) bd_K ((0 : Int32), (0 : Int32), S6)
  obtain ⟨y11, S12⟩ := r
  show bd_S Γ 4 t0 (Option.bind _ _) (cX ε S12) 61 [(2, .int y11)] []
  try dsimp only
  refine bs_iload_n hC 0 dX9_alone_61 rfl rfl ?_
  exact bs_iret hC dX9_alone_62 rfl
theorem c_X9_alone (l : Launch) (D : va_G) (ε : bd_E) (x1 : Int32)  (S : bd_T) (h0 : (f_X9_alone x1 S).isSome = true) : bd_Con l yX9_alone (Cond.code yX9_alone cX9_alone 4 (some .int) :: bd_tbl) ({ frames := 6, cells := 0, slots := 0, locals := 149 } : Room) D ε (cX ε) bd_vi [.ref (bd_a ε 0), .int x1] S (f_X9_alone x1 S) :=
  bd_con (by decide +kernel) (Nat.le_of_ble_eq_true rfl) ⟨rfl, rfl⟩ h0 (fun Γ _ _ hC => bs_eq bs_bs (b_X9_alone hC x1 S))
set_option maxRecDepth 100000 in
set_option maxHeartbeats 4000000 in
theorem b_X9_can {Γ : bd_G} {ε : bd_E} {t0 : Option (Int32 × bd_T)} (hC : bd_C Γ cX9_can 4 RX9 (some .int) ({ frames := 6, cells := 0, slots := 0, locals := 149 } : Room) ε (cX ε) bd_vi t0) (x1 : Int32) (x2 : Int32)  (S : bd_T) : bd_S Γ 4 t0 ((f_X9_can x1 x2 S).bind some) (cX ε S) 0 [(0, .ref (bd_a ε 0)), (1, .int x1), (2, .int x2)] [] := by
  unfold f_X9_can
  refine bs_aload_n hC 0 dX9_can_0 rfl rfl ?_
  refine bs_iload_n hC 1 dX9_can_1 rfl rfl ?_
  refine bs_callV_i hC (rm := ({ frames := 0, cells := 0, slots := 0, locals := 0 } : Room)) [.int x1] [] (fun h => c_X9_isThing (bd_l Γ) (bd_D Γ) ε x1 S h) mw_269 mw_267 mw_268 mw_72 mw_7 (cX_o0 ε S) rfl by_X9_isThing ⟨rfl, rfl, by decide, by decide⟩ rfl rfl (Nat.le_of_ble_eq_true rfl) dX9_can_2 (fun r1 S2 eS2 => ?_)
  refine bs_if_ne hC 14 dX9_can_5 (by decide) (fun c15 => ?_) (fun c15 => ?_)
  · refine bs_aload_n hC 0 dX9_can_8 rfl rfl ?_
    refine bs_iconst hC (-1 : Int32) dX9_can_9 rfl ?_
    refine bs_callV_i hC (rm := ({ frames := 1, cells := 0, slots := 0, locals := 22 } : Room)) [.int (-1 : Int32)] [] (fun h => c_X9_refuse (bd_l Γ) (bd_D Γ) ε (-1 : Int32) S2 h) mw_234 mw_232 mw_233 mw_72 mw_0 (cX_o0 ε S2) rfl by_X9_refuse ⟨rfl, rfl, by decide, by decide⟩ rfl rfl (Nat.le_of_ble_eq_true rfl) dX9_can_10 (fun r3 S4 eS4 => ?_)
    exact bs_iret hC dX9_can_13 rfl
  refine bs_iload_n hC 2 dX9_can_14 rfl rfl ?_
  refine bs_callS_i hC (rm := ({ frames := 0, cells := 0, slots := 0, locals := 0 } : Room)) [.int x2] [] (fun h => c_X9_wrongMinute (bd_l Γ) (bd_D Γ) ε x2 S2 h) mw_333 mw_331 mw_332 mw_72 by_X9_wrongMinute ⟨rfl, rfl, by decide, by decide⟩ rfl rfl (Nat.le_of_ble_eq_true rfl) dX9_can_15 (fun r5 S6 eS6 => ?_)
  refine bs_istore_n hC [(3, .int r5), (0, .ref (bd_a ε 0)), (1, .int x1), (2, .int x2)] dX9_can_18 rfl (by decide) rfl ?_
  refine bs_iload_n hC 0 dX9_can_19 rfl rfl ?_
  refine bs_if_ge hC 29 dX9_can_20 (by decide) (fun c14 => ?_) (fun c14 => ?_)
  · refine bs_aload_n hC 1 dX9_can_29 rfl rfl ?_
    refine bs_get hC (v := .ref (bd_a ε 4)) hin_X9 0 (cX_o0 ε S6) rfl 7 (by decide) mw_213 rfl dX9_can_30 ?_
    refine bs_aload_n hC 1 dX9_can_33 rfl rfl ?_
    refine bs_get hC (v := .ref (bd_a ε 1)) hin_X9 0 (cX_o0 ε S6) rfl 0 (by decide) mw_206 rfl dX9_can_34 ?_
    refine bs_callVN_v hC (rm := ({ frames := 5, cells := 0, slots := 0, locals := 127 } : Room)) [.ref (bd_a ε 1)] [] (fun h => c_X0_learn (bd_l Γ) (bd_D Γ) ε S6 h) mw_339 nm_27 mw_338 mw_77 mw_19 (cX_o4 ε S6) rfl by_X0_learn ⟨rfl, rfl, by decide, by decide⟩ rfl rfl (Nat.le_of_ble_eq_true rfl) dX9_can_37 (fun r7 S8 eS8 => ?_)
    refine bs_aload_n hC 1 dX9_can_40 rfl rfl ?_
    refine bs_get hC (v := .ref (bd_a ε 4)) hin_X9 0 (cX_o0 ε S8) rfl 7 (by decide) mw_213 rfl dX9_can_41 ?_
    refine bs_aload_n hC 1 dX9_can_44 rfl rfl ?_
    refine bs_get hC (v := .ref (bd_a ε 1)) hin_X9 0 (cX_o0 ε S8) rfl 0 (by decide) mw_206 rfl dX9_can_45 ?_
    refine bs_iload_n hC 2 dX9_can_48 rfl rfl ?_
    refine bs_iload_n hC 3 dX9_can_49 rfl rfl ?_
    refine bs_callVN_i hC (rm := ({ frames := 1, cells := 0, slots := 0, locals := 21 } : Room)) [.ref (bd_a ε 1), .int x1, .int x2] [] (fun h => c_X0_speaking (bd_l Γ) (bd_D Γ) ε x1 x2 S8 h) mw_350 nm_31 mw_349 mw_77 mw_23 (cX_o4 ε S8) rfl by_X0_speaking ⟨rfl, rfl, by decide, by decide⟩ rfl rfl (Nat.le_of_ble_eq_true rfl) dX9_can_50 (fun r9 S10 eS10 => ?_)
    refine bs_if_ne hC 60 dX9_can_53 (by decide) (fun c11 => ?_) (fun c11 => ?_)
    · refine bs_iconst hC (1 : Int32) dX9_can_56 rfl ?_
      refine bs_goto hC 61 dX9_can_57 (by decide) ?_
      exact bs_iret hC dX9_can_61 rfl
    refine bs_iconst hC (0 : Int32) dX9_can_60 rfl ?_
    exact bs_iret hC dX9_can_61 rfl
  refine bs_aload_n hC 1 dX9_can_23 rfl rfl ?_
  refine bs_iload_n hC 0 dX9_can_24 rfl rfl ?_
  refine bs_callV_i hC (rm := ({ frames := 1, cells := 0, slots := 0, locals := 22 } : Room)) [.int r5] [] (fun h => c_X9_refuse (bd_l Γ) (bd_D Γ) ε r5 S6 h) mw_234 mw_232 mw_233 mw_72 mw_0 (cX_o0 ε S6) rfl by_X9_refuse ⟨rfl, rfl, by decide, by decide⟩ rfl rfl (Nat.le_of_ble_eq_true rfl) dX9_can_25 (fun r12 S13 eS13 => ?_)
  exact bs_iret hC dX9_can_28 rfl
theorem c_X9_can (l : Launch) (D : va_G) (ε : bd_E) (x1 : Int32) (x2 : Int32)  (S : bd_T) (h0 : (f_X9_can x1 x2 S).isSome = true) : bd_Con l yX9_can (Cond.code yX9_can cX9_can 4 (some .int) :: bd_tbl) ({ frames := 6, cells := 0, slots := 0, locals := 149 } : Room) D ε (cX ε) bd_vi [.ref (bd_a ε 0), .int x1, .int x2] S (f_X9_can x1 x2 S) :=
  bd_con (by decide +kernel) (Nat.le_of_ble_eq_true rfl) ⟨rfl, rfl⟩ h0 (fun Γ _ _ hC => bs_eq bs_bs (b_X9_can hC x1 x2 S))
set_option maxRecDepth 100000 in
set_option maxHeartbeats 4000000 in
theorem b_X9_lay_ {Γ : bd_G} {ε : bd_E} {t0 : Option (Unit × bd_T)} (hC : bd_C Γ cX9_lay_ 4 RX9 none ({ frames := 0, cells := 0, slots := 0, locals := 0 } : Room) ε (cX ε) bd_vv t0) (k0 : Nat) (x1 : Int32) (x2 : Int64) (hk0 : k0 < 3) (S : bd_T) : bd_S Γ 4 t0 ((f_X9_lay_ k0 x1 x2 S).bind some) (cX ε S) 0 [(0, .ref (bd_a ε (43 + k0))), (1, .int x1), (2, .long x2)] [] := by
  unfold f_X9_lay_
  refine bs_iload_n hC 1 dX9_lay__0 rfl rfl ?_
  refine bs_if_lt hC 14 dX9_lay__1 (by decide) (fun c3 => ?_) (fun c3 => ?_)
  · exact bs_vret hC dX9_lay__14 rfl
  refine bs_iload_n hC 1 dX9_lay__4 rfl rfl ?_
  refine bs_aload_n hC 0 dX9_lay__5 rfl rfl ?_
  refine bs_alenJ hC _ (cX_gj ε S k0 (cX_ljn k0) hk0 rfl) (v := (Int32.ofNat (cX_ljn k0))) rfl dX9_lay__6 ?_
  refine bs_icmp_ge hC 14 dX9_lay__7 (by decide) (fun c2 => ?_) (fun c2 => ?_)
  · exact bs_vret hC dX9_lay__14 rfl
  refine bs_aload_n hC 0 dX9_lay__10 rfl rfl ?_
  refine bs_iload_n hC 1 dX9_lay__11 rfl rfl ?_
  refine bs_lload_n hC 2 dX9_lay__12 rfl rfl ?_
  refine bs_last hC _ (cX_gj ε S k0 (cX_ljn k0) hk0 rfl) (cX_sj ε S k0 (cX_ljn k0) hk0 rfl _) dX9_lay__13 (fun S1 eS1 => ?_)
  exact bs_vret hC dX9_lay__14 rfl
theorem c_X9_lay_ (l : Launch) (D : va_G) (ε : bd_E) (k0 : Nat) (x1 : Int32) (x2 : Int64) (hk0 : k0 < 3) (S : bd_T) (h0 : (f_X9_lay_ k0 x1 x2 S).isSome = true) : bd_Con l yX9_lay_ (Cond.code yX9_lay_ cX9_lay_ 4 none :: bd_tbl) ({ frames := 0, cells := 0, slots := 0, locals := 0 } : Room) D ε (cX ε) bd_vv [.ref (bd_a ε (43 + k0)), .int x1, .long x2] S (f_X9_lay_ k0 x1 x2 S) :=
  bd_con (by decide +kernel) (Nat.le_of_ble_eq_true rfl) ⟨rfl, rfl⟩ h0 (fun Γ _ _ hC => bs_eq bs_bs (b_X9_lay_ hC k0 x1 x2 hk0 S))
set_option maxRecDepth 100000 in
set_option maxHeartbeats 4000000 in
theorem b_X2_set {Γ : bd_G} {ε : bd_E} {t0 : Option (Unit × bd_T)} (hC : bd_C Γ cX2_set 5 RX2 none ({ frames := 1, cells := 0, slots := 0, locals := 23 } : Room) ε (cX ε) bd_vv t0) (x1 : Int32) (x2 : Int32) (x3 : Int64)  (S : bd_T) : bd_S Γ 5 t0 ((f_X2_set x1 x2 x3 S).bind some) (cX ε S) 0 [(0, .ref (bd_a ε 5)), (1, .int x1), (2, .int x2), (3, .long x3)] [] := by
  unfold f_X2_set
  refine bs_aload_n hC 0 dX2_set_0 rfl rfl ?_
  refine bs_get hC (v := .ref (bd_a ε (43 + 0))) hin_X2 5 (cX_o5 ε S) rfl 0 (by decide) mw_184 rfl dX2_set_1 ?_
  refine bs_iload_n hC 1 dX2_set_4 rfl rfl ?_
  refine bs_sipush hC (300 : Int32) dX2_set_5 rfl ?_
  refine bs_imul hC dX2_set_8 ?_
  refine bs_iload_n hC 2 dX2_set_9 rfl rfl ?_
  refine bs_iadd hC dX2_set_10 ?_
  refine bs_lload_n hC 3 dX2_set_11 rfl rfl ?_
  refine bs_callSN_v hC (rm := ({ frames := 0, cells := 0, slots := 0, locals := 0 } : Room)) [.ref (bd_a ε (43 + 0)), .int ((x1 * (300 : Int32)) + x2), .long x3] [] (fun h => c_X9_lay_ (bd_l Γ) (bd_D Γ) ε 0 ((x1 * (300 : Int32)) + x2) x3 (by decide) S h) mw_368 nm_33 mw_367 mw_72 by_X9_lay_ ⟨rfl, rfl, by decide, by decide⟩ rfl rfl (Nat.le_of_ble_eq_true rfl) dX2_set_12 (fun r1 S2 eS2 => ?_)
  exact bs_vret hC dX2_set_15 rfl
theorem c_X2_set (l : Launch) (D : va_G) (ε : bd_E) (x1 : Int32) (x2 : Int32) (x3 : Int64)  (S : bd_T) (h0 : (f_X2_set x1 x2 x3 S).isSome = true) : bd_Con l yX2_set (Cond.code yX2_set cX2_set 5 none :: bd_tbl) ({ frames := 1, cells := 0, slots := 0, locals := 23 } : Room) D ε (cX ε) bd_vv [.ref (bd_a ε 5), .int x1, .int x2, .long x3] S (f_X2_set x1 x2 x3 S) :=
  bd_con (by decide +kernel) (Nat.le_of_ble_eq_true rfl) ⟨rfl, rfl⟩ h0 (fun Γ _ _ hC => bs_eq bs_bs (b_X2_set hC x1 x2 x3 S))
set_option maxRecDepth 100000 in
set_option maxHeartbeats 4000000 in
theorem lb_X9_setCounts_18 {Γ : bd_G} {ε : bd_E} {t0 : Option (Unit × bd_T)} (hC : bd_C Γ cX9_setCounts 5 RX9 none ({ frames := 2, cells := 0, slots := 0, locals := 47 } : Room) ε (cX ε) bd_vv t0) (p1 : Int32) (p2 : Int32) {K : (Int32 × bd_T) ⊕ (bd_T) → Option (Unit × bd_T)} (hk : ∀ (x3 : Int32) (S : bd_T), bd_S Γ 5 t0 (K (.inl (x3, S))) (cX ε S) 18 [(0, .ref (bd_a ε 0)), (1, .int p1), (2, .int p2), (3, .int x3)] []) (hx : ∀ (S : bd_T), bd_S Γ 5 t0 (K (.inr S)) (cX ε S) 78 [(0, .ref (bd_a ε 0)), (1, .int p1), (2, .int p2)] []) (x3 : Int32) (S : bd_T) : bd_S Γ 5 t0 ((fb_X9_setCounts_18 p1 p2 x3 S).bind K) (cX ε S) 18 [(0, .ref (bd_a ε 0)), (1, .int p1), (2, .int p2), (3, .int x3)] [] := by
  unfold fb_X9_setCounts_18
  refine bs_iload_n hC 3 dX9_setCounts_18 rfl rfl ?_
  refine bs_sipush hC (300 : Int32) dX9_setCounts_19 rfl ?_
  refine bs_icmp_ge hC 78 dX9_setCounts_22 (by decide) (fun c11 => ?_) (fun c11 => ?_)
  · refine bs_some ?_
    refine bs_pick [0, 1, 2] rfl ?_
    exact hx S
  refine bs_iload_n hC 2 dX9_setCounts_25 rfl rfl ?_
  refine bs_iload_n hC 1 dX9_setCounts_26 rfl rfl ?_
  refine bs_icmp_eq hC 46 dX9_setCounts_27 (by decide) (fun c10 => ?_) (fun c10 => ?_)
  · refine bs_iconst hC (1 : Int32) dX9_setCounts_46 rfl ?_
    refine bs_goto hC 51 dX9_setCounts_47 (by decide) ?_
    refine bs_istore hC [(4, .int (1 : Int32)), (0, .ref (bd_a ε 0)), (1, .int p1), (2, .int p2), (3, .int x3)] dX9_setCounts_51 (by decide) rfl ?_
    refine bs_aload_n hC 1 dX9_setCounts_53 rfl rfl ?_
    refine bs_get hC (v := .ref (bd_a ε 5)) hin_X9 0 (cX_o0 ε S) rfl 8 (by decide) mw_214 rfl dX9_setCounts_54 ?_
    refine bs_iload_n hC 3 dX9_setCounts_57 rfl rfl ?_
    refine bs_iload_n hC 4 dX9_setCounts_58 rfl rfl ?_
    refine bs_iload hC 0 dX9_setCounts_59 rfl ?_
    refine bs_if_eqF hC 68 dX9_setCounts_61 (by decide) (by decide) ?_
    refine bs_lconst hC (1 : Int64) dX9_setCounts_64 rfl ?_
    refine bs_goto hC 69 dX9_setCounts_65 (by decide) ?_
    refine bs_callVN_v hC (rm := ({ frames := 1, cells := 0, slots := 0, locals := 23 } : Room)) [.int p2, .int x3, .long (1 : Int64)] [] (fun h => c_X2_set (bd_l Γ) (bd_D Γ) ε p2 x3 (1 : Int64) S h) mw_366 nm_32 mw_365 mw_78 mw_26 (cX_o5 ε S) rfl by_X2_set ⟨rfl, rfl, by decide, by decide⟩ rfl rfl (Nat.le_of_ble_eq_true rfl) dX9_setCounts_69 (fun r1 S2 eS2 => ?_)
    refine bs_iinc hC 4 [(3, .int (x3 + 1)), (4, .int (1 : Int32)), (0, .ref (bd_a ε 0)), (1, .int p1), (2, .int p2)] dX9_setCounts_72 rfl rfl (by decide) rfl ?_
    refine bs_goto hC 18 dX9_setCounts_75 (by decide) ?_
    refine bs_some ?_
    refine bs_pick [2, 3, 4, 0] rfl ?_
    exact hk (x3 + 1) S2
  refine bs_aload_n hC 0 dX9_setCounts_30 rfl rfl ?_
  refine bs_get hC (v := .ref (bd_a ε 4)) hin_X9 0 (cX_o0 ε S) rfl 7 (by decide) mw_213 rfl dX9_setCounts_31 ?_
  refine bs_aload_n hC 0 dX9_setCounts_34 rfl rfl ?_
  refine bs_get hC (v := .ref (bd_a ε 1)) hin_X9 0 (cX_o0 ε S) rfl 0 (by decide) mw_206 rfl dX9_setCounts_35 ?_
  refine bs_iload_n hC 2 dX9_setCounts_38 rfl rfl ?_
  refine bs_iload_n hC 3 dX9_setCounts_39 rfl rfl ?_
  refine bs_callVN_i hC (rm := ({ frames := 1, cells := 0, slots := 0, locals := 21 } : Room)) [.ref (bd_a ε 1), .int p2, .int x3] [] (fun h => c_X0_speaking (bd_l Γ) (bd_D Γ) ε p2 x3 S h) mw_350 nm_31 mw_349 mw_77 mw_23 (cX_o4 ε S) rfl by_X0_speaking ⟨rfl, rfl, by decide, by decide⟩ rfl rfl (Nat.le_of_ble_eq_true rfl) dX9_setCounts_40 (fun r3 S4 eS4 => ?_)
  refine bs_if_ne hC 50 dX9_setCounts_43 (by decide) (fun c9 => ?_) (fun c9 => ?_)
  · refine bs_iconst hC (1 : Int32) dX9_setCounts_46 rfl ?_
    refine bs_goto hC 51 dX9_setCounts_47 (by decide) ?_
    refine bs_istore hC [(4, .int (1 : Int32)), (0, .ref (bd_a ε 0)), (1, .int p1), (2, .int p2), (3, .int x3)] dX9_setCounts_51 (by decide) rfl ?_
    refine bs_aload_n hC 1 dX9_setCounts_53 rfl rfl ?_
    refine bs_get hC (v := .ref (bd_a ε 5)) hin_X9 0 (cX_o0 ε S4) rfl 8 (by decide) mw_214 rfl dX9_setCounts_54 ?_
    refine bs_iload_n hC 3 dX9_setCounts_57 rfl rfl ?_
    refine bs_iload_n hC 4 dX9_setCounts_58 rfl rfl ?_
    refine bs_iload hC 0 dX9_setCounts_59 rfl ?_
    refine bs_if_eqF hC 68 dX9_setCounts_61 (by decide) (by decide) ?_
    refine bs_lconst hC (1 : Int64) dX9_setCounts_64 rfl ?_
    refine bs_goto hC 69 dX9_setCounts_65 (by decide) ?_
    refine bs_callVN_v hC (rm := ({ frames := 1, cells := 0, slots := 0, locals := 23 } : Room)) [.int p2, .int x3, .long (1 : Int64)] [] (fun h => c_X2_set (bd_l Γ) (bd_D Γ) ε p2 x3 (1 : Int64) S4 h) mw_366 nm_32 mw_365 mw_78 mw_26 (cX_o5 ε S4) rfl by_X2_set ⟨rfl, rfl, by decide, by decide⟩ rfl rfl (Nat.le_of_ble_eq_true rfl) dX9_setCounts_69 (fun r5 S6 eS6 => ?_)
    refine bs_iinc hC 4 [(3, .int (x3 + 1)), (4, .int (1 : Int32)), (0, .ref (bd_a ε 0)), (1, .int p1), (2, .int p2)] dX9_setCounts_72 rfl rfl (by decide) rfl ?_
    refine bs_goto hC 18 dX9_setCounts_75 (by decide) ?_
    refine bs_some ?_
    refine bs_pick [2, 3, 4, 0] rfl ?_
    exact hk (x3 + 1) S6
  refine bs_iconst hC (0 : Int32) dX9_setCounts_50 rfl ?_
  refine bs_istore hC [(4, .int (0 : Int32)), (0, .ref (bd_a ε 0)), (1, .int p1), (2, .int p2), (3, .int x3)] dX9_setCounts_51 (by decide) rfl ?_
  refine bs_aload_n hC 1 dX9_setCounts_53 rfl rfl ?_
  refine bs_get hC (v := .ref (bd_a ε 5)) hin_X9 0 (cX_o0 ε S4) rfl 8 (by decide) mw_214 rfl dX9_setCounts_54 ?_
  refine bs_iload_n hC 3 dX9_setCounts_57 rfl rfl ?_
  refine bs_iload_n hC 4 dX9_setCounts_58 rfl rfl ?_
  refine bs_iload hC 0 dX9_setCounts_59 rfl ?_
  refine bs_if_eqT hC 68 dX9_setCounts_61 (by decide) (by decide) ?_
  refine bs_lconst hC (0 : Int64) dX9_setCounts_68 rfl ?_
  refine bs_callVN_v hC (rm := ({ frames := 1, cells := 0, slots := 0, locals := 23 } : Room)) [.int p2, .int x3, .long (0 : Int64)] [] (fun h => c_X2_set (bd_l Γ) (bd_D Γ) ε p2 x3 (0 : Int64) S4 h) mw_366 nm_32 mw_365 mw_78 mw_26 (cX_o5 ε S4) rfl by_X2_set ⟨rfl, rfl, by decide, by decide⟩ rfl rfl (Nat.le_of_ble_eq_true rfl) dX9_setCounts_69 (fun r7 S8 eS8 => ?_)
  refine bs_iinc hC 4 [(3, .int (x3 + 1)), (4, .int (0 : Int32)), (0, .ref (bd_a ε 0)), (1, .int p1), (2, .int p2)] dX9_setCounts_72 rfl rfl (by decide) rfl ?_
  refine bs_goto hC 18 dX9_setCounts_75 (by decide) ?_
  refine bs_some ?_
  refine bs_pick [2, 3, 4, 0] rfl ?_
  exact hk (x3 + 1) S8
set_option maxRecDepth 100000 in
set_option maxHeartbeats 4000000 in
theorem lb_X9_setCounts_2 {Γ : bd_G} {ε : bd_E} {t0 : Option (Unit × bd_T)} (hC : bd_C Γ cX9_setCounts 5 RX9 none ({ frames := 2, cells := 0, slots := 0, locals := 47 } : Room) ε (cX ε) bd_vv t0) (p1 : Int32) {K : (Int32 × bd_T) ⊕ (bd_T) → Option (Unit × bd_T)} (hk : ∀ (x2 : Int32) (S : bd_T), bd_S Γ 5 t0 (K (.inl (x2, S))) (cX ε S) 2 [(0, .ref (bd_a ε 0)), (1, .int p1), (2, .int x2)] []) (hx : ∀ (S : bd_T), bd_S Γ 5 t0 (K (.inr S)) (cX ε S) 84 [] []) (x2 : Int32) (S : bd_T) : bd_S Γ 5 t0 ((fb_X9_setCounts_2 p1 x2 S).bind K) (cX ε S) 2 [(0, .ref (bd_a ε 0)), (1, .int p1), (2, .int x2)] [] := by
  unfold fb_X9_setCounts_2
  refine bs_iload_n hC 2 dX9_setCounts_2 rfl rfl ?_
  refine bs_aload_n hC 0 dX9_setCounts_3 rfl rfl ?_
  refine bs_get hC (v := .ref (bd_a ε 1)) hin_X9 0 (cX_o0 ε S) rfl 0 (by decide) mw_206 rfl dX9_setCounts_4 ?_
  refine bs_getN hC (v := .ref (bd_a ε 8)) hin_X8 1 (cX_o1 ε S) rfl 0 (by decide) nf_18 rfl dX9_setCounts_7 ?_
  refine bs_getN hC (v := .int (bd_I S 17)) hin_X7 8 (cX_o8 ε S) rfl 0 (by decide) nf_0 rfl dX9_setCounts_10 ?_
  refine bs_icmp_ge hC 84 dX9_setCounts_13 (by decide) (fun c13 => ?_) (fun c13 => ?_)
  · refine bs_some ?_
    refine bs_pick [] rfl ?_
    exact hx S
  refine bs_iconst hC (0 : Int32) dX9_setCounts_16 rfl ?_
  refine bs_istore_n hC [(3, .int (0 : Int32)), (0, .ref (bd_a ε 0)), (1, .int p1), (2, .int x2)] dX9_setCounts_17 rfl (by decide) rfl ?_
  refine bs_pick [1, 2, 3, 0] rfl ?_
  refine bs_loopK (fun (q : Int32 × bd_T) t => bd_S Γ 5 t0 t (cX ε (q.2)) 18 [(0, .ref (bd_a ε 0)), (1, .int p1), (2, .int x2), (3, .int (q.1))] []) (fun (q : bd_T) t => bd_S Γ 5 t0 t (cX ε (q)) 78 [(0, .ref (bd_a ε 0)), (1, .int p1), (2, .int x2)] []) (fun q => fb_X9_setCounts_18 p1 x2 q.1 q.2) (fun _ => bs_none) (fun K hk hx q => lb_X9_setCounts_18 hC   p1 x2 (fun a0 S => hk (a0, S)) (fun  S => hx (S))  (q.1) (q.2)) (fun r => ?_) bd_K ((0 : Int32), S)
  obtain ⟨S12, rfl⟩ : ∃ z, z = r := ⟨_, rfl⟩
  show bd_S Γ 5 t0 (Option.bind _ _) (cX ε S12) 78 [(0, .ref (bd_a ε 0)), (1, .int p1), (2, .int x2)] []
  try dsimp only
  refine bs_iinc hC 2 [(2, .int (x2 + 1)), (0, .ref (bd_a ε 0)), (1, .int p1)] dX9_setCounts_78 rfl rfl (by decide) rfl ?_
  refine bs_goto hC 2 dX9_setCounts_81 (by decide) ?_
  refine bs_some ?_
  refine bs_pick [1, 2, 0] rfl ?_
  exact hk (x2 + 1) S12
set_option maxRecDepth 100000 in
set_option maxHeartbeats 4000000 in
theorem b_X9_setCounts {Γ : bd_G} {ε : bd_E} {t0 : Option (Unit × bd_T)} (hC : bd_C Γ cX9_setCounts 5 RX9 none ({ frames := 2, cells := 0, slots := 0, locals := 47 } : Room) ε (cX ε) bd_vv t0) (x1 : Int32)  (S : bd_T) : bd_S Γ 5 t0 ((f_X9_setCounts x1 S).bind some) (cX ε S) 0 [(0, .ref (bd_a ε 0)), (1, .int x1)] [] := by
  unfold f_X9_setCounts
  refine bs_iconst hC (0 : Int32) dX9_setCounts_0 rfl ?_
  refine bs_istore_n hC [(2, .int (0 : Int32)), (0, .ref (bd_a ε 0)), (1, .int x1)] dX9_setCounts_1 rfl (by decide) rfl ?_
  refine bs_pick [1, 2, 0] rfl ?_
  refine bs_loopK (fun (q : Int32 × bd_T) t => bd_S Γ 5 t0 t (cX ε (q.2)) 2 [(0, .ref (bd_a ε 0)), (1, .int x1), (2, .int (q.1))] []) (fun (q : bd_T) t => bd_S Γ 5 t0 t (cX ε (q)) 84 [] []) (fun q => fb_X9_setCounts_2 x1 q.1 q.2) (fun _ => bs_none) (fun K hk hx q => lb_X9_setCounts_2 hC   x1 (fun a0 S => hk (a0, S)) (fun  S => hx (S))  (q.1) (q.2)) (fun r => ?_) bd_K ((0 : Int32), S)
  obtain ⟨S14, rfl⟩ : ∃ z, z = r := ⟨_, rfl⟩
  show bd_S Γ 5 t0 (Option.bind _ _) (cX ε S14) 84 [] []
  try dsimp only
  exact bs_vret hC dX9_setCounts_84 rfl
theorem c_X9_setCounts (l : Launch) (D : va_G) (ε : bd_E) (x1 : Int32)  (S : bd_T) (h0 : (f_X9_setCounts x1 S).isSome = true) : bd_Con l yX9_setCounts (Cond.code yX9_setCounts cX9_setCounts 5 none :: bd_tbl) ({ frames := 2, cells := 0, slots := 0, locals := 47 } : Room) D ε (cX ε) bd_vv [.ref (bd_a ε 0), .int x1] S (f_X9_setCounts x1 S) :=
  bd_con (by decide +kernel) (Nat.le_of_ble_eq_true rfl) ⟨rfl, rfl⟩ h0 (fun Γ _ _ hC => bs_eq bs_bs (b_X9_setCounts hC x1 S))
set_option maxRecDepth 100000 in
set_option maxHeartbeats 4000000 in
theorem lb_X2_findPath_7 {Γ : bd_G} {ε : bd_E} {t0 : Option (Unit × bd_T)} (hC : bd_C Γ cX2_findPath 4 RX2 none ({ frames := 1, cells := 0, slots := 0, locals := 22 } : Room) ε (cX ε) bd_vv t0)  {K : (Int32 × bd_T) ⊕ (bd_T) → Option (Unit × bd_T)} (hk : ∀ (x3 : Int32) (S : bd_T), bd_S Γ 4 t0 (K (.inl (x3, S))) (cX ε S) 7 [(0, .ref (bd_a ε 5)), (1, .ref (bd_a ε 8)), (3, .int x3)] []) (hx : ∀ (S : bd_T), bd_S Γ 4 t0 (K (.inr S)) (cX ε S) 54 [] []) (x3 : Int32) (S : bd_T) : bd_S Γ 4 t0 ((fb_X2_findPath_7 x3 S).bind K) (cX ε S) 7 [(0, .ref (bd_a ε 5)), (1, .ref (bd_a ε 8)), (3, .int x3)] [] := by
  unfold fb_X2_findPath_7
  refine bs_iload_n hC 2 dX2_findPath_7 rfl rfl ?_
  refine bs_if_lt hC 54 dX2_findPath_8 (by decide) (fun c8 => ?_) (fun c8 => ?_)
  · refine bs_some ?_
    refine bs_pick [] rfl ?_
    exact hx S
  refine bs_aload_n hC 0 dX2_findPath_11 rfl rfl ?_
  refine bs_get hC (v := .int (bd_I S 16)) hin_X2 5 (cX_o5 ε S) rfl 2 (by decide) mw_186 rfl dX2_findPath_12 ?_
  refine bs_bipush hC (6 : Int32) dX2_findPath_15 rfl ?_
  refine bs_icmp_ge hC 54 dX2_findPath_17 (by decide) (fun c7 => ?_) (fun c7 => ?_)
  · refine bs_some ?_
    refine bs_pick [] rfl ?_
    exact hx S
  refine bs_aload_n hC 0 dX2_findPath_20 rfl rfl ?_
  refine bs_get hC (v := .ref (bd_a ε (12 + 10))) hin_X2 5 (cX_o5 ε S) rfl 1 (by decide) mw_185 rfl dX2_findPath_21 ?_
  refine bs_aload_n hC 0 dX2_findPath_24 rfl rfl ?_
  refine bs_get hC (v := .int (bd_I S 16)) hin_X2 5 (cX_o5 ε S) rfl 2 (by decide) mw_186 rfl dX2_findPath_25 ?_
  refine bs_iload_n hC 2 dX2_findPath_28 rfl rfl ?_
  refine bs_callSN_v hC (rm := ({ frames := 0, cells := 0, slots := 0, locals := 0 } : Room)) [.ref (bd_a ε (12 + 10)), .int (bd_I S 16), .int x3] [] (fun h => c_X9_lay (bd_l Γ) (bd_D Γ) ε 10 (bd_I S 16) x3 (by decide) S h) mw_240 nm_35 mw_239 mw_72 by_X9_lay ⟨rfl, rfl, by decide, by decide⟩ rfl rfl (Nat.le_of_ble_eq_true rfl) dX2_findPath_29 (fun r2 S3 eS3 => ?_)
  refine bs_aload_n hC 0 dX2_findPath_32 rfl rfl ?_
  refine bs_dup hC dX2_findPath_33 rfl ?_
  refine bs_get hC (v := .int (bd_I S3 16)) hin_X2 5 (cX_o5 ε S3) rfl 2 (by decide) mw_186 rfl dX2_findPath_34 ?_
  refine bs_iconst hC (1 : Int32) dX2_findPath_37 rfl ?_
  refine bs_iadd hC dX2_findPath_38 ?_
  refine bs_put hC (kk := 16) hin_X2 tyX2 tyX2_ok nmX2 5 (cX_o5 ε S3) rfl 2 (by decide) mw_186 rfl rfl rfl (Nat.le_of_ble_eq_true rfl) (cX_p16 ε S3 _) dX2_findPath_39 (fun S4 eS4 => ?_)
  refine bs_aload_n hC 1 dX2_findPath_42 rfl rfl ?_
  refine bs_getN hC (v := .ref (bd_a ε (12 + 14))) hin_X7 8 (cX_o8 ε S4) rfl 4 (by decide) nf_8 rfl dX2_findPath_43 ?_
  refine bs_iload_n hC 2 dX2_findPath_46 rfl rfl ?_
  refine bs_callSN_i hC (rm := ({ frames := 0, cells := 0, slots := 0, locals := 0 } : Room)) [.ref (bd_a ε (12 + 14)), .int x3] [] (fun h => c_X9_at (bd_l Γ) (bd_D Γ) ε 14 x3 (by decide) S4 h) mw_237 nm_36 mw_236 mw_72 by_X9_at ⟨rfl, rfl, by decide, by decide⟩ rfl rfl (Nat.le_of_ble_eq_true rfl) dX2_findPath_47 (fun r5 S6 eS6 => ?_)
  refine bs_istore_n hC [(3, .int r5), (0, .ref (bd_a ε 5)), (1, .ref (bd_a ε 8))] dX2_findPath_50 rfl (by decide) rfl ?_
  refine bs_goto hC 7 dX2_findPath_51 (by decide) ?_
  refine bs_some ?_
  refine bs_pick [1, 2, 0] rfl ?_
  exact hk r5 S6
set_option maxRecDepth 100000 in
set_option maxHeartbeats 4000000 in
theorem b_X2_findPath {Γ : bd_G} {ε : bd_E} {t0 : Option (Unit × bd_T)} (hC : bd_C Γ cX2_findPath 4 RX2 none ({ frames := 1, cells := 0, slots := 0, locals := 22 } : Room) ε (cX ε) bd_vv t0) (x2 : Int32)  (S : bd_T) : bd_S Γ 4 t0 ((f_X2_findPath x2 S).bind some) (cX ε S) 0 [(0, .ref (bd_a ε 5)), (1, .ref (bd_a ε 8)), (2, .int x2)] [] := by
  unfold f_X2_findPath
  refine bs_aload_n hC 0 dX2_findPath_0 rfl rfl ?_
  refine bs_iconst hC (0 : Int32) dX2_findPath_1 rfl ?_
  refine bs_put hC (kk := 16) hin_X2 tyX2 tyX2_ok nmX2 5 (cX_o5 ε S) rfl 2 (by decide) mw_186 rfl rfl rfl (Nat.le_of_ble_eq_true rfl) (cX_p16 ε S _) dX2_findPath_2 (fun S1 eS1 => ?_)
  refine bs_iload_n hC 2 dX2_findPath_5 rfl rfl ?_
  refine bs_istore_n hC [(3, .int x2), (0, .ref (bd_a ε 5)), (1, .ref (bd_a ε 8)), (2, .int x2)] dX2_findPath_6 rfl (by decide) rfl ?_
  refine bs_pick [1, 2, 0] rfl ?_
  refine bs_loopK (fun (q : Int32 × bd_T) t => bd_S Γ 4 t0 t (cX ε (q.2)) 7 [(0, .ref (bd_a ε 5)), (1, .ref (bd_a ε 8)), (3, .int (q.1))] []) (fun (q : bd_T) t => bd_S Γ 4 t0 t (cX ε (q)) 54 [] []) (fun q => fb_X2_findPath_7 q.1 q.2) (fun _ => bs_none) (fun K hk hx q => lb_X2_findPath_7 hC    (fun a0 S => hk (a0, S)) (fun  S => hx (S))  (q.1) (q.2)) (fun r => ?_) bd_K (x2, S1)
  obtain ⟨S9, rfl⟩ : ∃ z, z = r := ⟨_, rfl⟩
  show bd_S Γ 4 t0 (Option.bind _ _) (cX ε S9) 54 [] []
  try dsimp only
  exact bs_vret hC dX2_findPath_54 rfl
theorem c_X2_findPath (l : Launch) (D : va_G) (ε : bd_E) (x2 : Int32)  (S : bd_T) (h0 : (f_X2_findPath x2 S).isSome = true) : bd_Con l yX2_findPath (Cond.code yX2_findPath cX2_findPath 4 none :: bd_tbl) ({ frames := 1, cells := 0, slots := 0, locals := 22 } : Room) D ε (cX ε) bd_vv [.ref (bd_a ε 5), .ref (bd_a ε 8), .int x2] S (f_X2_findPath x2 S) :=
  bd_con (by decide +kernel) (Nat.le_of_ble_eq_true rfl) ⟨rfl, rfl⟩ h0 (fun Γ _ _ hC => bs_eq bs_bs (b_X2_findPath hC x2 S))
set_option maxRecDepth 100000 in
set_option maxHeartbeats 4000000 in
theorem lb_X2_onPath_2 {Γ : bd_G} {ε : bd_E} {t0 : Option (Int32 × bd_T)} (hC : bd_C Γ cX2_onPath 3 RX2 (some .boolean) ({ frames := 1, cells := 0, slots := 0, locals := 21 } : Room) ε (cX ε) bd_vi t0) (p1 : Int32) {K : (Int32 × bd_T) ⊕ ((Int32 × bd_T) ⊕ (bd_T)) → Option (Int32 × bd_T)} (hk : ∀ (x2 : Int32) (S : bd_T), bd_S Γ 3 t0 (K (.inl (x2, S))) (cX ε S) 2 [(0, .ref (bd_a ε 5)), (1, .int p1), (2, .int x2)] []) (hx : ∀ (S : bd_T), bd_S Γ 3 t0 (K (.inr (.inr S))) (cX ε S) 30 [] []) (hr : ∀ z, K (.inr (.inl z)) = some z) (x2 : Int32) (S : bd_T) : bd_S Γ 3 t0 ((fb_X2_onPath_2 p1 x2 S).bind K) (cX ε S) 2 [(0, .ref (bd_a ε 5)), (1, .int p1), (2, .int x2)] [] := by
  unfold fb_X2_onPath_2
  refine bs_iload_n hC 2 dX2_onPath_2 rfl rfl ?_
  refine bs_aload_n hC 0 dX2_onPath_3 rfl rfl ?_
  refine bs_get hC (v := .int (bd_I S 16)) hin_X2 5 (cX_o5 ε S) rfl 2 (by decide) mw_186 rfl dX2_onPath_4 ?_
  refine bs_icmp_ge hC 30 dX2_onPath_7 (by decide) (fun c4 => ?_) (fun c4 => ?_)
  · refine bs_some ?_
    refine bs_pick [] rfl ?_
    exact hx S
  refine bs_aload_n hC 0 dX2_onPath_10 rfl rfl ?_
  refine bs_get hC (v := .ref (bd_a ε (12 + 10))) hin_X2 5 (cX_o5 ε S) rfl 1 (by decide) mw_185 rfl dX2_onPath_11 ?_
  refine bs_iload_n hC 2 dX2_onPath_14 rfl rfl ?_
  refine bs_callSN_i hC (rm := ({ frames := 0, cells := 0, slots := 0, locals := 0 } : Room)) [.ref (bd_a ε (12 + 10)), .int x2] [] (fun h => c_X9_at (bd_l Γ) (bd_D Γ) ε 10 x2 (by decide) S h) mw_237 nm_36 mw_236 mw_72 by_X9_at ⟨rfl, rfl, by decide, by decide⟩ rfl rfl (Nat.le_of_ble_eq_true rfl) dX2_onPath_15 (fun r1 S2 eS2 => ?_)
  refine bs_iload_n hC 1 dX2_onPath_18 rfl rfl ?_
  refine bs_icmp_ne hC 24 dX2_onPath_19 (by decide) (fun c3 => ?_) (fun c3 => ?_)
  · refine bs_iconst hC (1 : Int32) dX2_onPath_22 rfl ?_
    exact bs_zret hC dX2_onPath_23 rfl (hr _)
  refine bs_iinc hC 2 [(2, .int (x2 + 1)), (0, .ref (bd_a ε 5)), (1, .int p1)] dX2_onPath_24 rfl rfl (by decide) rfl ?_
  refine bs_goto hC 2 dX2_onPath_27 (by decide) ?_
  refine bs_some ?_
  refine bs_pick [1, 2, 0] rfl ?_
  exact hk (x2 + 1) S2
set_option maxRecDepth 100000 in
set_option maxHeartbeats 4000000 in
theorem b_X2_onPath {Γ : bd_G} {ε : bd_E} {t0 : Option (Int32 × bd_T)} (hC : bd_C Γ cX2_onPath 3 RX2 (some .boolean) ({ frames := 1, cells := 0, slots := 0, locals := 21 } : Room) ε (cX ε) bd_vi t0) (x1 : Int32)  (S : bd_T) : bd_S Γ 3 t0 ((f_X2_onPath x1 S).bind some) (cX ε S) 0 [(0, .ref (bd_a ε 5)), (1, .int x1)] [] := by
  unfold f_X2_onPath
  refine bs_iconst hC (0 : Int32) dX2_onPath_0 rfl ?_
  refine bs_istore_n hC [(2, .int (0 : Int32)), (0, .ref (bd_a ε 5)), (1, .int x1)] dX2_onPath_1 rfl (by decide) rfl ?_
  refine bs_pick [1, 2, 0] rfl ?_
  refine bs_loopK (fun (q : Int32 × bd_T) t => bd_S Γ 3 t0 t (cX ε (q.2)) 2 [(0, .ref (bd_a ε 5)), (1, .int x1), (2, .int (q.1))] []) (fun (q : (Int32 × bd_T) ⊕ (bd_T)) t => Sum.elim (fun (z : Int32 × bd_T) => t = some z) (fun (q : bd_T) => bd_S Γ 3 t0 t (cX ε (q)) 30 [] []) q) (fun q => fb_X2_onPath_2 x1 q.1 q.2) (fun _ => bs_none) (fun K hk hx q => lb_X2_onPath_2 hC   x1 (fun a0 S => hk (a0, S)) (fun  S => hx (.inr (S))) (fun z => hx (.inl z)) (q.1) (q.2)) (fun r => ?_) bd_K ((0 : Int32), S)
  rcases r with r | r
  · exact rfl
  obtain ⟨S5, rfl⟩ : ∃ z, z = r := ⟨_, rfl⟩
  show bd_S Γ 3 t0 (Option.bind _ _) (cX ε S5) 30 [] []
  try dsimp only [Sum.elim_inr]
  refine bs_iconst hC (0 : Int32) dX2_onPath_30 rfl ?_
  exact bs_zret hC dX2_onPath_31 rfl rfl
theorem c_X2_onPath (l : Launch) (D : va_G) (ε : bd_E) (x1 : Int32)  (S : bd_T) (h0 : (f_X2_onPath x1 S).isSome = true) : bd_Con l yX2_onPath (Cond.code yX2_onPath cX2_onPath 3 (some .boolean) :: bd_tbl) ({ frames := 1, cells := 0, slots := 0, locals := 21 } : Room) D ε (cX ε) bd_vi [.ref (bd_a ε 5), .int x1] S (f_X2_onPath x1 S) :=
  bd_con (by decide +kernel) (Nat.le_of_ble_eq_true rfl) ⟨rfl, rfl⟩ h0 (fun Γ _ _ hC => bs_eq bs_bs (b_X2_onPath hC x1 S))
set_option maxRecDepth 100000 in
set_option maxHeartbeats 4000000 in
theorem b_X9_at_ {Γ : bd_G} {ε : bd_E} {t0 : Option (Int64 × bd_T)} (hC : bd_C Γ cX9_at_ 2 RX9 (some .long) ({ frames := 0, cells := 0, slots := 0, locals := 0 } : Room) ε (cX ε) bd_vl t0) (k0 : Nat) (x1 : Int32) (hk0 : k0 < 3) (S : bd_T) : bd_S Γ 2 t0 ((f_X9_at_ k0 x1 S).bind some) (cX ε S) 0 [(0, .ref (bd_a ε (43 + k0))), (1, .int x1)] [] := by
  unfold f_X9_at_
  refine bs_iload_n hC 1 dX9_at__0 rfl rfl ?_
  refine bs_if_lt hC 16 dX9_at__1 (by decide) (fun c3 => ?_) (fun c3 => ?_)
  · refine bs_lconst hC (0 : Int64) dX9_at__16 rfl ?_
    exact bs_lret hC dX9_at__17 rfl
  refine bs_iload_n hC 1 dX9_at__4 rfl rfl ?_
  refine bs_aload_n hC 0 dX9_at__5 rfl rfl ?_
  refine bs_alenJ hC _ (cX_gj ε S k0 (cX_ljn k0) hk0 rfl) (v := (Int32.ofNat (cX_ljn k0))) rfl dX9_at__6 ?_
  refine bs_icmp_ge hC 16 dX9_at__7 (by decide) (fun c2 => ?_) (fun c2 => ?_)
  · refine bs_lconst hC (0 : Int64) dX9_at__16 rfl ?_
    exact bs_lret hC dX9_at__17 rfl
  refine bs_aload_n hC 0 dX9_at__10 rfl rfl ?_
  refine bs_iload_n hC 1 dX9_at__11 rfl rfl ?_
  refine bs_lald hC _ (cX_gj ε S k0 (cX_ljn k0) hk0 rfl) dX9_at__12 (fun z1 ez1 => ?_)
  refine bs_goto hC 17 dX9_at__13 (by decide) ?_
  exact bs_lret hC dX9_at__17 rfl
theorem c_X9_at_ (l : Launch) (D : va_G) (ε : bd_E) (k0 : Nat) (x1 : Int32) (hk0 : k0 < 3) (S : bd_T) (h0 : (f_X9_at_ k0 x1 S).isSome = true) : bd_Con l yX9_at_ (Cond.code yX9_at_ cX9_at_ 2 (some .long) :: bd_tbl) ({ frames := 0, cells := 0, slots := 0, locals := 0 } : Room) D ε (cX ε) bd_vl [.ref (bd_a ε (43 + k0)), .int x1] S (f_X9_at_ k0 x1 S) :=
  bd_con (by decide +kernel) (Nat.le_of_ble_eq_true rfl) ⟨rfl, rfl⟩ h0 (fun Γ _ _ hC => bs_eq bs_bs (b_X9_at_ hC k0 x1 hk0 S))
set_option maxRecDepth 100000 in
set_option maxHeartbeats 4000000 in
theorem lb_X1_load_5 {Γ : bd_G} {ε : bd_E} {t0 : Option (Unit × bd_T)} (hC : bd_C Γ cX1_load 6 RX1 none ({ frames := 1, cells := 0, slots := 0, locals := 23 } : Room) ε (cX ε) bd_vv t0) (k1 : Nat) (hk1 : k1 < 3) (p2 : Int32) {K : (Int64 × Int32 × bd_T) ⊕ (bd_T) → Option (Unit × bd_T)} (hk : ∀ (x3 : Int64) (x5 : Int32) (S : bd_T), bd_S Γ 6 t0 (K (.inl (x3, x5, S))) (cX ε S) 5 [(0, .ref (bd_a ε 6)), (1, .ref (bd_a ε (43 + k1))), (2, .int p2), (3, .long x3), (5, .int x5)] []) (hx : ∀ (S : bd_T), bd_S Γ 6 t0 (K (.inr S)) (cX ε S) 42 [] []) (x3 : Int64) (x5 : Int32) (S : bd_T) : bd_S Γ 6 t0 ((fb_X1_load_5 k1 p2 x3 x5 S).bind K) (cX ε S) 5 [(0, .ref (bd_a ε 6)), (1, .ref (bd_a ε (43 + k1))), (2, .int p2), (3, .long x3), (5, .int x5)] [] := by
  unfold fb_X1_load_5
  refine bs_iload hC 4 dX1_load_5 rfl ?_
  refine bs_sipush hC (300 : Int32) dX1_load_7 rfl ?_
  refine bs_icmp_ge hC 42 dX1_load_10 (by decide) (fun c6 => ?_) (fun c6 => ?_)
  · refine bs_some ?_
    refine bs_pick [] rfl ?_
    exact hx S
  refine bs_lload_n hC 3 dX1_load_13 rfl rfl ?_
  refine bs_aload_n hC 1 dX1_load_14 rfl rfl ?_
  refine bs_iload_n hC 2 dX1_load_15 rfl rfl ?_
  refine bs_iload hC 4 dX1_load_16 rfl ?_
  refine bs_iadd hC dX1_load_18 ?_
  refine bs_callSN_l hC (rm := ({ frames := 0, cells := 0, slots := 0, locals := 0 } : Room)) [.ref (bd_a ε (43 + k1)), .int (p2 + x5)] [.long x3] (fun h => c_X9_at_ (bd_l Γ) (bd_D Γ) ε k1 (p2 + x5) hk1 S h) mw_386 nm_37 mw_385 mw_72 by_X9_at_ ⟨rfl, rfl, by decide, by decide⟩ rfl rfl (Nat.le_of_ble_eq_true rfl) dX1_load_19 (fun r1 S2 eS2 => ?_)
  refine bs_ladd hC dX1_load_22 ?_
  refine bs_letl (fun z3 ez3 => ?_)
  refine bs_lstore_n hC [(3, .long z3), (0, .ref (bd_a ε 6)), (1, .ref (bd_a ε (43 + k1))), (2, .int p2), (5, .int x5)] dX1_load_23 rfl (by decide) rfl ?_
  refine bs_aload_n hC 1 dX1_load_24 rfl rfl ?_
  refine bs_get hC (v := .ref (bd_a ε (43 + 1))) hin_X1 6 (cX_o6 ε S2) rfl 0 (by decide) mw_198 rfl dX1_load_25 ?_
  refine bs_iload hC 4 dX1_load_28 rfl ?_
  refine bs_iconst hC (1 : Int32) dX1_load_30 rfl ?_
  refine bs_iadd hC dX1_load_31 ?_
  refine bs_lload_n hC 0 dX1_load_32 rfl rfl ?_
  refine bs_callSN_v hC (rm := ({ frames := 0, cells := 0, slots := 0, locals := 0 } : Room)) [.ref (bd_a ε (43 + 1)), .int (x5 + (1 : Int32)), .long z3] [] (fun h => c_X9_lay_ (bd_l Γ) (bd_D Γ) ε 1 (x5 + (1 : Int32)) z3 (by decide) S2 h) mw_368 nm_38 mw_367 mw_72 by_X9_lay_ ⟨rfl, rfl, by decide, by decide⟩ rfl rfl (Nat.le_of_ble_eq_true rfl) dX1_load_33 (fun r4 S5 eS5 => ?_)
  refine bs_iinc hC 4 [(5, .int (x5 + 1)), (3, .long z3), (0, .ref (bd_a ε 6)), (1, .ref (bd_a ε (43 + k1))), (2, .int p2)] dX1_load_36 rfl rfl (by decide) rfl ?_
  refine bs_goto hC 5 dX1_load_39 (by decide) ?_
  refine bs_some ?_
  refine bs_pick [2, 3, 4, 1, 0] rfl ?_
  exact hk z3 (x5 + 1) S5
set_option maxRecDepth 100000 in
set_option maxHeartbeats 4000000 in
theorem b_X1_load {Γ : bd_G} {ε : bd_E} {t0 : Option (Unit × bd_T)} (hC : bd_C Γ cX1_load 6 RX1 none ({ frames := 1, cells := 0, slots := 0, locals := 23 } : Room) ε (cX ε) bd_vv t0) (k1 : Nat) (x2 : Int32) (hk1 : k1 < 3) (S : bd_T) : bd_S Γ 6 t0 ((f_X1_load k1 x2 S).bind some) (cX ε S) 0 [(0, .ref (bd_a ε 6)), (1, .ref (bd_a ε (43 + k1))), (2, .int x2)] [] := by
  unfold f_X1_load
  refine bs_lconst hC (0 : Int64) dX1_load_0 rfl ?_
  refine bs_lstore_n hC [(3, .long (0 : Int64)), (0, .ref (bd_a ε 6)), (1, .ref (bd_a ε (43 + k1))), (2, .int x2)] dX1_load_1 rfl (by decide) rfl ?_
  refine bs_iconst hC (0 : Int32) dX1_load_2 rfl ?_
  refine bs_istore hC [(5, .int (0 : Int32)), (3, .long (0 : Int64)), (0, .ref (bd_a ε 6)), (1, .ref (bd_a ε (43 + k1))), (2, .int x2)] dX1_load_3 (by decide) rfl ?_
  refine bs_pick [2, 3, 4, 1, 0] rfl ?_
  refine bs_loopK (fun (q : Int64 × Int32 × bd_T) t => bd_S Γ 6 t0 t (cX ε (q.2.2)) 5 [(0, .ref (bd_a ε 6)), (1, .ref (bd_a ε (43 + k1))), (2, .int x2), (3, .long (q.1)), (5, .int (q.2.1))] []) (fun (q : bd_T) t => bd_S Γ 6 t0 t (cX ε (q)) 42 [] []) (fun q => fb_X1_load_5 k1 x2 q.1 q.2.1 q.2.2) (fun _ => bs_none) (fun K hk hx q => lb_X1_load_5 hC k1 hk1 x2 (fun a0 a1 S => hk (a0, a1, S)) (fun  S => hx (S))  (q.1) (q.2.1) (q.2.2)) (fun r => ?_) bd_K ((0 : Int64), (0 : Int32), S)
  obtain ⟨S7, rfl⟩ : ∃ z, z = r := ⟨_, rfl⟩
  show bd_S Γ 6 t0 (Option.bind _ _) (cX ε S7) 42 [] []
  try dsimp only
  exact bs_vret hC dX1_load_42 rfl
theorem c_X1_load (l : Launch) (D : va_G) (ε : bd_E) (k1 : Nat) (x2 : Int32) (hk1 : k1 < 3) (S : bd_T) (h0 : (f_X1_load k1 x2 S).isSome = true) : bd_Con l yX1_load (Cond.code yX1_load cX1_load 6 none :: bd_tbl) ({ frames := 1, cells := 0, slots := 0, locals := 23 } : Room) D ε (cX ε) bd_vv [.ref (bd_a ε 6), .ref (bd_a ε (43 + k1)), .int x2] S (f_X1_load k1 x2 S) :=
  bd_con (by decide +kernel) (Nat.le_of_ble_eq_true rfl) ⟨rfl, rfl⟩ h0 (fun Γ _ _ hC => bs_eq bs_bs (b_X1_load hC k1 x2 hk1 S))
set_option maxRecDepth 100000 in
set_option maxHeartbeats 4000000 in
theorem b_X7_lowest {Γ : bd_G} {ε : bd_E} {t0 : Option (Int32 × bd_T)} (hC : bd_C Γ cX7_lowest 5 RX7 (some .int) ({ frames := 1, cells := 0, slots := 0, locals := 21 } : Room) ε (cX ε) bd_vi t0) (x1 : Int32) (x2 : Int32) (x3 : Int32)  (S : bd_T) : bd_S Γ 5 t0 ((f_X7_lowest x1 x2 x3 S).bind some) (cX ε S) 0 [(0, .ref (bd_a ε 8)), (1, .int x1), (2, .int x2), (3, .int x3)] [] := by
  unfold f_X7_lowest
  refine bs_aload_n hC 0 dX7_lowest_0 rfl rfl ?_
  refine bs_get hC (v := .ref (bd_a ε (12 + 16))) hin_X7 8 (cX_o8 ε S) rfl 6 (by decide) mw_109 rfl dX7_lowest_1 ?_
  refine bs_iload_n hC 1 dX7_lowest_4 rfl rfl ?_
  refine bs_callSN_i hC (rm := ({ frames := 0, cells := 0, slots := 0, locals := 0 } : Room)) [.ref (bd_a ε (12 + 16)), .int x1] [] (fun h => c_X9_at (bd_l Γ) (bd_D Γ) ε 16 x1 (by decide) S h) mw_237 nm_42 mw_236 mw_72 by_X9_at ⟨rfl, rfl, by decide, by decide⟩ rfl rfl (Nat.le_of_ble_eq_true rfl) dX7_lowest_5 (fun r1 S2 eS2 => ?_)
  refine bs_istore hC [(4, .int r1), (0, .ref (bd_a ε 8)), (1, .int x1), (2, .int x2), (3, .int x3)] dX7_lowest_8 (by decide) rfl ?_
  refine bs_aload_n hC 1 dX7_lowest_10 rfl rfl ?_
  refine bs_get hC (v := .ref (bd_a ε (12 + 15))) hin_X7 8 (cX_o8 ε S2) rfl 5 (by decide) mw_108 rfl dX7_lowest_11 ?_
  refine bs_iload_n hC 2 dX7_lowest_14 rfl rfl ?_
  refine bs_callSN_i hC (rm := ({ frames := 0, cells := 0, slots := 0, locals := 0 } : Room)) [.ref (bd_a ε (12 + 15)), .int x1] [] (fun h => c_X9_at (bd_l Γ) (bd_D Γ) ε 15 x1 (by decide) S2 h) mw_237 nm_42 mw_236 mw_72 by_X9_at ⟨rfl, rfl, by decide, by decide⟩ rfl rfl (Nat.le_of_ble_eq_true rfl) dX7_lowest_15 (fun r3 S4 eS4 => ?_)
  refine bs_case (c := r3 = 0) (fun c5 => ?_) (fun c5 => ?_)
  · refine bs_tabIn hC (0 : Int32) (26) 44 dX7_lowest_18 c5 (by decide) (by decide) rfl (by decide) ?_
    refine bs_iload_n hC 4 dX7_lowest_44 rfl rfl ?_
    refine bs_if_eq hC 55 dX7_lowest_45 (by decide) (fun c6 => ?_) (fun c6 => ?_)
    · refine bs_iload_n hC 3 dX7_lowest_55 rfl rfl ?_
      refine bs_iload hC 0 dX7_lowest_56 rfl ?_
      refine bs_isub hC dX7_lowest_58 ?_
      exact bs_iret hC dX7_lowest_59 rfl
    refine bs_iload_n hC 3 dX7_lowest_48 rfl rfl ?_
    refine bs_iload hC 0 dX7_lowest_49 rfl ?_
    refine bs_iadd hC dX7_lowest_51 ?_
    refine bs_goto hC 59 dX7_lowest_52 (by decide) ?_
    exact bs_iret hC dX7_lowest_59 rfl
  refine bs_case (c := r3 = 1) (fun c7 => ?_) (fun c7 => ?_)
  · refine bs_tabIn hC (1 : Int32) (42) 60 dX7_lowest_18 c7 (by decide) (by decide) rfl (by decide) ?_
    refine bs_iload_n hC 4 dX7_lowest_60 rfl rfl ?_
    refine bs_if_eq hC 71 dX7_lowest_61 (by decide) (fun c8 => ?_) (fun c8 => ?_)
    · refine bs_iconst hC (0 : Int32) dX7_lowest_71 rfl ?_
      exact bs_iret hC dX7_lowest_72 rfl
    refine bs_iload_n hC 3 dX7_lowest_64 rfl rfl ?_
    refine bs_iload hC 0 dX7_lowest_65 rfl ?_
    refine bs_iadd hC dX7_lowest_67 ?_
    refine bs_goto hC 72 dX7_lowest_68 (by decide) ?_
    exact bs_iret hC dX7_lowest_72 rfl
  refine bs_case (c := r3 = 2) (fun c9 => ?_) (fun c9 => ?_)
  · refine bs_tabIn hC (2 : Int32) (55) 73 dX7_lowest_18 c9 (by decide) (by decide) rfl (by decide) ?_
    refine bs_iload_n hC 4 dX7_lowest_73 rfl rfl ?_
    refine bs_if_eq hC 81 dX7_lowest_74 (by decide) (fun c10 => ?_) (fun c10 => ?_)
    · refine bs_iload_n hC 3 dX7_lowest_81 rfl rfl ?_
      refine bs_iload hC 0 dX7_lowest_82 rfl ?_
      refine bs_iadd hC dX7_lowest_84 ?_
      exact bs_iret hC dX7_lowest_85 rfl
    refine bs_iconst hC (0 : Int32) dX7_lowest_77 rfl ?_
    refine bs_goto hC 85 dX7_lowest_78 (by decide) ?_
    exact bs_iret hC dX7_lowest_85 rfl
  refine bs_tabOut hC 86 dX7_lowest_18 (by have h0 := lv_neT (k := (0 : Int32)) (a := 0) c5 rfl; have h1 := lv_neT (k := (1 : Int32)) (a := 1) c7 rfl; have h2 := lv_neT (k := (2 : Int32)) (a := 2) c9 rfl; omega) (by decide) ?_
  refine bs_iload_n hC 3 dX7_lowest_86 rfl rfl ?_
  refine bs_iload hC 0 dX7_lowest_87 rfl ?_
  refine bs_isub hC dX7_lowest_89 ?_
  exact bs_iret hC dX7_lowest_90 rfl
theorem c_X7_lowest (l : Launch) (D : va_G) (ε : bd_E) (x1 : Int32) (x2 : Int32) (x3 : Int32)  (S : bd_T) (h0 : (f_X7_lowest x1 x2 x3 S).isSome = true) : bd_Con l yX7_lowest (Cond.code yX7_lowest cX7_lowest 5 (some .int) :: bd_tbl) ({ frames := 1, cells := 0, slots := 0, locals := 21 } : Room) D ε (cX ε) bd_vi [.ref (bd_a ε 8), .int x1, .int x2, .int x3] S (f_X7_lowest x1 x2 x3 S) :=
  bd_con (by decide +kernel) (Nat.le_of_ble_eq_true rfl) ⟨rfl, rfl⟩ h0 (fun Γ _ _ hC => bs_eq bs_bs (b_X7_lowest hC x1 x2 x3 S))
set_option maxRecDepth 100000 in
set_option maxHeartbeats 4000000 in
theorem b_X7_highest {Γ : bd_G} {ε : bd_E} {t0 : Option (Int32 × bd_T)} (hC : bd_C Γ cX7_highest 5 RX7 (some .int) ({ frames := 1, cells := 0, slots := 0, locals := 21 } : Room) ε (cX ε) bd_vi t0) (x1 : Int32) (x2 : Int32) (x3 : Int32)  (S : bd_T) : bd_S Γ 5 t0 ((f_X7_highest x1 x2 x3 S).bind some) (cX ε S) 0 [(0, .ref (bd_a ε 8)), (1, .int x1), (2, .int x2), (3, .int x3)] [] := by
  unfold f_X7_highest
  refine bs_aload_n hC 0 dX7_highest_0 rfl rfl ?_
  refine bs_get hC (v := .ref (bd_a ε (12 + 16))) hin_X7 8 (cX_o8 ε S) rfl 6 (by decide) mw_109 rfl dX7_highest_1 ?_
  refine bs_iload_n hC 1 dX7_highest_4 rfl rfl ?_
  refine bs_callSN_i hC (rm := ({ frames := 0, cells := 0, slots := 0, locals := 0 } : Room)) [.ref (bd_a ε (12 + 16)), .int x1] [] (fun h => c_X9_at (bd_l Γ) (bd_D Γ) ε 16 x1 (by decide) S h) mw_237 nm_42 mw_236 mw_72 by_X9_at ⟨rfl, rfl, by decide, by decide⟩ rfl rfl (Nat.le_of_ble_eq_true rfl) dX7_highest_5 (fun r1 S2 eS2 => ?_)
  refine bs_istore hC [(4, .int r1), (0, .ref (bd_a ε 8)), (1, .int x1), (2, .int x2), (3, .int x3)] dX7_highest_8 (by decide) rfl ?_
  refine bs_aload_n hC 1 dX7_highest_10 rfl rfl ?_
  refine bs_get hC (v := .ref (bd_a ε (12 + 15))) hin_X7 8 (cX_o8 ε S2) rfl 5 (by decide) mw_108 rfl dX7_highest_11 ?_
  refine bs_iload_n hC 2 dX7_highest_14 rfl rfl ?_
  refine bs_callSN_i hC (rm := ({ frames := 0, cells := 0, slots := 0, locals := 0 } : Room)) [.ref (bd_a ε (12 + 15)), .int x1] [] (fun h => c_X9_at (bd_l Γ) (bd_D Γ) ε 15 x1 (by decide) S2 h) mw_237 nm_42 mw_236 mw_72 by_X9_at ⟨rfl, rfl, by decide, by decide⟩ rfl rfl (Nat.le_of_ble_eq_true rfl) dX7_highest_15 (fun r3 S4 eS4 => ?_)
  refine bs_case (c := r3 = 0) (fun c5 => ?_) (fun c5 => ?_)
  · refine bs_tabIn hC (0 : Int32) (26) 44 dX7_highest_18 c5 (by decide) (by decide) rfl (by decide) ?_
    refine bs_iload_n hC 4 dX7_highest_44 rfl rfl ?_
    refine bs_if_eq hC 55 dX7_highest_45 (by decide) (fun c6 => ?_) (fun c6 => ?_)
    · refine bs_iload_n hC 3 dX7_highest_55 rfl rfl ?_
      refine bs_iload hC 0 dX7_highest_56 rfl ?_
      refine bs_isub hC dX7_highest_58 ?_
      exact bs_iret hC dX7_highest_59 rfl
    refine bs_iload_n hC 3 dX7_highest_48 rfl rfl ?_
    refine bs_iload hC 0 dX7_highest_49 rfl ?_
    refine bs_iadd hC dX7_highest_51 ?_
    refine bs_goto hC 59 dX7_highest_52 (by decide) ?_
    exact bs_iret hC dX7_highest_59 rfl
  refine bs_case (c := r3 = 1) (fun c7 => ?_) (fun c7 => ?_)
  · refine bs_tabIn hC (1 : Int32) (42) 60 dX7_highest_18 c7 (by decide) (by decide) rfl (by decide) ?_
    refine bs_iload_n hC 4 dX7_highest_60 rfl rfl ?_
    refine bs_if_eq hC 70 dX7_highest_61 (by decide) (fun c8 => ?_) (fun c8 => ?_)
    · refine bs_iload_n hC 3 dX7_highest_70 rfl rfl ?_
      refine bs_iload hC 0 dX7_highest_71 rfl ?_
      refine bs_isub hC dX7_highest_73 ?_
      exact bs_iret hC dX7_highest_74 rfl
    refine bs_sipush hC (299 : Int32) dX7_highest_64 rfl ?_
    refine bs_goto hC 74 dX7_highest_67 (by decide) ?_
    exact bs_iret hC dX7_highest_74 rfl
  refine bs_case (c := r3 = 2) (fun c9 => ?_) (fun c9 => ?_)
  · refine bs_tabIn hC (2 : Int32) (57) 75 dX7_highest_18 c9 (by decide) (by decide) rfl (by decide) ?_
    refine bs_iload_n hC 4 dX7_highest_75 rfl rfl ?_
    refine bs_if_eq hC 86 dX7_highest_76 (by decide) (fun c10 => ?_) (fun c10 => ?_)
    · refine bs_sipush hC (299 : Int32) dX7_highest_86 rfl ?_
      exact bs_iret hC dX7_highest_89 rfl
    refine bs_iload_n hC 3 dX7_highest_79 rfl rfl ?_
    refine bs_iload hC 0 dX7_highest_80 rfl ?_
    refine bs_isub hC dX7_highest_82 ?_
    refine bs_goto hC 89 dX7_highest_83 (by decide) ?_
    exact bs_iret hC dX7_highest_89 rfl
  refine bs_tabOut hC 90 dX7_highest_18 (by have h0 := lv_neT (k := (0 : Int32)) (a := 0) c5 rfl; have h1 := lv_neT (k := (1 : Int32)) (a := 1) c7 rfl; have h2 := lv_neT (k := (2 : Int32)) (a := 2) c9 rfl; omega) (by decide) ?_
  refine bs_iload_n hC 3 dX7_highest_90 rfl rfl ?_
  refine bs_iload hC 0 dX7_highest_91 rfl ?_
  refine bs_iadd hC dX7_highest_93 ?_
  exact bs_iret hC dX7_highest_94 rfl
theorem c_X7_highest (l : Launch) (D : va_G) (ε : bd_E) (x1 : Int32) (x2 : Int32) (x3 : Int32)  (S : bd_T) (h0 : (f_X7_highest x1 x2 x3 S).isSome = true) : bd_Con l yX7_highest (Cond.code yX7_highest cX7_highest 5 (some .int) :: bd_tbl) ({ frames := 1, cells := 0, slots := 0, locals := 21 } : Room) D ε (cX ε) bd_vi [.ref (bd_a ε 8), .int x1, .int x2, .int x3] S (f_X7_highest x1 x2 x3 S) :=
  bd_con (by decide +kernel) (Nat.le_of_ble_eq_true rfl) ⟨rfl, rfl⟩ h0 (fun Γ _ _ hC => bs_eq bs_bs (b_X7_highest hC x1 x2 x3 S))
set_option maxRecDepth 100000 in
set_option maxHeartbeats 4000000 in
theorem b_X1_over {Γ : bd_G} {ε : bd_E} {t0 : Option (Int64 × bd_T)} (hC : bd_C Γ cX1_over 3 RX1 (some .long) ({ frames := 1, cells := 0, slots := 0, locals := 21 } : Room) ε (cX ε) bd_vl t0) (x1 : Int32) (x2 : Int32)  (S : bd_T) : bd_S Γ 3 t0 ((f_X1_over x1 x2 S).bind some) (cX ε S) 0 [(0, .ref (bd_a ε 6)), (1, .int x1), (2, .int x2)] [] := by
  unfold f_X1_over
  refine bs_aload_n hC 0 dX1_over_0 rfl rfl ?_
  refine bs_get hC (v := .ref (bd_a ε (43 + 1))) hin_X1 6 (cX_o6 ε S) rfl 0 (by decide) mw_198 rfl dX1_over_1 ?_
  refine bs_iload_n hC 2 dX1_over_4 rfl rfl ?_
  refine bs_iconst hC (1 : Int32) dX1_over_5 rfl ?_
  refine bs_iadd hC dX1_over_6 ?_
  refine bs_callSN_l hC (rm := ({ frames := 0, cells := 0, slots := 0, locals := 0 } : Room)) [.ref (bd_a ε (43 + 1)), .int (x2 + (1 : Int32))] [] (fun h => c_X9_at_ (bd_l Γ) (bd_D Γ) ε 1 (x2 + (1 : Int32)) (by decide) S h) mw_386 nm_37 mw_385 mw_72 by_X9_at_ ⟨rfl, rfl, by decide, by decide⟩ rfl rfl (Nat.le_of_ble_eq_true rfl) dX1_over_7 (fun r1 S2 eS2 => ?_)
  refine bs_aload_n hC 0 dX1_over_10 rfl rfl ?_
  refine bs_get hC (v := .ref (bd_a ε (43 + 1))) hin_X1 6 (cX_o6 ε S2) rfl 0 (by decide) mw_198 rfl dX1_over_11 ?_
  refine bs_iload_n hC 1 dX1_over_14 rfl rfl ?_
  refine bs_callSN_l hC (rm := ({ frames := 0, cells := 0, slots := 0, locals := 0 } : Room)) [.ref (bd_a ε (43 + 1)), .int x1] [.long r1] (fun h => c_X9_at_ (bd_l Γ) (bd_D Γ) ε 1 x1 (by decide) S2 h) mw_386 nm_37 mw_385 mw_72 by_X9_at_ ⟨rfl, rfl, by decide, by decide⟩ rfl rfl (Nat.le_of_ble_eq_true rfl) dX1_over_15 (fun r3 S4 eS4 => ?_)
  refine bs_lsub hC dX1_over_18 ?_
  exact bs_lret hC dX1_over_19 rfl
theorem c_X1_over (l : Launch) (D : va_G) (ε : bd_E) (x1 : Int32) (x2 : Int32)  (S : bd_T) (h0 : (f_X1_over x1 x2 S).isSome = true) : bd_Con l yX1_over (Cond.code yX1_over cX1_over 3 (some .long) :: bd_tbl) ({ frames := 1, cells := 0, slots := 0, locals := 21 } : Room) D ε (cX ε) bd_vl [.ref (bd_a ε 6), .int x1, .int x2] S (f_X1_over x1 x2 S) :=
  bd_con (by decide +kernel) (Nat.le_of_ble_eq_true rfl) ⟨rfl, rfl⟩ h0 (fun Γ _ _ hC => bs_eq bs_bs (b_X1_over hC x1 x2 S))
set_option maxRecDepth 100000 in
set_option maxHeartbeats 4000000 in
theorem b_X1_none {Γ : bd_G} {ε : bd_E} {t0 : Option (Int64 × bd_T)} (hC : bd_C Γ cX1_none 1 RX1 (some .long) ({ frames := 0, cells := 0, slots := 0, locals := 0 } : Room) ε (cX ε) bd_vl t0)  (S : bd_T) : bd_S Γ 1 t0 ((f_X1_none S).bind some) (cX ε S) 0 [(0, .ref (bd_a ε 6))] [] := by
  unfold f_X1_none
  refine bs_lconst hC (0 : Int64) dX1_none_0 rfl ?_
  exact bs_lret hC dX1_none_1 rfl
theorem c_X1_none (l : Launch) (D : va_G) (ε : bd_E)  (S : bd_T) (h0 : (f_X1_none S).isSome = true) : bd_Con l yX1_none (Cond.code yX1_none cX1_none 1 (some .long) :: bd_tbl) ({ frames := 0, cells := 0, slots := 0, locals := 0 } : Room) D ε (cX ε) bd_vl [.ref (bd_a ε 6)] S (f_X1_none S) :=
  bd_con (by decide +kernel) (Nat.le_of_ble_eq_true rfl) ⟨rfl, rfl⟩ h0 (fun Γ _ _ hC => bs_eq bs_bs (b_X1_none hC S))
set_option maxRecDepth 100000 in
set_option maxHeartbeats 4000000 in
theorem b_X5_within {Γ : bd_G} {ε : bd_E} {t0 : Option (Int64 × bd_T)} (hC : bd_C Γ cX5_within 5 RX5 (some .long) ({ frames := 2, cells := 0, slots := 0, locals := 43 } : Room) ε (cX ε) bd_vl t0) (x1 : Int32) (x2 : Int32)  (S : bd_T) : bd_S Γ 5 t0 ((f_X5_within x1 x2 S).bind some) (cX ε S) 0 [(0, .ref (bd_a ε 6)), (1, .int x1), (2, .int x2)] [] := by
  unfold f_X5_within
  refine bs_iconst hC (0 : Int32) dX5_within_0 rfl ?_
  refine bs_iload_n hC 1 dX5_within_1 rfl rfl ?_
  refine bs_mmax hC mw_403 mw_298 mw_83 mw_299 (Nat.le_of_ble_eq_true rfl) (Nat.le_of_ble_eq_true rfl) dX5_within_2 ?_
  refine bs_leti (fun z1 ez1 => ?_)
  refine bs_istore_n hC [(3, .int z1), (0, .ref (bd_a ε 6)), (1, .int x1), (2, .int x2)] dX5_within_5 rfl (by decide) rfl ?_
  refine bs_sipush hC (299 : Int32) dX5_within_6 rfl ?_
  refine bs_iload_n hC 3 dX5_within_9 rfl rfl ?_
  refine bs_mmin hC mw_404 mw_304 mw_83 mw_305 (Nat.le_of_ble_eq_true rfl) (Nat.le_of_ble_eq_true rfl) dX5_within_10 ?_
  refine bs_leti (fun z2 ez2 => ?_)
  refine bs_istore hC [(4, .int z2), (3, .int z1), (0, .ref (bd_a ε 6)), (1, .int x1), (2, .int x2)] dX5_within_13 (by decide) rfl ?_
  refine bs_iload_n hC 1 dX5_within_15 rfl rfl ?_
  refine bs_iload hC 0 dX5_within_16 rfl ?_
  refine bs_icmp_le hC 28 dX5_within_18 (by decide) (fun c7 => ?_) (fun c7 => ?_)
  · refine bs_aload_n hC 2 dX5_within_28 rfl rfl ?_
    refine bs_iload_n hC 1 dX5_within_29 rfl rfl ?_
    refine bs_iload hC 0 dX5_within_30 rfl ?_
    refine bs_callU_l hC (rm := ({ frames := 1, cells := 0, slots := 0, locals := 21 } : Room)) [.int z1, .int z2] [] (fun h => c_X1_over (bd_l Γ) (bd_D Γ) ε z1 z2 S h) mw_418 mw_414 mw_417 mw_80 mw_416 mw_415 (Or.inl (by decide +kernel)) ho_X5_over (cX_o6 ε S) rfl ⟨rfl, rfl, by decide, by decide⟩ rfl rfl (Nat.le_of_ble_eq_true rfl) dX5_within_32 (fun r3 S4 eS4 => ?_)
    exact bs_lret hC dX5_within_35 rfl
  refine bs_aload_n hC 2 dX5_within_21 rfl rfl ?_
  refine bs_callU_l hC (rm := ({ frames := 0, cells := 0, slots := 0, locals := 0 } : Room)) [] [] (fun h => c_X1_none (bd_l Γ) (bd_D Γ) ε S h) mw_409 mw_405 mw_408 mw_80 mw_407 mw_406 (Or.inl (by decide +kernel)) ho_X5_none (cX_o6 ε S) rfl ⟨rfl, rfl, by decide, by decide⟩ rfl rfl (Nat.le_of_ble_eq_true rfl) dX5_within_22 (fun r5 S6 eS6 => ?_)
  refine bs_goto hC 35 dX5_within_25 (by decide) ?_
  exact bs_lret hC dX5_within_35 rfl
theorem c_X5_within (l : Launch) (D : va_G) (ε : bd_E) (x1 : Int32) (x2 : Int32)  (S : bd_T) (h0 : (f_X5_within x1 x2 S).isSome = true) : bd_Con l yX5_within (Cond.code yX5_within cX5_within 5 (some .long) :: bd_tbl) ({ frames := 2, cells := 0, slots := 0, locals := 43 } : Room) D ε (cX ε) bd_vl [.ref (bd_a ε 6), .int x1, .int x2] S (f_X5_within x1 x2 S) :=
  bd_con (by decide +kernel) (Nat.le_of_ble_eq_true rfl) ⟨rfl, rfl⟩ h0 (fun Γ _ _ hC => bs_eq bs_bs (b_X5_within hC x1 x2 S))
