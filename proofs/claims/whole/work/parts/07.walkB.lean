theorem dX1_both_0 : decode cX1_both 0 = .ok (.lload_n 1, 1) := by decide +kernel
theorem dX1_both_1 : decode cX1_both 1 = .ok (.lload_n 3, 1) := by decide +kernel
theorem dX1_both_2 : decode cX1_both 2 = .ok (.lmul, 1) := by decide +kernel
theorem dX1_both_3 : decode cX1_both 3 = .ok (.lreturn, 1) := by decide +kernel
theorem dX2_value_0 : decode cX2_value 0 = .ok (.aload_n 0, 1) := by decide +kernel
theorem dX2_value_1 : decode cX2_value 1 = .ok (.getfield 9, 3) := by decide +kernel
theorem dX2_value_4 : decode cX2_value 4 = .ok (.iload_n 1, 1) := by decide +kernel
theorem dX2_value_5 : decode cX2_value 5 = .ok (.sipush 300, 3) := by decide +kernel
theorem dX2_value_8 : decode cX2_value 8 = .ok (.imul, 1) := by decide +kernel
theorem dX2_value_9 : decode cX2_value 9 = .ok (.iload_n 2, 1) := by decide +kernel
theorem dX2_value_10 : decode cX2_value 10 = .ok (.iadd, 1) := by decide +kernel
theorem dX2_value_11 : decode cX2_value 11 = .ok (.invokestatic 23, 3) := by decide +kernel
theorem dX2_value_14 : decode cX2_value 14 = .ok (.lreturn, 1) := by decide +kernel
theorem dX2_together_0 : decode cX2_together 0 = .ok (.aload_n 2, 1) := by decide +kernel
theorem dX2_together_1 : decode cX2_together 1 = .ok (.aload_n 0, 1) := by decide +kernel
theorem dX2_together_2 : decode cX2_together 2 = .ok (.getfield 9, 3) := by decide +kernel
theorem dX2_together_5 : decode cX2_together 5 = .ok (.iload_n 1, 1) := by decide +kernel
theorem dX2_together_6 : decode cX2_together 6 = .ok (.sipush 300, 3) := by decide +kernel
theorem dX2_together_9 : decode cX2_together 9 = .ok (.imul, 1) := by decide +kernel
theorem dX2_together_10 : decode cX2_together 10 = .ok (.invokevirtual 27, 3) := by decide +kernel
theorem dX2_together_13 : decode cX2_together 13 = .ok (.aload_n 2, 1) := by decide +kernel
theorem dX2_together_14 : decode cX2_together 14 = .ok (.iconst 0, 1) := by decide +kernel
theorem dX2_together_15 : decode cX2_together 15 = .ok (.sipush 299, 3) := by decide +kernel
theorem dX2_together_18 : decode cX2_together 18 = .ok (.invokevirtual 33, 3) := by decide +kernel
theorem dX2_together_21 : decode cX2_together 21 = .ok (.lreturn, 1) := by decide +kernel
theorem dX2_gather_0 : decode cX2_gather 0 = .ok (.aload_n 0, 1) := by decide +kernel
theorem dX2_gather_1 : decode cX2_gather 1 = .ok (.aload_n 1, 1) := by decide +kernel
theorem dX2_gather_2 : decode cX2_gather 2 = .ok (.iload_n 2, 1) := by decide +kernel
theorem dX2_gather_3 : decode cX2_gather 3 = .ok (.invokevirtual 37, 3) := by decide +kernel
theorem dX2_gather_6 : decode cX2_gather 6 = .ok (.aload_n 1, 1) := by decide +kernel
theorem dX2_gather_7 : decode cX2_gather 7 = .ok (.getfield 41, 3) := by decide +kernel
theorem dX2_gather_10 : decode cX2_gather 10 = .ok (.iconst 1, 1) := by decide +kernel
theorem dX2_gather_11 : decode cX2_gather 11 = .ok (.isub, 1) := by decide +kernel
theorem dX2_gather_12 : decode cX2_gather 12 = .ok (.istore 4, 2) := by decide +kernel
theorem dX2_gather_14 : decode cX2_gather 14 = .ok (.iload 4, 2) := by decide +kernel
theorem dX2_gather_16 : decode cX2_gather 16 = .ok (.ifCond .le 39, 3) := by decide +kernel
theorem dX2_gather_19 : decode cX2_gather 19 = .ok (.aload_n 1, 1) := by decide +kernel
theorem dX2_gather_20 : decode cX2_gather 20 = .ok (.getfield 47, 3) := by decide +kernel
theorem dX2_gather_23 : decode cX2_gather 23 = .ok (.iload 4, 2) := by decide +kernel
theorem dX2_gather_25 : decode cX2_gather 25 = .ok (.invokestatic 50, 3) := by decide +kernel
theorem dX2_gather_28 : decode cX2_gather 28 = .ok (.ifCond .lt 21, 3) := by decide +kernel
theorem dX2_gather_31 : decode cX2_gather 31 = .ok (.aload_n 0, 1) := by decide +kernel
theorem dX2_gather_32 : decode cX2_gather 32 = .ok (.iload 4, 2) := by decide +kernel
theorem dX2_gather_34 : decode cX2_gather 34 = .ok (.invokevirtual 53, 3) := by decide +kernel
theorem dX2_gather_37 : decode cX2_gather 37 = .ok (.ifCond .ne 12, 3) := by decide +kernel
theorem dX2_gather_40 : decode cX2_gather 40 = .ok (.aload_n 0, 1) := by decide +kernel
theorem dX2_gather_41 : decode cX2_gather 41 = .ok (.aload_n 1, 1) := by decide +kernel
theorem dX2_gather_42 : decode cX2_gather 42 = .ok (.iload 4, 2) := by decide +kernel
theorem dX2_gather_44 : decode cX2_gather 44 = .ok (.iconst 1, 1) := by decide +kernel
theorem dX2_gather_45 : decode cX2_gather 45 = .ok (.aload_n 3, 1) := by decide +kernel
theorem dX2_gather_46 : decode cX2_gather 46 = .ok (.invokevirtual 57, 3) := by decide +kernel
theorem dX2_gather_49 : decode cX2_gather 49 = .ok (.iinc 4 (-1), 3) := by decide +kernel
theorem dX2_gather_52 : decode cX2_gather 52 = .ok (.goto (-38), 3) := by decide +kernel
theorem dX2_gather_55 : decode cX2_gather 55 = .ok (.aload_n 0, 1) := by decide +kernel
theorem dX2_gather_56 : decode cX2_gather 56 = .ok (.getfield 61, 3) := by decide +kernel
theorem dX2_gather_59 : decode cX2_gather 59 = .ok (.iconst 1, 1) := by decide +kernel
theorem dX2_gather_60 : decode cX2_gather 60 = .ok (.isub, 1) := by decide +kernel
theorem dX2_gather_61 : decode cX2_gather 61 = .ok (.istore 4, 2) := by decide +kernel
theorem dX2_gather_63 : decode cX2_gather 63 = .ok (.iload 4, 2) := by decide +kernel
theorem dX2_gather_65 : decode cX2_gather 65 = .ok (.ifCond .le 27, 3) := by decide +kernel
theorem dX2_gather_68 : decode cX2_gather 68 = .ok (.aload_n 0, 1) := by decide +kernel
theorem dX2_gather_69 : decode cX2_gather 69 = .ok (.aload_n 1, 1) := by decide +kernel
theorem dX2_gather_70 : decode cX2_gather 70 = .ok (.aload_n 0, 1) := by decide +kernel
theorem dX2_gather_71 : decode cX2_gather 71 = .ok (.getfield 15, 3) := by decide +kernel
theorem dX2_gather_74 : decode cX2_gather 74 = .ok (.iload 4, 2) := by decide +kernel
theorem dX2_gather_76 : decode cX2_gather 76 = .ok (.iconst 1, 1) := by decide +kernel
theorem dX2_gather_77 : decode cX2_gather 77 = .ok (.isub, 1) := by decide +kernel
theorem dX2_gather_78 : decode cX2_gather 78 = .ok (.invokestatic 50, 3) := by decide +kernel
theorem dX2_gather_81 : decode cX2_gather 81 = .ok (.iconst 0, 1) := by decide +kernel
theorem dX2_gather_82 : decode cX2_gather 82 = .ok (.aload_n 3, 1) := by decide +kernel
theorem dX2_gather_83 : decode cX2_gather 83 = .ok (.invokevirtual 57, 3) := by decide +kernel
theorem dX2_gather_86 : decode cX2_gather 86 = .ok (.iinc 4 (-1), 3) := by decide +kernel
theorem dX2_gather_89 : decode cX2_gather 89 = .ok (.goto (-26), 3) := by decide +kernel
theorem dX2_gather_92 : decode cX2_gather 92 = .ok (.aload_n 0, 1) := by decide +kernel
theorem dX2_gather_93 : decode cX2_gather 93 = .ok (.getfield 15, 3) := by decide +kernel
theorem dX2_gather_96 : decode cX2_gather 96 = .ok (.aload_n 0, 1) := by decide +kernel
theorem dX2_gather_97 : decode cX2_gather 97 = .ok (.getfield 61, 3) := by decide +kernel
theorem dX2_gather_100 : decode cX2_gather 100 = .ok (.iconst 1, 1) := by decide +kernel
theorem dX2_gather_101 : decode cX2_gather 101 = .ok (.isub, 1) := by decide +kernel
theorem dX2_gather_102 : decode cX2_gather 102 = .ok (.invokestatic 50, 3) := by decide +kernel
theorem dX2_gather_105 : decode cX2_gather 105 = .ok (.istore 4, 2) := by decide +kernel
theorem dX2_gather_107 : decode cX2_gather 107 = .ok (.iconst 0, 1) := by decide +kernel
theorem dX2_gather_108 : decode cX2_gather 108 = .ok (.istore 5, 2) := by decide +kernel
theorem dX2_gather_110 : decode cX2_gather 110 = .ok (.iload 5, 2) := by decide +kernel
theorem dX2_gather_112 : decode cX2_gather 112 = .ok (.aload_n 1, 1) := by decide +kernel
theorem dX2_gather_113 : decode cX2_gather 113 = .ok (.getfield 41, 3) := by decide +kernel
theorem dX2_gather_116 : decode cX2_gather 116 = .ok (.if_icmp .ge 36, 3) := by decide +kernel
theorem dX2_gather_119 : decode cX2_gather 119 = .ok (.aload_n 1, 1) := by decide +kernel
theorem dX2_gather_120 : decode cX2_gather 120 = .ok (.getfield 47, 3) := by decide +kernel
theorem dX2_gather_123 : decode cX2_gather 123 = .ok (.iload 5, 2) := by decide +kernel
theorem dX2_gather_125 : decode cX2_gather 125 = .ok (.invokestatic 50, 3) := by decide +kernel
theorem dX2_gather_128 : decode cX2_gather 128 = .ok (.ifCond .ge 18, 3) := by decide +kernel
theorem dX2_gather_131 : decode cX2_gather 131 = .ok (.iload 5, 2) := by decide +kernel
theorem dX2_gather_133 : decode cX2_gather 133 = .ok (.iload 4, 2) := by decide +kernel
theorem dX2_gather_135 : decode cX2_gather 135 = .ok (.if_icmp .eq 11, 3) := by decide +kernel
theorem dX2_gather_138 : decode cX2_gather 138 = .ok (.aload_n 0, 1) := by decide +kernel
theorem dX2_gather_139 : decode cX2_gather 139 = .ok (.iload 5, 2) := by decide +kernel
theorem dX2_gather_141 : decode cX2_gather 141 = .ok (.iload_n 2, 1) := by decide +kernel
theorem dX2_gather_142 : decode cX2_gather 142 = .ok (.aload_n 3, 1) := by decide +kernel
theorem dX2_gather_143 : decode cX2_gather 143 = .ok (.invokevirtual 64, 3) := by decide +kernel
theorem dX2_gather_146 : decode cX2_gather 146 = .ok (.iinc 5 1, 3) := by decide +kernel
theorem dX2_gather_149 : decode cX2_gather 149 = .ok (.goto (-39), 3) := by decide +kernel
theorem dX2_gather_152 : decode cX2_gather 152 = .ok (.return_, 1) := by decide +kernel
theorem dX2_bring_0 : decode cX2_bring 0 = .ok (.aload_n 1, 1) := by decide +kernel
theorem dX2_bring_1 : decode cX2_bring 1 = .ok (.getfield 47, 3) := by decide +kernel
theorem dX2_bring_4 : decode cX2_bring 4 = .ok (.iload_n 2, 1) := by decide +kernel
theorem dX2_bring_5 : decode cX2_bring 5 = .ok (.invokestatic 50, 3) := by decide +kernel
theorem dX2_bring_8 : decode cX2_bring 8 = .ok (.istore 5, 2) := by decide +kernel
theorem dX2_bring_10 : decode cX2_bring 10 = .ok (.iload_n 3, 1) := by decide +kernel
theorem dX2_bring_11 : decode cX2_bring 11 = .ok (.ifCond .eq 8, 3) := by decide +kernel
theorem dX2_bring_14 : decode cX2_bring 14 = .ok (.iload 5, 2) := by decide +kernel
theorem dX2_bring_16 : decode cX2_bring 16 = .ok (.goto 4, 3) := by decide +kernel
theorem dX2_bring_19 : decode cX2_bring 19 = .ok (.iload_n 2, 1) := by decide +kernel
theorem dX2_bring_20 : decode cX2_bring 20 = .ok (.istore 6, 2) := by decide +kernel
theorem dX2_bring_22 : decode cX2_bring 22 = .ok (.aload 4, 2) := by decide +kernel
theorem dX2_bring_24 : decode cX2_bring 24 = .ok (.aload_n 0, 1) := by decide +kernel
theorem dX2_bring_25 : decode cX2_bring 25 = .ok (.getfield 9, 3) := by decide +kernel
theorem dX2_bring_28 : decode cX2_bring 28 = .ok (.iload_n 3, 1) := by decide +kernel
theorem dX2_bring_29 : decode cX2_bring 29 = .ok (.ifCond .eq 7, 3) := by decide +kernel
theorem dX2_bring_32 : decode cX2_bring 32 = .ok (.iload_n 2, 1) := by decide +kernel
theorem dX2_bring_33 : decode cX2_bring 33 = .ok (.goto 5, 3) := by decide +kernel
theorem dX2_bring_36 : decode cX2_bring 36 = .ok (.iload 5, 2) := by decide +kernel
theorem dX2_bring_38 : decode cX2_bring 38 = .ok (.sipush 300, 3) := by decide +kernel
theorem dX2_bring_41 : decode cX2_bring 41 = .ok (.imul, 1) := by decide +kernel
theorem dX2_bring_42 : decode cX2_bring 42 = .ok (.invokevirtual 27, 3) := by decide +kernel
theorem dX2_bring_45 : decode cX2_bring 45 = .ok (.iconst 0, 1) := by decide +kernel
theorem dX2_bring_46 : decode cX2_bring 46 = .ok (.istore 7, 2) := by decide +kernel
theorem dX2_bring_48 : decode cX2_bring 48 = .ok (.iload 7, 2) := by decide +kernel
theorem dX2_bring_50 : decode cX2_bring 50 = .ok (.sipush 300, 3) := by decide +kernel
theorem dX2_bring_53 : decode cX2_bring 53 = .ok (.if_icmp .ge 55, 3) := by decide +kernel
theorem dX2_bring_56 : decode cX2_bring 56 = .ok (.aload 4, 2) := by decide +kernel
theorem dX2_bring_58 : decode cX2_bring 58 = .ok (.aload_n 1, 1) := by decide +kernel
theorem dX2_bring_59 : decode cX2_bring 59 = .ok (.iload_n 2, 1) := by decide +kernel
theorem dX2_bring_60 : decode cX2_bring 60 = .ok (.iload 7, 2) := by decide +kernel
theorem dX2_bring_62 : decode cX2_bring 62 = .ok (.iload_n 3, 1) := by decide +kernel
theorem dX2_bring_63 : decode cX2_bring 63 = .ok (.invokevirtual 71, 3) := by decide +kernel
theorem dX2_bring_66 : decode cX2_bring 66 = .ok (.aload_n 1, 1) := by decide +kernel
theorem dX2_bring_67 : decode cX2_bring 67 = .ok (.iload_n 2, 1) := by decide +kernel
theorem dX2_bring_68 : decode cX2_bring 68 = .ok (.iload 7, 2) := by decide +kernel
theorem dX2_bring_70 : decode cX2_bring 70 = .ok (.iload_n 3, 1) := by decide +kernel
theorem dX2_bring_71 : decode cX2_bring 71 = .ok (.invokevirtual 75, 3) := by decide +kernel
theorem dX2_bring_74 : decode cX2_bring 74 = .ok (.invokevirtual 78, 3) := by decide +kernel
theorem dX2_bring_77 : decode cX2_bring 77 = .ok (.lstore 8, 2) := by decide +kernel
theorem dX2_bring_79 : decode cX2_bring 79 = .ok (.aload_n 0, 1) := by decide +kernel
theorem dX2_bring_80 : decode cX2_bring 80 = .ok (.iload 6, 2) := by decide +kernel
theorem dX2_bring_82 : decode cX2_bring 82 = .ok (.iload 7, 2) := by decide +kernel
theorem dX2_bring_84 : decode cX2_bring 84 = .ok (.aload 4, 2) := by decide +kernel
theorem dX2_bring_86 : decode cX2_bring 86 = .ok (.aload_n 0, 1) := by decide +kernel
theorem dX2_bring_87 : decode cX2_bring 87 = .ok (.iload 6, 2) := by decide +kernel
theorem dX2_bring_89 : decode cX2_bring 89 = .ok (.iload 7, 2) := by decide +kernel
theorem dX2_bring_91 : decode cX2_bring 91 = .ok (.invokevirtual 81, 3) := by decide +kernel
theorem dX2_bring_94 : decode cX2_bring 94 = .ok (.lload 8, 2) := by decide +kernel
theorem dX2_bring_96 : decode cX2_bring 96 = .ok (.invokevirtual 84, 3) := by decide +kernel
theorem dX2_bring_99 : decode cX2_bring 99 = .ok (.invokevirtual 88, 3) := by decide +kernel
theorem dX2_bring_102 : decode cX2_bring 102 = .ok (.iinc 7 1, 3) := by decide +kernel
theorem dX2_bring_105 : decode cX2_bring 105 = .ok (.goto (-57), 3) := by decide +kernel
theorem dX2_bring_108 : decode cX2_bring 108 = .ok (.return_, 1) := by decide +kernel
theorem dX2_bringAll_0 : decode cX2_bringAll 0 = .ok (.aload_n 0, 1) := by decide +kernel
theorem dX2_bringAll_1 : decode cX2_bringAll 1 = .ok (.iload_n 1, 1) := by decide +kernel
theorem dX2_bringAll_2 : decode cX2_bringAll 2 = .ok (.aload_n 3, 1) := by decide +kernel
theorem dX2_bringAll_3 : decode cX2_bringAll 3 = .ok (.invokevirtual 92, 3) := by decide +kernel
theorem dX2_bringAll_6 : decode cX2_bringAll 6 = .ok (.lstore 4, 2) := by decide +kernel
theorem dX2_bringAll_8 : decode cX2_bringAll 8 = .ok (.iconst 0, 1) := by decide +kernel
theorem dX2_bringAll_9 : decode cX2_bringAll 9 = .ok (.istore 6, 2) := by decide +kernel
theorem dX2_bringAll_11 : decode cX2_bringAll 11 = .ok (.iload 6, 2) := by decide +kernel
theorem dX2_bringAll_13 : decode cX2_bringAll 13 = .ok (.sipush 300, 3) := by decide +kernel
theorem dX2_bringAll_16 : decode cX2_bringAll 16 = .ok (.if_icmp .ge 29, 3) := by decide +kernel
theorem dX2_bringAll_19 : decode cX2_bringAll 19 = .ok (.aload_n 0, 1) := by decide +kernel
theorem dX2_bringAll_20 : decode cX2_bringAll 20 = .ok (.iload_n 2, 1) := by decide +kernel
theorem dX2_bringAll_21 : decode cX2_bringAll 21 = .ok (.iload 6, 2) := by decide +kernel
theorem dX2_bringAll_23 : decode cX2_bringAll 23 = .ok (.aload_n 3, 1) := by decide +kernel
theorem dX2_bringAll_24 : decode cX2_bringAll 24 = .ok (.aload_n 0, 1) := by decide +kernel
theorem dX2_bringAll_25 : decode cX2_bringAll 25 = .ok (.iload_n 2, 1) := by decide +kernel
theorem dX2_bringAll_26 : decode cX2_bringAll 26 = .ok (.iload 6, 2) := by decide +kernel
theorem dX2_bringAll_28 : decode cX2_bringAll 28 = .ok (.invokevirtual 81, 3) := by decide +kernel
theorem dX2_bringAll_31 : decode cX2_bringAll 31 = .ok (.lload 4, 2) := by decide +kernel
theorem dX2_bringAll_33 : decode cX2_bringAll 33 = .ok (.invokevirtual 84, 3) := by decide +kernel
theorem dX2_bringAll_36 : decode cX2_bringAll 36 = .ok (.invokevirtual 88, 3) := by decide +kernel
theorem dX2_bringAll_39 : decode cX2_bringAll 39 = .ok (.iinc 6 1, 3) := by decide +kernel
theorem dX2_bringAll_42 : decode cX2_bringAll 42 = .ok (.goto (-31), 3) := by decide +kernel
theorem dX2_bringAll_45 : decode cX2_bringAll 45 = .ok (.return_, 1) := by decide +kernel
theorem dX3_none_0 : decode cX3_none 0 = .ok (.ldc2_w 15, 3) := by decide +kernel
theorem dX3_none_3 : decode cX3_none 3 = .ok (.lreturn, 1) := by decide +kernel
theorem dX3_both_0 : decode cX3_both 0 = .ok (.ldc2_w 15, 3) := by decide +kernel
theorem dX3_both_3 : decode cX3_both 3 = .ok (.lload_n 1, 1) := by decide +kernel
theorem dX3_both_4 : decode cX3_both 4 = .ok (.lload_n 3, 1) := by decide +kernel
theorem dX3_both_5 : decode cX3_both 5 = .ok (.ladd, 1) := by decide +kernel
theorem dX3_both_6 : decode cX3_both 6 = .ok (.invokestatic 17, 3) := by decide +kernel
theorem dX3_both_9 : decode cX3_both 9 = .ok (.lreturn, 1) := by decide +kernel
theorem dX3_load_0 : decode cX3_load 0 = .ok (.iconst 0, 1) := by decide +kernel
theorem dX3_load_1 : decode cX3_load 1 = .ok (.istore_n 3, 1) := by decide +kernel
theorem dX3_load_2 : decode cX3_load 2 = .ok (.iload_n 3, 1) := by decide +kernel
theorem dX3_load_3 : decode cX3_load 3 = .ok (.sipush 300, 3) := by decide +kernel
theorem dX3_load_6 : decode cX3_load 6 = .ok (.if_icmp .ge 24, 3) := by decide +kernel
theorem dX3_load_9 : decode cX3_load 9 = .ok (.aload_n 0, 1) := by decide +kernel
theorem dX3_load_10 : decode cX3_load 10 = .ok (.getfield 11, 3) := by decide +kernel
theorem dX3_load_13 : decode cX3_load 13 = .ok (.iload_n 3, 1) := by decide +kernel
theorem dX3_load_14 : decode cX3_load 14 = .ok (.aload_n 1, 1) := by decide +kernel
theorem dX3_load_15 : decode cX3_load 15 = .ok (.iload_n 2, 1) := by decide +kernel
theorem dX3_load_16 : decode cX3_load 16 = .ok (.iload_n 3, 1) := by decide +kernel
theorem dX3_load_17 : decode cX3_load 17 = .ok (.iadd, 1) := by decide +kernel
theorem dX3_load_18 : decode cX3_load 18 = .ok (.invokestatic 23, 3) := by decide +kernel
theorem dX3_load_21 : decode cX3_load 21 = .ok (.invokestatic 27, 3) := by decide +kernel
theorem dX3_load_24 : decode cX3_load 24 = .ok (.iinc 3 1, 3) := by decide +kernel
theorem dX3_load_27 : decode cX3_load 27 = .ok (.goto (-25), 3) := by decide +kernel
theorem dX3_load_30 : decode cX3_load 30 = .ok (.sipush 300, 3) := by decide +kernel
theorem dX3_load_33 : decode cX3_load 33 = .ok (.istore_n 3, 1) := by decide +kernel
theorem dX3_load_34 : decode cX3_load 34 = .ok (.iload_n 3, 1) := by decide +kernel
theorem dX3_load_35 : decode cX3_load 35 = .ok (.aload_n 0, 1) := by decide +kernel
theorem dX3_load_36 : decode cX3_load 36 = .ok (.getfield 11, 3) := by decide +kernel
theorem dX3_load_39 : decode cX3_load 39 = .ok (.arraylength, 1) := by decide +kernel
theorem dX3_load_40 : decode cX3_load 40 = .ok (.if_icmp .ge 85, 3) := by decide +kernel
theorem dX3_load_43 : decode cX3_load 43 = .ok (.iload_n 3, 1) := by decide +kernel
theorem dX3_load_44 : decode cX3_load 44 = .ok (.sipush 300, 3) := by decide +kernel
theorem dX3_load_47 : decode cX3_load 47 = .ok (.isub, 1) := by decide +kernel
theorem dX3_load_48 : decode cX3_load 48 = .ok (.istore 4, 2) := by decide +kernel
theorem dX3_load_50 : decode cX3_load 50 = .ok (.iconst 1, 1) := by decide +kernel
theorem dX3_load_51 : decode cX3_load 51 = .ok (.iload 4, 2) := by decide +kernel
theorem dX3_load_53 : decode cX3_load 53 = .ok (.sipush 300, 3) := by decide +kernel
theorem dX3_load_56 : decode cX3_load 56 = .ok (.idiv, 1) := by decide +kernel
theorem dX3_load_57 : decode cX3_load 57 = .ok (.ishl, 1) := by decide +kernel
theorem dX3_load_58 : decode cX3_load 58 = .ok (.istore 5, 2) := by decide +kernel
theorem dX3_load_60 : decode cX3_load 60 = .ok (.aload_n 0, 1) := by decide +kernel
theorem dX3_load_61 : decode cX3_load 61 = .ok (.getfield 11, 3) := by decide +kernel
theorem dX3_load_64 : decode cX3_load 64 = .ok (.iload 4, 2) := by decide +kernel
theorem dX3_load_66 : decode cX3_load 66 = .ok (.invokestatic 23, 3) := by decide +kernel
theorem dX3_load_69 : decode cX3_load 69 = .ok (.lstore 6, 2) := by decide +kernel
theorem dX3_load_71 : decode cX3_load 71 = .ok (.iload_n 3, 1) := by decide +kernel
theorem dX3_load_72 : decode cX3_load 72 = .ok (.sipush 300, 3) := by decide +kernel
theorem dX3_load_75 : decode cX3_load 75 = .ok (.irem, 1) := by decide +kernel
theorem dX3_load_76 : decode cX3_load 76 = .ok (.iload 5, 2) := by decide +kernel
theorem dX3_load_78 : decode cX3_load 78 = .ok (.iadd, 1) := by decide +kernel
theorem dX3_load_79 : decode cX3_load 79 = .ok (.sipush 300, 3) := by decide +kernel
theorem dX3_load_82 : decode cX3_load 82 = .ok (.if_icmp .ge 18, 3) := by decide +kernel
theorem dX3_load_85 : decode cX3_load 85 = .ok (.aload_n 0, 1) := by decide +kernel
theorem dX3_load_86 : decode cX3_load 86 = .ok (.getfield 11, 3) := by decide +kernel
theorem dX3_load_89 : decode cX3_load 89 = .ok (.iload 4, 2) := by decide +kernel
theorem dX3_load_91 : decode cX3_load 91 = .ok (.iload 5, 2) := by decide +kernel
theorem dX3_load_93 : decode cX3_load 93 = .ok (.iadd, 1) := by decide +kernel
theorem dX3_load_94 : decode cX3_load 94 = .ok (.invokestatic 23, 3) := by decide +kernel
theorem dX3_load_97 : decode cX3_load 97 = .ok (.goto 5, 3) := by decide +kernel
theorem dX3_load_100 : decode cX3_load 100 = .ok (.lload 6, 2) := by decide +kernel
theorem dX3_load_102 : decode cX3_load 102 = .ok (.lstore 8, 2) := by decide +kernel
theorem dX3_load_104 : decode cX3_load 104 = .ok (.aload_n 0, 1) := by decide +kernel
theorem dX3_load_105 : decode cX3_load 105 = .ok (.getfield 11, 3) := by decide +kernel
theorem dX3_load_108 : decode cX3_load 108 = .ok (.iload_n 3, 1) := by decide +kernel
theorem dX3_load_109 : decode cX3_load 109 = .ok (.lload 6, 2) := by decide +kernel
theorem dX3_load_111 : decode cX3_load 111 = .ok (.lload 8, 2) := by decide +kernel
theorem dX3_load_113 : decode cX3_load 113 = .ok (.invokestatic 17, 3) := by decide +kernel
theorem dX3_load_116 : decode cX3_load 116 = .ok (.invokestatic 27, 3) := by decide +kernel
theorem dX3_load_119 : decode cX3_load 119 = .ok (.iinc 3 1, 3) := by decide +kernel
theorem dX3_load_122 : decode cX3_load 122 = .ok (.goto (-88), 3) := by decide +kernel
theorem dX3_load_125 : decode cX3_load 125 = .ok (.return_, 1) := by decide +kernel
theorem dX3_over_0 : decode cX3_over 0 = .ok (.bipush 31, 2) := by decide +kernel
theorem dX3_over_2 : decode cX3_over 2 = .ok (.iload_n 2, 1) := by decide +kernel
theorem dX3_over_3 : decode cX3_over 3 = .ok (.iload_n 1, 1) := by decide +kernel
theorem dX3_over_4 : decode cX3_over 4 = .ok (.isub, 1) := by decide +kernel
theorem dX3_over_5 : decode cX3_over 5 = .ok (.iconst 1, 1) := by decide +kernel
theorem dX3_over_6 : decode cX3_over 6 = .ok (.iadd, 1) := by decide +kernel
theorem dX3_over_7 : decode cX3_over 7 = .ok (.invokestatic 31, 3) := by decide +kernel
theorem dX3_over_10 : decode cX3_over 10 = .ok (.isub, 1) := by decide +kernel
theorem dX3_over_11 : decode cX3_over 11 = .ok (.istore_n 3, 1) := by decide +kernel
theorem dX3_over_12 : decode cX3_over 12 = .ok (.iload_n 3, 1) := by decide +kernel
theorem dX3_over_13 : decode cX3_over 13 = .ok (.sipush 300, 3) := by decide +kernel
theorem dX3_over_16 : decode cX3_over 16 = .ok (.imul, 1) := by decide +kernel
theorem dX3_over_17 : decode cX3_over 17 = .ok (.istore 4, 2) := by decide +kernel
theorem dX3_over_19 : decode cX3_over 19 = .ok (.aload_n 0, 1) := by decide +kernel
theorem dX3_over_20 : decode cX3_over 20 = .ok (.getfield 11, 3) := by decide +kernel
theorem dX3_over_23 : decode cX3_over 23 = .ok (.iload 4, 2) := by decide +kernel
theorem dX3_over_25 : decode cX3_over 25 = .ok (.iload_n 1, 1) := by decide +kernel
theorem dX3_over_26 : decode cX3_over 26 = .ok (.iadd, 1) := by decide +kernel
theorem dX3_over_27 : decode cX3_over 27 = .ok (.invokestatic 23, 3) := by decide +kernel
theorem dX3_over_30 : decode cX3_over 30 = .ok (.aload_n 0, 1) := by decide +kernel
theorem dX3_over_31 : decode cX3_over 31 = .ok (.getfield 11, 3) := by decide +kernel
theorem dX3_over_34 : decode cX3_over 34 = .ok (.iload 4, 2) := by decide +kernel
theorem dX3_over_36 : decode cX3_over 36 = .ok (.iload_n 2, 1) := by decide +kernel
theorem dX3_over_37 : decode cX3_over 37 = .ok (.iadd, 1) := by decide +kernel
theorem dX3_over_38 : decode cX3_over 38 = .ok (.iconst 1, 1) := by decide +kernel
theorem dX3_over_39 : decode cX3_over 39 = .ok (.iadd, 1) := by decide +kernel
theorem dX3_over_40 : decode cX3_over 40 = .ok (.iconst 1, 1) := by decide +kernel
theorem dX3_over_41 : decode cX3_over 41 = .ok (.iload_n 3, 1) := by decide +kernel
theorem dX3_over_42 : decode cX3_over 42 = .ok (.ishl, 1) := by decide +kernel
theorem dX3_over_43 : decode cX3_over 43 = .ok (.isub, 1) := by decide +kernel
theorem dX3_over_44 : decode cX3_over 44 = .ok (.invokestatic 23, 3) := by decide +kernel
theorem dX3_over_47 : decode cX3_over 47 = .ok (.invokestatic 17, 3) := by decide +kernel
theorem dX3_over_50 : decode cX3_over 50 = .ok (.lreturn, 1) := by decide +kernel
theorem dX4_take_0 : decode cX4_take 0 = .ok (.aload_n 0, 1) := by decide +kernel
theorem dX4_take_1 : decode cX4_take 1 = .ok (.aload_n 1, 1) := by decide +kernel
theorem dX4_take_2 : decode cX4_take 2 = .ok (.getfield 24, 3) := by decide +kernel
theorem dX4_take_5 : decode cX4_take 5 = .ok (.putfield 24, 3) := by decide +kernel
theorem dX4_take_8 : decode cX4_take 8 = .ok (.aload_n 0, 1) := by decide +kernel
theorem dX4_take_9 : decode cX4_take 9 = .ok (.aload_n 1, 1) := by decide +kernel
theorem dX4_take_10 : decode cX4_take 10 = .ok (.getfield 32, 3) := by decide +kernel
theorem dX4_take_13 : decode cX4_take 13 = .ok (.putfield 32, 3) := by decide +kernel
theorem dX4_take_16 : decode cX4_take 16 = .ok (.aload_n 1, 1) := by decide +kernel
theorem dX4_take_17 : decode cX4_take 17 = .ok (.getfield 9, 3) := by decide +kernel
theorem dX4_take_20 : decode cX4_take 20 = .ok (.aload_n 0, 1) := by decide +kernel
theorem dX4_take_21 : decode cX4_take 21 = .ok (.getfield 9, 3) := by decide +kernel
theorem dX4_take_24 : decode cX4_take 24 = .ok (.invokestatic 35, 3) := by decide +kernel
theorem dX4_take_27 : decode cX4_take 27 = .ok (.aload_n 1, 1) := by decide +kernel
theorem dX4_take_28 : decode cX4_take 28 = .ok (.getfield 15, 3) := by decide +kernel
theorem dX4_take_31 : decode cX4_take 31 = .ok (.aload_n 0, 1) := by decide +kernel
theorem dX4_take_32 : decode cX4_take 32 = .ok (.getfield 15, 3) := by decide +kernel
theorem dX4_take_35 : decode cX4_take 35 = .ok (.invokestatic 35, 3) := by decide +kernel
theorem dX4_take_38 : decode cX4_take 38 = .ok (.aload_n 1, 1) := by decide +kernel
theorem dX4_take_39 : decode cX4_take 39 = .ok (.getfield 18, 3) := by decide +kernel
theorem dX4_take_42 : decode cX4_take 42 = .ok (.aload_n 0, 1) := by decide +kernel
theorem dX4_take_43 : decode cX4_take 43 = .ok (.getfield 18, 3) := by decide +kernel
theorem dX4_take_46 : decode cX4_take 46 = .ok (.invokestatic 35, 3) := by decide +kernel
theorem dX4_take_49 : decode cX4_take 49 = .ok (.aload_n 1, 1) := by decide +kernel
theorem dX4_take_50 : decode cX4_take 50 = .ok (.getfield 21, 3) := by decide +kernel
theorem dX4_take_53 : decode cX4_take 53 = .ok (.aload_n 0, 1) := by decide +kernel
theorem dX4_take_54 : decode cX4_take 54 = .ok (.getfield 21, 3) := by decide +kernel
theorem dX4_take_57 : decode cX4_take 57 = .ok (.invokestatic 35, 3) := by decide +kernel
theorem dX4_take_60 : decode cX4_take 60 = .ok (.return_, 1) := by decide +kernel
theorem dX7_joinings_0 : decode cX7_joinings 0 = .ok (.iconst 0, 1) := by decide +kernel
theorem dX7_joinings_1 : decode cX7_joinings 1 = .ok (.istore_n 1, 1) := by decide +kernel
theorem dX7_joinings_2 : decode cX7_joinings 2 = .ok (.iconst 0, 1) := by decide +kernel
theorem dX7_joinings_3 : decode cX7_joinings 3 = .ok (.istore_n 2, 1) := by decide +kernel
theorem dX7_joinings_4 : decode cX7_joinings 4 = .ok (.iload_n 2, 1) := by decide +kernel
theorem dX7_joinings_5 : decode cX7_joinings 5 = .ok (.aload_n 0, 1) := by decide +kernel
theorem dX7_joinings_6 : decode cX7_joinings 6 = .ok (.getfield 30, 3) := by decide +kernel
theorem dX7_joinings_9 : decode cX7_joinings 9 = .ok (.if_icmp .ge 28, 3) := by decide +kernel
theorem dX7_joinings_12 : decode cX7_joinings 12 = .ok (.iload_n 1, 1) := by decide +kernel
theorem dX7_joinings_13 : decode cX7_joinings 13 = .ok (.aload_n 0, 1) := by decide +kernel
theorem dX7_joinings_14 : decode cX7_joinings 14 = .ok (.getfield 21, 3) := by decide +kernel
theorem dX7_joinings_17 : decode cX7_joinings 17 = .ok (.iload_n 2, 1) := by decide +kernel
theorem dX7_joinings_18 : decode cX7_joinings 18 = .ok (.invokestatic 42, 3) := by decide +kernel
theorem dX7_joinings_21 : decode cX7_joinings 21 = .ok (.ifCond .lt 7, 3) := by decide +kernel
theorem dX7_joinings_24 : decode cX7_joinings 24 = .ok (.iconst 1, 1) := by decide +kernel
theorem dX7_joinings_25 : decode cX7_joinings 25 = .ok (.goto 4, 3) := by decide +kernel
theorem dX7_joinings_28 : decode cX7_joinings 28 = .ok (.iconst 0, 1) := by decide +kernel
theorem dX7_joinings_29 : decode cX7_joinings 29 = .ok (.iadd, 1) := by decide +kernel
theorem dX7_joinings_30 : decode cX7_joinings 30 = .ok (.istore_n 1, 1) := by decide +kernel
theorem dX7_joinings_31 : decode cX7_joinings 31 = .ok (.iinc 2 1, 3) := by decide +kernel
theorem dX7_joinings_34 : decode cX7_joinings 34 = .ok (.goto (-30), 3) := by decide +kernel
theorem dX7_joinings_37 : decode cX7_joinings 37 = .ok (.iload_n 1, 1) := by decide +kernel
theorem dX7_joinings_38 : decode cX7_joinings 38 = .ok (.ireturn, 1) := by decide +kernel
theorem dX7_take_0 : decode cX7_take 0 = .ok (.aload_n 0, 1) := by decide +kernel
theorem dX7_take_1 : decode cX7_take 1 = .ok (.aload_n 1, 1) := by decide +kernel
theorem dX7_take_2 : decode cX7_take 2 = .ok (.getfield 30, 3) := by decide +kernel
theorem dX7_take_5 : decode cX7_take 5 = .ok (.putfield 30, 3) := by decide +kernel
theorem dX7_take_8 : decode cX7_take 8 = .ok (.aload_n 1, 1) := by decide +kernel
theorem dX7_take_9 : decode cX7_take 9 = .ok (.getfield 9, 3) := by decide +kernel
theorem dX7_take_12 : decode cX7_take 12 = .ok (.aload_n 0, 1) := by decide +kernel
theorem dX7_take_13 : decode cX7_take 13 = .ok (.getfield 9, 3) := by decide +kernel
theorem dX7_take_16 : decode cX7_take 16 = .ok (.invokestatic 46, 3) := by decide +kernel
theorem dX7_take_19 : decode cX7_take 19 = .ok (.aload_n 1, 1) := by decide +kernel
theorem dX7_take_20 : decode cX7_take 20 = .ok (.getfield 15, 3) := by decide +kernel
theorem dX7_take_23 : decode cX7_take 23 = .ok (.aload_n 0, 1) := by decide +kernel
theorem dX7_take_24 : decode cX7_take 24 = .ok (.getfield 15, 3) := by decide +kernel
theorem dX7_take_27 : decode cX7_take 27 = .ok (.invokestatic 46, 3) := by decide +kernel
theorem dX7_take_30 : decode cX7_take 30 = .ok (.aload_n 1, 1) := by decide +kernel
theorem dX7_take_31 : decode cX7_take 31 = .ok (.getfield 18, 3) := by decide +kernel
theorem dX7_take_34 : decode cX7_take 34 = .ok (.aload_n 0, 1) := by decide +kernel
theorem dX7_take_35 : decode cX7_take 35 = .ok (.getfield 18, 3) := by decide +kernel
theorem dX7_take_38 : decode cX7_take 38 = .ok (.invokestatic 46, 3) := by decide +kernel
theorem dX7_take_41 : decode cX7_take 41 = .ok (.aload_n 1, 1) := by decide +kernel
theorem dX7_take_42 : decode cX7_take 42 = .ok (.getfield 21, 3) := by decide +kernel
theorem dX7_take_45 : decode cX7_take 45 = .ok (.aload_n 0, 1) := by decide +kernel
theorem dX7_take_46 : decode cX7_take 46 = .ok (.getfield 21, 3) := by decide +kernel
theorem dX7_take_49 : decode cX7_take 49 = .ok (.invokestatic 46, 3) := by decide +kernel
theorem dX7_take_52 : decode cX7_take 52 = .ok (.aload_n 1, 1) := by decide +kernel
theorem dX7_take_53 : decode cX7_take 53 = .ok (.getfield 24, 3) := by decide +kernel
theorem dX7_take_56 : decode cX7_take 56 = .ok (.aload_n 0, 1) := by decide +kernel
theorem dX7_take_57 : decode cX7_take 57 = .ok (.getfield 24, 3) := by decide +kernel
theorem dX7_take_60 : decode cX7_take 60 = .ok (.invokestatic 46, 3) := by decide +kernel
theorem dX7_take_63 : decode cX7_take 63 = .ok (.aload_n 1, 1) := by decide +kernel
theorem dX7_take_64 : decode cX7_take 64 = .ok (.getfield 27, 3) := by decide +kernel
theorem dX7_take_67 : decode cX7_take 67 = .ok (.aload_n 0, 1) := by decide +kernel
theorem dX7_take_68 : decode cX7_take 68 = .ok (.getfield 27, 3) := by decide +kernel
theorem dX7_take_71 : decode cX7_take 71 = .ok (.invokestatic 46, 3) := by decide +kernel
theorem dX7_take_74 : decode cX7_take 74 = .ok (.return_, 1) := by decide +kernel
theorem dX8_take_0 : decode cX8_take 0 = .ok (.aload_n 0, 1) := by decide +kernel
theorem dX8_take_1 : decode cX8_take 1 = .ok (.getfield 12, 3) := by decide +kernel
theorem dX8_take_4 : decode cX8_take 4 = .ok (.aload_n 1, 1) := by decide +kernel
theorem dX8_take_5 : decode cX8_take 5 = .ok (.getfield 12, 3) := by decide +kernel
theorem dX8_take_8 : decode cX8_take 8 = .ok (.invokevirtual 56, 3) := by decide +kernel
theorem dX8_take_11 : decode cX8_take 11 = .ok (.aload_n 0, 1) := by decide +kernel
theorem dX8_take_12 : decode cX8_take 12 = .ok (.getfield 21, 3) := by decide +kernel
theorem dX8_take_15 : decode cX8_take 15 = .ok (.aload_n 1, 1) := by decide +kernel
theorem dX8_take_16 : decode cX8_take 16 = .ok (.getfield 21, 3) := by decide +kernel
theorem dX8_take_19 : decode cX8_take 19 = .ok (.invokevirtual 60, 3) := by decide +kernel
theorem dX8_take_22 : decode cX8_take 22 = .ok (.aload_n 0, 1) := by decide +kernel
theorem dX8_take_23 : decode cX8_take 23 = .ok (.aload_n 1, 1) := by decide +kernel
theorem dX8_take_24 : decode cX8_take 24 = .ok (.getfield 25, 3) := by decide +kernel
theorem dX8_take_27 : decode cX8_take 27 = .ok (.putfield 25, 3) := by decide +kernel
theorem dX8_take_30 : decode cX8_take 30 = .ok (.aload_n 0, 1) := by decide +kernel
theorem dX8_take_31 : decode cX8_take 31 = .ok (.aload_n 1, 1) := by decide +kernel
theorem dX8_take_32 : decode cX8_take 32 = .ok (.getfield 29, 3) := by decide +kernel
theorem dX8_take_35 : decode cX8_take 35 = .ok (.aload_n 1, 1) := by decide +kernel
theorem dX8_take_36 : decode cX8_take 36 = .ok (.getfield 32, 3) := by decide +kernel
theorem dX8_take_39 : decode cX8_take 39 = .ok (.invokevirtual 45, 3) := by decide +kernel
theorem dX8_take_42 : decode cX8_take 42 = .ok (.aload_n 0, 1) := by decide +kernel
theorem dX8_take_43 : decode cX8_take 43 = .ok (.aload_n 1, 1) := by decide +kernel
theorem dX8_take_44 : decode cX8_take 44 = .ok (.getfield 49, 3) := by decide +kernel
theorem dX8_take_47 : decode cX8_take 47 = .ok (.putfield 49, 3) := by decide +kernel
theorem dX8_take_50 : decode cX8_take 50 = .ok (.aload_n 1, 1) := by decide +kernel
theorem dX8_take_51 : decode cX8_take 51 = .ok (.getfield 35, 3) := by decide +kernel
theorem dX8_take_54 : decode cX8_take 54 = .ok (.aload_n 0, 1) := by decide +kernel
theorem dX8_take_55 : decode cX8_take 55 = .ok (.getfield 35, 3) := by decide +kernel
theorem dX8_take_58 : decode cX8_take 58 = .ok (.invokestatic 63, 3) := by decide +kernel
theorem dX8_take_61 : decode cX8_take 61 = .ok (.aload_n 1, 1) := by decide +kernel
theorem dX8_take_62 : decode cX8_take 62 = .ok (.getfield 39, 3) := by decide +kernel
theorem dX8_take_65 : decode cX8_take 65 = .ok (.aload_n 0, 1) := by decide +kernel
theorem dX8_take_66 : decode cX8_take 66 = .ok (.getfield 39, 3) := by decide +kernel
theorem dX8_take_69 : decode cX8_take 69 = .ok (.invokestatic 63, 3) := by decide +kernel
theorem dX8_take_72 : decode cX8_take 72 = .ok (.return_, 1) := by decide +kernel
theorem dX9_ways_0 : decode cX9_ways 0 = .ok (.aload_n 0, 1) := by decide +kernel
theorem dX9_ways_1 : decode cX9_ways 1 = .ok (.getfield 36, 3) := by decide +kernel
theorem dX9_ways_4 : decode cX9_ways 4 = .ok (.aload_n 0, 1) := by decide +kernel
theorem dX9_ways_5 : decode cX9_ways 5 = .ok (.getfield 12, 3) := by decide +kernel
theorem dX9_ways_8 : decode cX9_ways 8 = .ok (.invokevirtual 156, 3) := by decide +kernel
theorem dX9_ways_11 : decode cX9_ways 11 = .ok (.aload_n 0, 1) := by decide +kernel
theorem dX9_ways_12 : decode cX9_ways 12 = .ok (.iconst (-1), 1) := by decide +kernel
theorem dX9_ways_13 : decode cX9_ways 13 = .ok (.invokevirtual 164, 3) := by decide +kernel
theorem dX9_ways_16 : decode cX9_ways 16 = .ok (.lreturn, 1) := by decide +kernel
theorem dX9_may_0 : decode cX9_may 0 = .ok (.aload_n 0, 1) := by decide +kernel
theorem dX9_may_1 : decode cX9_may 1 = .ok (.iload_n 1, 1) := by decide +kernel
theorem dX9_may_2 : decode cX9_may 2 = .ok (.invokevirtual 99, 3) := by decide +kernel
theorem dX9_may_5 : decode cX9_may 5 = .ok (.ifCond .ne 9, 3) := by decide +kernel
theorem dX9_may_8 : decode cX9_may 8 = .ok (.aload_n 0, 1) := by decide +kernel
theorem dX9_may_9 : decode cX9_may 9 = .ok (.iconst (-1), 1) := by decide +kernel
theorem dX9_may_10 : decode cX9_may 10 = .ok (.invokevirtual 61, 3) := by decide +kernel
theorem dX9_may_13 : decode cX9_may 13 = .ok (.ireturn, 1) := by decide +kernel
theorem dX9_may_14 : decode cX9_may 14 = .ok (.aload_n 0, 1) := by decide +kernel
theorem dX9_may_15 : decode cX9_may 15 = .ok (.getfield 36, 3) := by decide +kernel
theorem dX9_may_18 : decode cX9_may 18 = .ok (.aload_n 0, 1) := by decide +kernel
theorem dX9_may_19 : decode cX9_may 19 = .ok (.getfield 12, 3) := by decide +kernel
theorem dX9_may_22 : decode cX9_may 22 = .ok (.invokevirtual 156, 3) := by decide +kernel
theorem dX9_may_25 : decode cX9_may 25 = .ok (.aload_n 0, 1) := by decide +kernel
theorem dX9_may_26 : decode cX9_may 26 = .ok (.iload_n 1, 1) := by decide +kernel
theorem dX9_may_27 : decode cX9_may 27 = .ok (.invokevirtual 168, 3) := by decide +kernel
theorem dX9_may_30 : decode cX9_may 30 = .ok (.iconst 0, 1) := by decide +kernel
theorem dX9_may_31 : decode cX9_may 31 = .ok (.istore_n 2, 1) := by decide +kernel
theorem dX9_may_32 : decode cX9_may 32 = .ok (.iconst 0, 1) := by decide +kernel
theorem dX9_may_33 : decode cX9_may 33 = .ok (.istore_n 3, 1) := by decide +kernel
theorem dX9_may_34 : decode cX9_may 34 = .ok (.iload_n 3, 1) := by decide +kernel
theorem dX9_may_35 : decode cX9_may 35 = .ok (.sipush 300, 3) := by decide +kernel
theorem dX9_may_38 : decode cX9_may 38 = .ok (.if_icmp .ge 26, 3) := by decide +kernel
theorem dX9_may_41 : decode cX9_may 41 = .ok (.aload_n 0, 1) := by decide +kernel
theorem dX9_may_42 : decode cX9_may 42 = .ok (.getfield 43, 3) := by decide +kernel
theorem dX9_may_45 : decode cX9_may 45 = .ok (.iload_n 1, 1) := by decide +kernel
theorem dX9_may_46 : decode cX9_may 46 = .ok (.iload_n 3, 1) := by decide +kernel
theorem dX9_may_47 : decode cX9_may 47 = .ok (.invokevirtual 172, 3) := by decide +kernel
theorem dX9_may_50 : decode cX9_may 50 = .ok (.lconst 0, 1) := by decide +kernel
theorem dX9_may_51 : decode cX9_may 51 = .ok (.lcmp, 1) := by decide +kernel
theorem dX9_may_52 : decode cX9_may 52 = .ok (.ifCond .le 6, 3) := by decide +kernel
theorem dX9_may_55 : decode cX9_may 55 = .ok (.iinc 2 1, 3) := by decide +kernel
theorem dX9_may_58 : decode cX9_may 58 = .ok (.iinc 3 1, 3) := by decide +kernel
theorem dX9_may_61 : decode cX9_may 61 = .ok (.goto (-27), 3) := by decide +kernel
theorem dX9_may_64 : decode cX9_may 64 = .ok (.iload_n 2, 1) := by decide +kernel
theorem dX9_may_65 : decode cX9_may 65 = .ok (.ireturn, 1) := by decide +kernel
theorem dX9_run_0 : decode cX9_run 0 = .ok (.aload_n 0, 1) := by decide +kernel
theorem dX9_run_1 : decode cX9_run 1 = .ok (.iload_n 1, 1) := by decide +kernel
theorem dX9_run_2 : decode cX9_run 2 = .ok (.invokevirtual 99, 3) := by decide +kernel
theorem dX9_run_5 : decode cX9_run 5 = .ok (.ifCond .ne 9, 3) := by decide +kernel
theorem dX9_run_8 : decode cX9_run 8 = .ok (.aload_n 0, 1) := by decide +kernel
theorem dX9_run_9 : decode cX9_run 9 = .ok (.iconst (-1), 1) := by decide +kernel
theorem dX9_run_10 : decode cX9_run 10 = .ok (.invokevirtual 61, 3) := by decide +kernel
theorem dX9_run_13 : decode cX9_run 13 = .ok (.ireturn, 1) := by decide +kernel
theorem dX9_run_14 : decode cX9_run 14 = .ok (.iload_n 3, 1) := by decide +kernel
theorem dX9_run_15 : decode cX9_run 15 = .ok (.ifCond .eq 15, 3) := by decide +kernel
theorem dX9_run_18 : decode cX9_run 18 = .ok (.iload_n 3, 1) := by decide +kernel
theorem dX9_run_19 : decode cX9_run 19 = .ok (.iconst 1, 1) := by decide +kernel
theorem dX9_run_20 : decode cX9_run 20 = .ok (.if_icmp .eq 10, 3) := by decide +kernel
theorem dX9_run_23 : decode cX9_run 23 = .ok (.aload_n 0, 1) := by decide +kernel
theorem dX9_run_24 : decode cX9_run 24 = .ok (.bipush (-2), 2) := by decide +kernel
theorem dX9_run_26 : decode cX9_run 26 = .ok (.invokevirtual 61, 3) := by decide +kernel
theorem dX9_run_29 : decode cX9_run 29 = .ok (.ireturn, 1) := by decide +kernel
theorem dX9_run_30 : decode cX9_run 30 = .ok (.aload_n 0, 1) := by decide +kernel
theorem dX9_run_31 : decode cX9_run 31 = .ok (.getfield 36, 3) := by decide +kernel
theorem dX9_run_34 : decode cX9_run 34 = .ok (.aload_n 0, 1) := by decide +kernel
theorem dX9_run_35 : decode cX9_run 35 = .ok (.getfield 12, 3) := by decide +kernel
theorem dX9_run_38 : decode cX9_run 38 = .ok (.invokevirtual 156, 3) := by decide +kernel
theorem dX9_run_41 : decode cX9_run 41 = .ok (.aload_n 0, 1) := by decide +kernel
theorem dX9_run_42 : decode cX9_run 42 = .ok (.iload_n 1, 1) := by decide +kernel
theorem dX9_run_43 : decode cX9_run 43 = .ok (.invokevirtual 168, 3) := by decide +kernel
theorem dX9_run_46 : decode cX9_run 46 = .ok (.aload_n 0, 1) := by decide +kernel
theorem dX9_run_47 : decode cX9_run 47 = .ok (.iload_n 1, 1) := by decide +kernel
theorem dX9_run_48 : decode cX9_run 48 = .ok (.iload_n 2, 1) := by decide +kernel
theorem dX9_run_49 : decode cX9_run 49 = .ok (.invokevirtual 176, 3) := by decide +kernel
theorem dX9_run_52 : decode cX9_run 52 = .ok (.istore 4, 2) := by decide +kernel
theorem dX9_run_54 : decode cX9_run 54 = .ok (.iload 4, 2) := by decide +kernel
theorem dX9_run_56 : decode cX9_run 56 = .ok (.bipush (-9), 2) := by decide +kernel
theorem dX9_run_58 : decode cX9_run 58 = .ok (.if_icmp .eq 7, 3) := by decide +kernel
theorem dX9_run_61 : decode cX9_run 61 = .ok (.iload_n 3, 1) := by decide +kernel
theorem dX9_run_62 : decode cX9_run 62 = .ok (.ifCond .ne 6, 3) := by decide +kernel
theorem dX9_run_65 : decode cX9_run 65 = .ok (.iload 4, 2) := by decide +kernel
theorem dX9_run_67 : decode cX9_run 67 = .ok (.ireturn, 1) := by decide +kernel
theorem dX9_run_68 : decode cX9_run 68 = .ok (.aload_n 0, 1) := by decide +kernel
theorem dX9_run_69 : decode cX9_run 69 = .ok (.iload_n 1, 1) := by decide +kernel
theorem dX9_run_70 : decode cX9_run 70 = .ok (.iload 4, 2) := by decide +kernel
theorem dX9_run_72 : decode cX9_run 72 = .ok (.invokevirtual 179, 3) := by decide +kernel
theorem dX9_run_75 : decode cX9_run 75 = .ok (.ireturn, 1) := by decide +kernel
theorem dX9_chance_0 : decode cX9_chance 0 = .ok (.aload_n 0, 1) := by decide +kernel
theorem dX9_chance_1 : decode cX9_chance 1 = .ok (.iload_n 1, 1) := by decide +kernel
theorem dX9_chance_2 : decode cX9_chance 2 = .ok (.invokevirtual 99, 3) := by decide +kernel
theorem dX9_chance_5 : decode cX9_chance 5 = .ok (.ifCond .ne 10, 3) := by decide +kernel
theorem dX9_chance_8 : decode cX9_chance 8 = .ok (.aload_n 0, 1) := by decide +kernel
theorem dX9_chance_9 : decode cX9_chance 9 = .ok (.iconst (-1), 1) := by decide +kernel
theorem dX9_chance_10 : decode cX9_chance 10 = .ok (.invokevirtual 61, 3) := by decide +kernel
theorem dX9_chance_13 : decode cX9_chance 13 = .ok (.i2l, 1) := by decide +kernel
theorem dX9_chance_14 : decode cX9_chance 14 = .ok (.lreturn, 1) := by decide +kernel
theorem dX9_chance_15 : decode cX9_chance 15 = .ok (.iload_n 3, 1) := by decide +kernel
theorem dX9_chance_16 : decode cX9_chance 16 = .ok (.ifCond .eq 16, 3) := by decide +kernel
theorem dX9_chance_19 : decode cX9_chance 19 = .ok (.iload_n 3, 1) := by decide +kernel
theorem dX9_chance_20 : decode cX9_chance 20 = .ok (.iconst 1, 1) := by decide +kernel
theorem dX9_chance_21 : decode cX9_chance 21 = .ok (.if_icmp .eq 11, 3) := by decide +kernel
theorem dX9_chance_24 : decode cX9_chance 24 = .ok (.aload_n 0, 1) := by decide +kernel
theorem dX9_chance_25 : decode cX9_chance 25 = .ok (.bipush (-2), 2) := by decide +kernel
theorem dX9_chance_27 : decode cX9_chance 27 = .ok (.invokevirtual 61, 3) := by decide +kernel
theorem dX9_chance_30 : decode cX9_chance 30 = .ok (.i2l, 1) := by decide +kernel
theorem dX9_chance_31 : decode cX9_chance 31 = .ok (.lreturn, 1) := by decide +kernel
theorem dX9_chance_32 : decode cX9_chance 32 = .ok (.iload_n 2, 1) := by decide +kernel
theorem dX9_chance_33 : decode cX9_chance 33 = .ok (.invokestatic 153, 3) := by decide +kernel
theorem dX9_chance_36 : decode cX9_chance 36 = .ok (.istore 4, 2) := by decide +kernel
theorem dX9_chance_38 : decode cX9_chance 38 = .ok (.iload 4, 2) := by decide +kernel
theorem dX9_chance_40 : decode cX9_chance 40 = .ok (.ifCond .ge 11, 3) := by decide +kernel
theorem dX9_chance_43 : decode cX9_chance 43 = .ok (.aload_n 0, 1) := by decide +kernel
theorem dX9_chance_44 : decode cX9_chance 44 = .ok (.iload 4, 2) := by decide +kernel
theorem dX9_chance_46 : decode cX9_chance 46 = .ok (.invokevirtual 61, 3) := by decide +kernel
theorem dX9_chance_49 : decode cX9_chance 49 = .ok (.i2l, 1) := by decide +kernel
theorem dX9_chance_50 : decode cX9_chance 50 = .ok (.lreturn, 1) := by decide +kernel
theorem dX9_chance_51 : decode cX9_chance 51 = .ok (.aload_n 0, 1) := by decide +kernel
theorem dX9_chance_52 : decode cX9_chance 52 = .ok (.getfield 36, 3) := by decide +kernel
theorem dX9_chance_55 : decode cX9_chance 55 = .ok (.aload_n 0, 1) := by decide +kernel
theorem dX9_chance_56 : decode cX9_chance 56 = .ok (.getfield 12, 3) := by decide +kernel
theorem dX9_chance_59 : decode cX9_chance 59 = .ok (.invokevirtual 156, 3) := by decide +kernel
theorem dX9_chance_62 : decode cX9_chance 62 = .ok (.aload_n 0, 1) := by decide +kernel
theorem dX9_chance_63 : decode cX9_chance 63 = .ok (.iload_n 1, 1) := by decide +kernel
theorem dX9_chance_64 : decode cX9_chance 64 = .ok (.invokevirtual 168, 3) := by decide +kernel
theorem dX9_chance_67 : decode cX9_chance 67 = .ok (.aload_n 0, 1) := by decide +kernel
theorem dX9_chance_68 : decode cX9_chance 68 = .ok (.getfield 43, 3) := by decide +kernel
theorem dX9_chance_71 : decode cX9_chance 71 = .ok (.iload_n 1, 1) := by decide +kernel
theorem dX9_chance_72 : decode cX9_chance 72 = .ok (.iload_n 2, 1) := by decide +kernel
theorem dX9_chance_73 : decode cX9_chance 73 = .ok (.invokevirtual 172, 3) := by decide +kernel
theorem dX9_chance_76 : decode cX9_chance 76 = .ok (.lstore 5, 2) := by decide +kernel
theorem dX9_chance_78 : decode cX9_chance 78 = .ok (.aload_n 0, 1) := by decide +kernel
theorem dX9_chance_79 : decode cX9_chance 79 = .ok (.getfield 43, 3) := by decide +kernel
theorem dX9_chance_82 : decode cX9_chance 82 = .ok (.iload_n 1, 1) := by decide +kernel
theorem dX9_chance_83 : decode cX9_chance 83 = .ok (.aload_n 0, 1) := by decide +kernel
theorem dX9_chance_84 : decode cX9_chance 84 = .ok (.getfield 50, 3) := by decide +kernel
theorem dX9_chance_87 : decode cX9_chance 87 = .ok (.invokevirtual 182, 3) := by decide +kernel
theorem dX9_chance_90 : decode cX9_chance 90 = .ok (.lstore 7, 2) := by decide +kernel
theorem dX9_chance_92 : decode cX9_chance 92 = .ok (.lload 7, 2) := by decide +kernel
theorem dX9_chance_94 : decode cX9_chance 94 = .ok (.lload 5, 2) := by decide +kernel
theorem dX9_chance_96 : decode cX9_chance 96 = .ok (.invokestatic 186, 3) := by decide +kernel
theorem dX9_chance_99 : decode cX9_chance 99 = .ok (.lstore 9, 2) := by decide +kernel
theorem dX9_chance_101 : decode cX9_chance 101 = .ok (.lload 9, 2) := by decide +kernel
theorem dX9_chance_103 : decode cX9_chance 103 = .ok (.lconst 0, 1) := by decide +kernel
theorem dX9_chance_104 : decode cX9_chance 104 = .ok (.lcmp, 1) := by decide +kernel
theorem dX9_chance_105 : decode cX9_chance 105 = .ok (.ifCond .ne 6, 3) := by decide +kernel
theorem dX9_chance_108 : decode cX9_chance 108 = .ok (.iload_n 3, 1) := by decide +kernel
theorem dX9_chance_109 : decode cX9_chance 109 = .ok (.i2l, 1) := by decide +kernel
theorem dX9_chance_110 : decode cX9_chance 110 = .ok (.lreturn, 1) := by decide +kernel
theorem dX9_chance_111 : decode cX9_chance 111 = .ok (.iload_n 3, 1) := by decide +kernel
theorem dX9_chance_112 : decode cX9_chance 112 = .ok (.ifCond .ne 8, 3) := by decide +kernel
theorem dX9_chance_115 : decode cX9_chance 115 = .ok (.lload 5, 2) := by decide +kernel
theorem dX9_chance_117 : decode cX9_chance 117 = .ok (.goto 5, 3) := by decide +kernel
theorem dX9_chance_120 : decode cX9_chance 120 = .ok (.lload 7, 2) := by decide +kernel
theorem dX9_chance_122 : decode cX9_chance 122 = .ok (.lload 9, 2) := by decide +kernel
theorem dX9_chance_124 : decode cX9_chance 124 = .ok (.ldiv, 1) := by decide +kernel
theorem dX9_chance_125 : decode cX9_chance 125 = .ok (.lreturn, 1) := by decide +kernel
theorem dX9_put_0 : decode cX9_put 0 = .ok (.iload_n 1, 1) := by decide +kernel
theorem dX9_put_1 : decode cX9_put 1 = .ok (.invokestatic 153, 3) := by decide +kernel
theorem dX9_put_4 : decode cX9_put 4 = .ok (.istore_n 2, 1) := by decide +kernel
theorem dX9_put_5 : decode cX9_put 5 = .ok (.iload_n 2, 1) := by decide +kernel
theorem dX9_put_6 : decode cX9_put 6 = .ok (.ifCond .ge 9, 3) := by decide +kernel
theorem dX9_put_9 : decode cX9_put 9 = .ok (.aload_n 0, 1) := by decide +kernel
theorem dX9_put_10 : decode cX9_put 10 = .ok (.iload_n 2, 1) := by decide +kernel
theorem dX9_put_11 : decode cX9_put 11 = .ok (.invokevirtual 61, 3) := by decide +kernel
theorem dX9_put_14 : decode cX9_put 14 = .ok (.ireturn, 1) := by decide +kernel
theorem dX9_put_15 : decode cX9_put 15 = .ok (.aload_n 0, 1) := by decide +kernel
theorem dX9_put_16 : decode cX9_put 16 = .ok (.getfield 190, 3) := by decide +kernel
theorem dX9_put_19 : decode cX9_put 19 = .ok (.bipush 6, 2) := by decide +kernel
theorem dX9_put_21 : decode cX9_put 21 = .ok (.if_icmp .lt 10, 3) := by decide +kernel
theorem dX9_put_24 : decode cX9_put 24 = .ok (.aload_n 0, 1) := by decide +kernel
theorem dX9_put_25 : decode cX9_put 25 = .ok (.bipush (-6), 2) := by decide +kernel
theorem dX9_put_27 : decode cX9_put 27 = .ok (.invokevirtual 61, 3) := by decide +kernel
theorem dX9_put_30 : decode cX9_put 30 = .ok (.ireturn, 1) := by decide +kernel
theorem dX9_put_31 : decode cX9_put 31 = .ok (.aload_n 0, 1) := by decide +kernel
theorem dX9_put_32 : decode cX9_put 32 = .ok (.getfield 26, 3) := by decide +kernel
theorem dX9_put_35 : decode cX9_put 35 = .ok (.aload_n 0, 1) := by decide +kernel
theorem dX9_put_36 : decode cX9_put 36 = .ok (.getfield 190, 3) := by decide +kernel
theorem dX9_put_39 : decode cX9_put 39 = .ok (.iload_n 1, 1) := by decide +kernel
theorem dX9_put_40 : decode cX9_put 40 = .ok (.invokestatic 193, 3) := by decide +kernel
theorem dX9_put_43 : decode cX9_put 43 = .ok (.aload_n 0, 1) := by decide +kernel
theorem dX9_put_44 : decode cX9_put 44 = .ok (.dup, 1) := by decide +kernel
theorem dX9_put_45 : decode cX9_put 45 = .ok (.getfield 190, 3) := by decide +kernel
theorem dX9_put_48 : decode cX9_put 48 = .ok (.iconst 1, 1) := by decide +kernel
theorem dX9_put_49 : decode cX9_put 49 = .ok (.iadd, 1) := by decide +kernel
theorem dX9_put_50 : decode cX9_put 50 = .ok (.putfield 190, 3) := by decide +kernel
theorem dX9_put_53 : decode cX9_put 53 = .ok (.aload_n 0, 1) := by decide +kernel
theorem dX9_put_54 : decode cX9_put 54 = .ok (.getfield 190, 3) := by decide +kernel
theorem dX9_put_57 : decode cX9_put 57 = .ok (.ireturn, 1) := by decide +kernel
theorem dX9_judge_0 : decode cX9_judge 0 = .ok (.aload_n 0, 1) := by decide +kernel
theorem dX9_judge_1 : decode cX9_judge 1 = .ok (.getfield 190, 3) := by decide +kernel
theorem dX9_judge_4 : decode cX9_judge 4 = .ok (.istore_n 1, 1) := by decide +kernel
theorem dX9_judge_5 : decode cX9_judge 5 = .ok (.aload_n 0, 1) := by decide +kernel
theorem dX9_judge_6 : decode cX9_judge 6 = .ok (.iconst 0, 1) := by decide +kernel
theorem dX9_judge_7 : decode cX9_judge 7 = .ok (.putfield 190, 3) := by decide +kernel
theorem dX9_judge_10 : decode cX9_judge 10 = .ok (.iload_n 1, 1) := by decide +kernel
theorem dX9_judge_11 : decode cX9_judge 11 = .ok (.aload_n 0, 1) := by decide +kernel
theorem dX9_judge_12 : decode cX9_judge 12 = .ok (.getfield 12, 3) := by decide +kernel
theorem dX9_judge_15 : decode cX9_judge 15 = .ok (.getfield 73, 3) := by decide +kernel
theorem dX9_judge_18 : decode cX9_judge 18 = .ok (.getfield 77, 3) := by decide +kernel
theorem dX9_judge_21 : decode cX9_judge 21 = .ok (.if_icmp .ge 7, 3) := by decide +kernel
theorem dX9_judge_24 : decode cX9_judge 24 = .ok (.sipush 1000, 3) := by decide +kernel
theorem dX9_judge_27 : decode cX9_judge 27 = .ok (.ireturn, 1) := by decide +kernel
theorem dX9_judge_28 : decode cX9_judge 28 = .ok (.iload_n 1, 1) := by decide +kernel
theorem dX9_judge_29 : decode cX9_judge 29 = .ok (.aload_n 0, 1) := by decide +kernel
theorem dX9_judge_30 : decode cX9_judge 30 = .ok (.getfield 12, 3) := by decide +kernel
theorem dX9_judge_33 : decode cX9_judge 33 = .ok (.getfield 73, 3) := by decide +kernel
theorem dX9_judge_36 : decode cX9_judge 36 = .ok (.getfield 77, 3) := by decide +kernel
theorem dX9_judge_39 : decode cX9_judge 39 = .ok (.if_icmp .le 7, 3) := by decide +kernel
theorem dX9_judge_42 : decode cX9_judge 42 = .ok (.sipush 1001, 3) := by decide +kernel
theorem dX9_judge_45 : decode cX9_judge 45 = .ok (.ireturn, 1) := by decide +kernel
theorem dX9_judge_46 : decode cX9_judge 46 = .ok (.aload_n 0, 1) := by decide +kernel
theorem dX9_judge_47 : decode cX9_judge 47 = .ok (.getfield 36, 3) := by decide +kernel
theorem dX9_judge_50 : decode cX9_judge 50 = .ok (.aload_n 0, 1) := by decide +kernel
theorem dX9_judge_51 : decode cX9_judge 51 = .ok (.getfield 12, 3) := by decide +kernel
theorem dX9_judge_54 : decode cX9_judge 54 = .ok (.invokevirtual 156, 3) := by decide +kernel
theorem dX9_judge_57 : decode cX9_judge 57 = .ok (.iconst 0, 1) := by decide +kernel
theorem dX9_judge_58 : decode cX9_judge 58 = .ok (.istore_n 2, 1) := by decide +kernel
theorem dX9_judge_59 : decode cX9_judge 59 = .ok (.iload_n 2, 1) := by decide +kernel
theorem dX9_judge_60 : decode cX9_judge 60 = .ok (.aload_n 0, 1) := by decide +kernel
theorem dX9_judge_61 : decode cX9_judge 61 = .ok (.getfield 12, 3) := by decide +kernel
theorem dX9_judge_64 : decode cX9_judge 64 = .ok (.getfield 73, 3) := by decide +kernel
theorem dX9_judge_67 : decode cX9_judge 67 = .ok (.getfield 77, 3) := by decide +kernel
theorem dX9_judge_70 : decode cX9_judge 70 = .ok (.if_icmp .ge 23, 3) := by decide +kernel
theorem dX9_judge_73 : decode cX9_judge 73 = .ok (.aload_n 0, 1) := by decide +kernel
theorem dX9_judge_74 : decode cX9_judge 74 = .ok (.iload_n 2, 1) := by decide +kernel
theorem dX9_judge_75 : decode cX9_judge 75 = .ok (.invokevirtual 197, 3) := by decide +kernel
theorem dX9_judge_78 : decode cX9_judge 78 = .ok (.istore_n 3, 1) := by decide +kernel
theorem dX9_judge_79 : decode cX9_judge 79 = .ok (.iload_n 3, 1) := by decide +kernel
theorem dX9_judge_80 : decode cX9_judge 80 = .ok (.bipush (-9), 2) := by decide +kernel
theorem dX9_judge_82 : decode cX9_judge 82 = .ok (.if_icmp .eq 5, 3) := by decide +kernel
theorem dX9_judge_85 : decode cX9_judge 85 = .ok (.iload_n 3, 1) := by decide +kernel
theorem dX9_judge_86 : decode cX9_judge 86 = .ok (.ireturn, 1) := by decide +kernel
theorem dX9_judge_87 : decode cX9_judge 87 = .ok (.iinc 2 1, 3) := by decide +kernel
theorem dX9_judge_90 : decode cX9_judge 90 = .ok (.goto (-31), 3) := by decide +kernel
theorem dX9_judge_93 : decode cX9_judge 93 = .ok (.bipush (-9), 2) := by decide +kernel
theorem dX9_judge_95 : decode cX9_judge 95 = .ok (.ireturn, 1) := by decide +kernel
theorem dX9_doubts_0 : decode cX9_doubts 0 = .ok (.aload_n 0, 1) := by decide +kernel
theorem dX9_doubts_1 : decode cX9_doubts 1 = .ok (.getfield 12, 3) := by decide +kernel
theorem dX9_doubts_4 : decode cX9_doubts 4 = .ok (.getfield 73, 3) := by decide +kernel
theorem dX9_doubts_7 : decode cX9_doubts 7 = .ok (.getfield 77, 3) := by decide +kernel
theorem dX9_doubts_10 : decode cX9_doubts 10 = .ok (.ifCond .ne 5, 3) := by decide +kernel
theorem dX9_doubts_13 : decode cX9_doubts 13 = .ok (.iconst 0, 1) := by decide +kernel
theorem dX9_doubts_14 : decode cX9_doubts 14 = .ok (.ireturn, 1) := by decide +kernel
theorem dX9_doubts_15 : decode cX9_doubts 15 = .ok (.aload_n 0, 1) := by decide +kernel
theorem dX9_doubts_16 : decode cX9_doubts 16 = .ok (.getfield 36, 3) := by decide +kernel
theorem dX9_doubts_19 : decode cX9_doubts 19 = .ok (.aload_n 0, 1) := by decide +kernel
theorem dX9_doubts_20 : decode cX9_doubts 20 = .ok (.getfield 12, 3) := by decide +kernel
theorem dX9_doubts_23 : decode cX9_doubts 23 = .ok (.invokevirtual 156, 3) := by decide +kernel
theorem dX9_doubts_26 : decode cX9_doubts 26 = .ok (.iconst 0, 1) := by decide +kernel
theorem dX9_doubts_27 : decode cX9_doubts 27 = .ok (.istore_n 1, 1) := by decide +kernel
theorem dX9_doubts_28 : decode cX9_doubts 28 = .ok (.iload_n 1, 1) := by decide +kernel
theorem dX9_doubts_29 : decode cX9_doubts 29 = .ok (.aload_n 0, 1) := by decide +kernel
theorem dX9_doubts_30 : decode cX9_doubts 30 = .ok (.getfield 12, 3) := by decide +kernel
theorem dX9_doubts_33 : decode cX9_doubts 33 = .ok (.getfield 73, 3) := by decide +kernel
theorem dX9_doubts_36 : decode cX9_doubts 36 = .ok (.getfield 77, 3) := by decide +kernel
theorem dX9_doubts_39 : decode cX9_doubts 39 = .ok (.if_icmp .ge 49, 3) := by decide +kernel
theorem dX9_doubts_42 : decode cX9_doubts 42 = .ok (.iconst 0, 1) := by decide +kernel
theorem dX9_doubts_43 : decode cX9_doubts 43 = .ok (.istore_n 2, 1) := by decide +kernel
theorem dX9_doubts_44 : decode cX9_doubts 44 = .ok (.iload_n 2, 1) := by decide +kernel
theorem dX9_doubts_45 : decode cX9_doubts 45 = .ok (.sipush 300, 3) := by decide +kernel
theorem dX9_doubts_48 : decode cX9_doubts 48 = .ok (.if_icmp .ge 34, 3) := by decide +kernel
theorem dX9_doubts_51 : decode cX9_doubts 51 = .ok (.aload_n 0, 1) := by decide +kernel
theorem dX9_doubts_52 : decode cX9_doubts 52 = .ok (.getfield 43, 3) := by decide +kernel
theorem dX9_doubts_55 : decode cX9_doubts 55 = .ok (.iload_n 1, 1) := by decide +kernel
theorem dX9_doubts_56 : decode cX9_doubts 56 = .ok (.iload_n 2, 1) := by decide +kernel
theorem dX9_doubts_57 : decode cX9_doubts 57 = .ok (.aload_n 0, 1) := by decide +kernel
theorem dX9_doubts_58 : decode cX9_doubts 58 = .ok (.getfield 36, 3) := by decide +kernel
theorem dX9_doubts_61 : decode cX9_doubts 61 = .ok (.aload_n 0, 1) := by decide +kernel
theorem dX9_doubts_62 : decode cX9_doubts 62 = .ok (.getfield 12, 3) := by decide +kernel
theorem dX9_doubts_65 : decode cX9_doubts 65 = .ok (.iload_n 1, 1) := by decide +kernel
theorem dX9_doubts_66 : decode cX9_doubts 66 = .ok (.iload_n 2, 1) := by decide +kernel
theorem dX9_doubts_67 : decode cX9_doubts 67 = .ok (.invokevirtual 160, 3) := by decide +kernel
theorem dX9_doubts_70 : decode cX9_doubts 70 = .ok (.invokestatic 200, 3) := by decide +kernel
theorem dX9_doubts_73 : decode cX9_doubts 73 = .ok (.invokevirtual 203, 3) := by decide +kernel
theorem dX9_doubts_76 : decode cX9_doubts 76 = .ok (.iinc 2 1, 3) := by decide +kernel
theorem dX9_doubts_79 : decode cX9_doubts 79 = .ok (.goto (-35), 3) := by decide +kernel
theorem dX9_doubts_82 : decode cX9_doubts 82 = .ok (.iinc 1 1, 3) := by decide +kernel
theorem dX9_doubts_85 : decode cX9_doubts 85 = .ok (.goto (-57), 3) := by decide +kernel
theorem dX9_doubts_88 : decode cX9_doubts 88 = .ok (.aload_n 0, 1) := by decide +kernel
theorem dX9_doubts_89 : decode cX9_doubts 89 = .ok (.getfield 43, 3) := by decide +kernel
theorem dX9_doubts_92 : decode cX9_doubts 92 = .ok (.aload_n 0, 1) := by decide +kernel
theorem dX9_doubts_93 : decode cX9_doubts 93 = .ok (.getfield 12, 3) := by decide +kernel
theorem dX9_doubts_96 : decode cX9_doubts 96 = .ok (.getfield 73, 3) := by decide +kernel
theorem dX9_doubts_99 : decode cX9_doubts 99 = .ok (.iconst 0, 1) := by decide +kernel
theorem dX9_doubts_100 : decode cX9_doubts 100 = .ok (.aload_n 0, 1) := by decide +kernel
theorem dX9_doubts_101 : decode cX9_doubts 101 = .ok (.getfield 57, 3) := by decide +kernel
theorem dX9_doubts_104 : decode cX9_doubts 104 = .ok (.invokevirtual 207, 3) := by decide +kernel
theorem dX9_doubts_107 : decode cX9_doubts 107 = .ok (.aload_n 0, 1) := by decide +kernel
theorem dX9_doubts_108 : decode cX9_doubts 108 = .ok (.getfield 43, 3) := by decide +kernel
theorem dX9_doubts_111 : decode cX9_doubts 111 = .ok (.iconst 0, 1) := by decide +kernel
theorem dX9_doubts_112 : decode cX9_doubts 112 = .ok (.aload_n 0, 1) := by decide +kernel
theorem dX9_doubts_113 : decode cX9_doubts 113 = .ok (.getfield 57, 3) := by decide +kernel
theorem dX9_doubts_116 : decode cX9_doubts 116 = .ok (.invokevirtual 182, 3) := by decide +kernel
theorem dX9_doubts_119 : decode cX9_doubts 119 = .ok (.lstore_n 1, 1) := by decide +kernel
theorem dX9_doubts_120 : decode cX9_doubts 120 = .ok (.lload_n 1, 1) := by decide +kernel
theorem dX9_doubts_121 : decode cX9_doubts 121 = .ok (.ldc2_w 211, 3) := by decide +kernel
theorem dX9_doubts_124 : decode cX9_doubts 124 = .ok (.lcmp, 1) := by decide +kernel
theorem dX9_doubts_125 : decode cX9_doubts 125 = .ok (.ifCond .lt 8, 3) := by decide +kernel
theorem dX9_doubts_128 : decode cX9_doubts 128 = .ok (.bipush (-9), 2) := by decide +kernel
theorem dX9_doubts_130 : decode cX9_doubts 130 = .ok (.goto 9, 3) := by decide +kernel
theorem dX9_doubts_133 : decode cX9_doubts 133 = .ok (.lload_n 1, 1) := by decide +kernel
theorem dX9_doubts_134 : decode cX9_doubts 134 = .ok (.l2i, 1) := by decide +kernel
theorem dX9_doubts_135 : decode cX9_doubts 135 = .ok (.sipush 1023, 3) := by decide +kernel
theorem dX9_doubts_138 : decode cX9_doubts 138 = .ok (.iand, 1) := by decide +kernel
theorem dX9_doubts_139 : decode cX9_doubts 139 = .ok (.ireturn, 1) := by decide +kernel
theorem dX9_opened_0 : decode cX9_opened 0 = .ok (.aload_n 0, 1) := by decide +kernel
theorem dX9_opened_1 : decode cX9_opened 1 = .ok (.getfield 12, 3) := by decide +kernel
theorem dX9_opened_4 : decode cX9_opened 4 = .ok (.getfield 213, 3) := by decide +kernel
theorem dX9_opened_7 : decode cX9_opened 7 = .ok (.istore_n 1, 1) := by decide +kernel
theorem dX9_opened_8 : decode cX9_opened 8 = .ok (.aload_n 0, 1) := by decide +kernel
theorem dX9_opened_9 : decode cX9_opened 9 = .ok (.getfield 12, 3) := by decide +kernel
theorem dX9_opened_12 : decode cX9_opened 12 = .ok (.getfield 216, 3) := by decide +kernel
theorem dX9_opened_15 : decode cX9_opened 15 = .ok (.istore_n 2, 1) := by decide +kernel
theorem dX9_opened_16 : decode cX9_opened 16 = .ok (.bipush (-9), 2) := by decide +kernel
theorem dX9_opened_18 : decode cX9_opened 18 = .ok (.istore_n 3, 1) := by decide +kernel
theorem dX9_opened_19 : decode cX9_opened 19 = .ok (.iconst 0, 1) := by decide +kernel
theorem dX9_opened_20 : decode cX9_opened 20 = .ok (.istore 4, 2) := by decide +kernel
theorem dX9_opened_22 : decode cX9_opened 22 = .ok (.iload 4, 2) := by decide +kernel
theorem dX9_opened_24 : decode cX9_opened 24 = .ok (.aload_n 0, 1) := by decide +kernel
theorem dX9_opened_25 : decode cX9_opened 25 = .ok (.getfield 12, 3) := by decide +kernel
theorem dX9_opened_28 : decode cX9_opened 28 = .ok (.getfield 126, 3) := by decide +kernel
theorem dX9_opened_31 : decode cX9_opened 31 = .ok (.if_icmp .ge 82, 3) := by decide +kernel
theorem dX9_opened_34 : decode cX9_opened 34 = .ok (.iload_n 3, 1) := by decide +kernel
theorem dX9_opened_35 : decode cX9_opened 35 = .ok (.bipush (-9), 2) := by decide +kernel
theorem dX9_opened_37 : decode cX9_opened 37 = .ok (.if_icmp .ne 76, 3) := by decide +kernel
theorem dX9_opened_40 : decode cX9_opened 40 = .ok (.aload_n 0, 1) := by decide +kernel
theorem dX9_opened_41 : decode cX9_opened 41 = .ok (.getfield 12, 3) := by decide +kernel
theorem dX9_opened_44 : decode cX9_opened 44 = .ok (.aload_n 0, 1) := by decide +kernel
theorem dX9_opened_45 : decode cX9_opened 45 = .ok (.getfield 12, 3) := by decide +kernel
theorem dX9_opened_48 : decode cX9_opened 48 = .ok (.getfield 219, 3) := by decide +kernel
theorem dX9_opened_51 : decode cX9_opened 51 = .ok (.iload 4, 2) := by decide +kernel
theorem dX9_opened_53 : decode cX9_opened 53 = .ok (.invokestatic 105, 3) := by decide +kernel
theorem dX9_opened_56 : decode cX9_opened 56 = .ok (.aload_n 0, 1) := by decide +kernel
theorem dX9_opened_57 : decode cX9_opened 57 = .ok (.getfield 12, 3) := by decide +kernel
theorem dX9_opened_60 : decode cX9_opened 60 = .ok (.getfield 222, 3) := by decide +kernel
theorem dX9_opened_63 : decode cX9_opened 63 = .ok (.iload 4, 2) := by decide +kernel
theorem dX9_opened_65 : decode cX9_opened 65 = .ok (.invokestatic 105, 3) := by decide +kernel
theorem dX9_opened_68 : decode cX9_opened 68 = .ok (.invokevirtual 122, 3) := by decide +kernel
theorem dX9_opened_71 : decode cX9_opened 71 = .ok (.aload_n 0, 1) := by decide +kernel
theorem dX9_opened_72 : decode cX9_opened 72 = .ok (.getfield 36, 3) := by decide +kernel
theorem dX9_opened_75 : decode cX9_opened 75 = .ok (.invokevirtual 116, 3) := by decide +kernel
theorem dX9_opened_78 : decode cX9_opened 78 = .ok (.aload_n 0, 1) := by decide +kernel
theorem dX9_opened_79 : decode cX9_opened 79 = .ok (.getfield 36, 3) := by decide +kernel
theorem dX9_opened_82 : decode cX9_opened 82 = .ok (.aload_n 0, 1) := by decide +kernel
theorem dX9_opened_83 : decode cX9_opened 83 = .ok (.getfield 12, 3) := by decide +kernel
theorem dX9_opened_86 : decode cX9_opened 86 = .ok (.invokevirtual 156, 3) := by decide +kernel
theorem dX9_opened_89 : decode cX9_opened 89 = .ok (.aload_n 0, 1) := by decide +kernel
theorem dX9_opened_90 : decode cX9_opened 90 = .ok (.iconst (-1), 1) := by decide +kernel
theorem dX9_opened_91 : decode cX9_opened 91 = .ok (.invokevirtual 164, 3) := by decide +kernel
theorem dX9_opened_94 : decode cX9_opened 94 = .ok (.lconst 0, 1) := by decide +kernel
theorem dX9_opened_95 : decode cX9_opened 95 = .ok (.lcmp, 1) := by decide +kernel
theorem dX9_opened_96 : decode cX9_opened 96 = .ok (.ifCond .le 8, 3) := by decide +kernel
theorem dX9_opened_99 : decode cX9_opened 99 = .ok (.iload 4, 2) := by decide +kernel
theorem dX9_opened_101 : decode cX9_opened 101 = .ok (.goto 5, 3) := by decide +kernel
theorem dX9_opened_104 : decode cX9_opened 104 = .ok (.bipush (-9), 2) := by decide +kernel
theorem dX9_opened_106 : decode cX9_opened 106 = .ok (.istore_n 3, 1) := by decide +kernel
theorem dX9_opened_107 : decode cX9_opened 107 = .ok (.iinc 4 1, 3) := by decide +kernel
theorem dX9_opened_110 : decode cX9_opened 110 = .ok (.goto (-88), 3) := by decide +kernel
theorem dX9_opened_113 : decode cX9_opened 113 = .ok (.aload_n 0, 1) := by decide +kernel
theorem dX9_opened_114 : decode cX9_opened 114 = .ok (.getfield 12, 3) := by decide +kernel
theorem dX9_opened_117 : decode cX9_opened 117 = .ok (.iload_n 1, 1) := by decide +kernel
theorem dX9_opened_118 : decode cX9_opened 118 = .ok (.iload_n 2, 1) := by decide +kernel
theorem dX9_opened_119 : decode cX9_opened 119 = .ok (.invokevirtual 122, 3) := by decide +kernel
theorem dX9_opened_122 : decode cX9_opened 122 = .ok (.aload_n 0, 1) := by decide +kernel
theorem dX9_opened_123 : decode cX9_opened 123 = .ok (.getfield 36, 3) := by decide +kernel
theorem dX9_opened_126 : decode cX9_opened 126 = .ok (.invokevirtual 116, 3) := by decide +kernel
theorem dX9_opened_129 : decode cX9_opened 129 = .ok (.iload_n 3, 1) := by decide +kernel
theorem dX9_opened_130 : decode cX9_opened 130 = .ok (.ireturn, 1) := by decide +kernel
theorem dX9_hangs_0 : decode cX9_hangs 0 = .ok (.aload_n 0, 1) := by decide +kernel
theorem dX9_hangs_1 : decode cX9_hangs 1 = .ok (.getfield 36, 3) := by decide +kernel
theorem dX9_hangs_4 : decode cX9_hangs 4 = .ok (.aload_n 0, 1) := by decide +kernel
theorem dX9_hangs_5 : decode cX9_hangs 5 = .ok (.getfield 12, 3) := by decide +kernel
theorem dX9_hangs_8 : decode cX9_hangs 8 = .ok (.invokevirtual 156, 3) := by decide +kernel
theorem dX9_hangs_11 : decode cX9_hangs 11 = .ok (.aload_n 0, 1) := by decide +kernel
theorem dX9_hangs_12 : decode cX9_hangs 12 = .ok (.iconst (-1), 1) := by decide +kernel
theorem dX9_hangs_13 : decode cX9_hangs 13 = .ok (.invokevirtual 164, 3) := by decide +kernel
theorem dX9_hangs_16 : decode cX9_hangs 16 = .ok (.lstore_n 1, 1) := by decide +kernel
theorem dX9_hangs_17 : decode cX9_hangs 17 = .ok (.bipush (-9), 2) := by decide +kernel
theorem dX9_hangs_19 : decode cX9_hangs 19 = .ok (.istore_n 3, 1) := by decide +kernel
theorem dX9_hangs_20 : decode cX9_hangs 20 = .ok (.iconst 0, 1) := by decide +kernel
theorem dX9_hangs_21 : decode cX9_hangs 21 = .ok (.istore 4, 2) := by decide +kernel
theorem dX9_hangs_23 : decode cX9_hangs 23 = .ok (.iload 4, 2) := by decide +kernel
theorem dX9_hangs_25 : decode cX9_hangs 25 = .ok (.aload_n 0, 1) := by decide +kernel
theorem dX9_hangs_26 : decode cX9_hangs 26 = .ok (.getfield 12, 3) := by decide +kernel
theorem dX9_hangs_29 : decode cX9_hangs 29 = .ok (.getfield 73, 3) := by decide +kernel
theorem dX9_hangs_32 : decode cX9_hangs 32 = .ok (.getfield 77, 3) := by decide +kernel
theorem dX9_hangs_35 : decode cX9_hangs 35 = .ok (.if_icmp .ge 30, 3) := by decide +kernel
theorem dX9_hangs_38 : decode cX9_hangs 38 = .ok (.aload_n 0, 1) := by decide +kernel
theorem dX9_hangs_39 : decode cX9_hangs 39 = .ok (.iload 4, 2) := by decide +kernel
theorem dX9_hangs_41 : decode cX9_hangs 41 = .ok (.invokevirtual 164, 3) := by decide +kernel
theorem dX9_hangs_44 : decode cX9_hangs 44 = .ok (.lstore 5, 2) := by decide +kernel
theorem dX9_hangs_46 : decode cX9_hangs 46 = .ok (.lload 5, 2) := by decide +kernel
theorem dX9_hangs_48 : decode cX9_hangs 48 = .ok (.lload_n 1, 1) := by decide +kernel
theorem dX9_hangs_49 : decode cX9_hangs 49 = .ok (.lcmp, 1) := by decide +kernel
theorem dX9_hangs_50 : decode cX9_hangs 50 = .ok (.ifCond .le 9, 3) := by decide +kernel
theorem dX9_hangs_53 : decode cX9_hangs 53 = .ok (.lload 5, 2) := by decide +kernel
theorem dX9_hangs_55 : decode cX9_hangs 55 = .ok (.lstore_n 1, 1) := by decide +kernel
theorem dX9_hangs_56 : decode cX9_hangs 56 = .ok (.iload 4, 2) := by decide +kernel
theorem dX9_hangs_58 : decode cX9_hangs 58 = .ok (.istore_n 3, 1) := by decide +kernel
theorem dX9_hangs_59 : decode cX9_hangs 59 = .ok (.iinc 4 1, 3) := by decide +kernel
theorem dX9_hangs_62 : decode cX9_hangs 62 = .ok (.goto (-39), 3) := by decide +kernel
theorem dX9_hangs_65 : decode cX9_hangs 65 = .ok (.iload_n 3, 1) := by decide +kernel
theorem dX9_hangs_66 : decode cX9_hangs 66 = .ok (.ireturn, 1) := by decide +kernel
theorem dX9_ahead_0 : decode cX9_ahead 0 = .ok (.aload_n 0, 1) := by decide +kernel
theorem dX9_ahead_1 : decode cX9_ahead 1 = .ok (.iload_n 1, 1) := by decide +kernel
theorem dX9_ahead_2 : decode cX9_ahead 2 = .ok (.invokevirtual 99, 3) := by decide +kernel
theorem dX9_ahead_5 : decode cX9_ahead 5 = .ok (.ifCond .eq 16, 3) := by decide +kernel
theorem dX9_ahead_8 : decode cX9_ahead 8 = .ok (.aload_n 0, 1) := by decide +kernel
theorem dX9_ahead_9 : decode cX9_ahead 9 = .ok (.iload_n 2, 1) := by decide +kernel
theorem dX9_ahead_10 : decode cX9_ahead 10 = .ok (.invokevirtual 99, 3) := by decide +kernel
theorem dX9_ahead_13 : decode cX9_ahead 13 = .ok (.ifCond .eq 8, 3) := by decide +kernel
theorem dX9_ahead_16 : decode cX9_ahead 16 = .ok (.iload_n 1, 1) := by decide +kernel
theorem dX9_ahead_17 : decode cX9_ahead 17 = .ok (.iload_n 2, 1) := by decide +kernel
theorem dX9_ahead_18 : decode cX9_ahead 18 = .ok (.if_icmp .ne 9, 3) := by decide +kernel
theorem dX9_ahead_21 : decode cX9_ahead 21 = .ok (.aload_n 0, 1) := by decide +kernel
theorem dX9_ahead_22 : decode cX9_ahead 22 = .ok (.iconst (-1), 1) := by decide +kernel
theorem dX9_ahead_23 : decode cX9_ahead 23 = .ok (.invokevirtual 61, 3) := by decide +kernel
theorem dX9_ahead_26 : decode cX9_ahead 26 = .ok (.ireturn, 1) := by decide +kernel
theorem dX9_ahead_27 : decode cX9_ahead 27 = .ok (.aload_n 0, 1) := by decide +kernel
theorem dX9_ahead_28 : decode cX9_ahead 28 = .ok (.getfield 36, 3) := by decide +kernel
theorem dX9_ahead_31 : decode cX9_ahead 31 = .ok (.aload_n 0, 1) := by decide +kernel
theorem dX9_ahead_32 : decode cX9_ahead 32 = .ok (.getfield 12, 3) := by decide +kernel
theorem dX9_ahead_35 : decode cX9_ahead 35 = .ok (.invokevirtual 156, 3) := by decide +kernel
theorem dX9_ahead_38 : decode cX9_ahead 38 = .ok (.aload_n 0, 1) := by decide +kernel
theorem dX9_ahead_39 : decode cX9_ahead 39 = .ok (.iload_n 1, 1) := by decide +kernel
theorem dX9_ahead_40 : decode cX9_ahead 40 = .ok (.iload_n 2, 1) := by decide +kernel
theorem dX9_ahead_41 : decode cX9_ahead 41 = .ok (.invokevirtual 225, 3) := by decide +kernel
theorem dX9_ahead_44 : decode cX9_ahead 44 = .ok (.istore_n 3, 1) := by decide +kernel
theorem dX9_ahead_45 : decode cX9_ahead 45 = .ok (.aload_n 0, 1) := by decide +kernel
theorem dX9_ahead_46 : decode cX9_ahead 46 = .ok (.iload_n 1, 1) := by decide +kernel
theorem dX9_ahead_47 : decode cX9_ahead 47 = .ok (.iload_n 2, 1) := by decide +kernel
theorem dX9_ahead_48 : decode cX9_ahead 48 = .ok (.invokevirtual 229, 3) := by decide +kernel
theorem dX9_ahead_51 : decode cX9_ahead 51 = .ok (.istore 4, 2) := by decide +kernel
theorem dX9_ahead_53 : decode cX9_ahead 53 = .ok (.iload_n 3, 1) := by decide +kernel
theorem dX9_ahead_54 : decode cX9_ahead 54 = .ok (.ifCond .ne 15, 3) := by decide +kernel
theorem dX9_ahead_57 : decode cX9_ahead 57 = .ok (.iload 4, 2) := by decide +kernel
theorem dX9_ahead_59 : decode cX9_ahead 59 = .ok (.ifCond .eq 7, 3) := by decide +kernel
theorem dX9_ahead_62 : decode cX9_ahead 62 = .ok (.iconst 0, 1) := by decide +kernel
theorem dX9_ahead_63 : decode cX9_ahead 63 = .ok (.goto 5, 3) := by decide +kernel
theorem dX9_ahead_66 : decode cX9_ahead 66 = .ok (.bipush (-9), 2) := by decide +kernel
theorem dX9_ahead_68 : decode cX9_ahead 68 = .ok (.ireturn, 1) := by decide +kernel
theorem dX9_ahead_69 : decode cX9_ahead 69 = .ok (.iload 4, 2) := by decide +kernel
theorem dX9_ahead_71 : decode cX9_ahead 71 = .ok (.ifCond .eq 7, 3) := by decide +kernel
theorem dX9_ahead_74 : decode cX9_ahead 74 = .ok (.iconst 2, 1) := by decide +kernel
theorem dX9_ahead_75 : decode cX9_ahead 75 = .ok (.goto 4, 3) := by decide +kernel
theorem dX9_ahead_78 : decode cX9_ahead 78 = .ok (.iconst 1, 1) := by decide +kernel
theorem dX9_ahead_79 : decode cX9_ahead 79 = .ok (.ireturn, 1) := by decide +kernel
theorem dX9_narrow_0 : decode cX9_narrow 0 = .ok (.aload_n 0, 1) := by decide +kernel
theorem dX9_narrow_1 : decode cX9_narrow 1 = .ok (.iload_n 1, 1) := by decide +kernel
theorem dX9_narrow_2 : decode cX9_narrow 2 = .ok (.invokevirtual 99, 3) := by decide +kernel
theorem dX9_narrow_5 : decode cX9_narrow 5 = .ok (.ifCond .ne 9, 3) := by decide +kernel
theorem dX9_narrow_8 : decode cX9_narrow 8 = .ok (.aload_n 0, 1) := by decide +kernel
theorem dX9_narrow_9 : decode cX9_narrow 9 = .ok (.iconst (-1), 1) := by decide +kernel
theorem dX9_narrow_10 : decode cX9_narrow 10 = .ok (.invokevirtual 61, 3) := by decide +kernel
theorem dX9_narrow_13 : decode cX9_narrow 13 = .ok (.ireturn, 1) := by decide +kernel
theorem dX9_narrow_14 : decode cX9_narrow 14 = .ok (.iload_n 2, 1) := by decide +kernel
theorem dX9_narrow_15 : decode cX9_narrow 15 = .ok (.invokestatic 153, 3) := by decide +kernel
theorem dX9_narrow_18 : decode cX9_narrow 18 = .ok (.istore_n 3, 1) := by decide +kernel
theorem dX9_narrow_19 : decode cX9_narrow 19 = .ok (.iload_n 3, 1) := by decide +kernel
theorem dX9_narrow_20 : decode cX9_narrow 20 = .ok (.ifCond .ge 9, 3) := by decide +kernel
theorem dX9_narrow_23 : decode cX9_narrow 23 = .ok (.aload_n 0, 1) := by decide +kernel
theorem dX9_narrow_24 : decode cX9_narrow 24 = .ok (.iload_n 3, 1) := by decide +kernel
theorem dX9_narrow_25 : decode cX9_narrow 25 = .ok (.invokevirtual 61, 3) := by decide +kernel
theorem dX9_narrow_28 : decode cX9_narrow 28 = .ok (.ireturn, 1) := by decide +kernel
theorem dX9_narrow_29 : decode cX9_narrow 29 = .ok (.aload_n 0, 1) := by decide +kernel
theorem dX9_narrow_30 : decode cX9_narrow 30 = .ok (.getfield 36, 3) := by decide +kernel
theorem dX9_narrow_33 : decode cX9_narrow 33 = .ok (.aload_n 0, 1) := by decide +kernel
theorem dX9_narrow_34 : decode cX9_narrow 34 = .ok (.getfield 12, 3) := by decide +kernel
theorem dX9_narrow_37 : decode cX9_narrow 37 = .ok (.invokevirtual 156, 3) := by decide +kernel
theorem dX9_narrow_40 : decode cX9_narrow 40 = .ok (.aload_n 0, 1) := by decide +kernel
theorem dX9_narrow_41 : decode cX9_narrow 41 = .ok (.iload_n 1, 1) := by decide +kernel
theorem dX9_narrow_42 : decode cX9_narrow 42 = .ok (.iload_n 2, 1) := by decide +kernel
theorem dX9_narrow_43 : decode cX9_narrow 43 = .ok (.invokevirtual 232, 3) := by decide +kernel
theorem dX9_narrow_46 : decode cX9_narrow 46 = .ok (.ireturn, 1) := by decide +kernel
theorem dX9_next_0 : decode cX9_next 0 = .ok (.iload_n 1, 1) := by decide +kernel
theorem dX9_next_1 : decode cX9_next 1 = .ok (.invokestatic 153, 3) := by decide +kernel
theorem dX9_next_4 : decode cX9_next 4 = .ok (.istore_n 2, 1) := by decide +kernel
theorem dX9_next_5 : decode cX9_next 5 = .ok (.iload_n 2, 1) := by decide +kernel
theorem dX9_next_6 : decode cX9_next 6 = .ok (.ifCond .ge 9, 3) := by decide +kernel
theorem dX9_next_9 : decode cX9_next 9 = .ok (.aload_n 0, 1) := by decide +kernel
theorem dX9_next_10 : decode cX9_next 10 = .ok (.iload_n 2, 1) := by decide +kernel
theorem dX9_next_11 : decode cX9_next 11 = .ok (.invokevirtual 61, 3) := by decide +kernel
theorem dX9_next_14 : decode cX9_next 14 = .ok (.ireturn, 1) := by decide +kernel
theorem dX9_next_15 : decode cX9_next 15 = .ok (.aload_n 0, 1) := by decide +kernel
theorem dX9_next_16 : decode cX9_next 16 = .ok (.getfield 36, 3) := by decide +kernel
theorem dX9_next_19 : decode cX9_next 19 = .ok (.aload_n 0, 1) := by decide +kernel
theorem dX9_next_20 : decode cX9_next 20 = .ok (.getfield 12, 3) := by decide +kernel
theorem dX9_next_23 : decode cX9_next 23 = .ok (.invokevirtual 156, 3) := by decide +kernel
theorem dX9_next_26 : decode cX9_next 26 = .ok (.sipush 301, 3) := by decide +kernel
theorem dX9_next_29 : decode cX9_next 29 = .ok (.istore_n 3, 1) := by decide +kernel
theorem dX9_next_30 : decode cX9_next 30 = .ok (.bipush (-9), 2) := by decide +kernel
theorem dX9_next_32 : decode cX9_next 32 = .ok (.istore 4, 2) := by decide +kernel
theorem dX9_next_34 : decode cX9_next 34 = .ok (.iconst 0, 1) := by decide +kernel
theorem dX9_next_35 : decode cX9_next 35 = .ok (.istore 5, 2) := by decide +kernel
theorem dX9_next_37 : decode cX9_next 37 = .ok (.iload 5, 2) := by decide +kernel
theorem dX9_next_39 : decode cX9_next 39 = .ok (.aload_n 0, 1) := by decide +kernel
theorem dX9_next_40 : decode cX9_next 40 = .ok (.getfield 12, 3) := by decide +kernel
theorem dX9_next_43 : decode cX9_next 43 = .ok (.getfield 73, 3) := by decide +kernel
theorem dX9_next_46 : decode cX9_next 46 = .ok (.getfield 77, 3) := by decide +kernel
theorem dX9_next_49 : decode cX9_next 49 = .ok (.if_icmp .ge 38, 3) := by decide +kernel
theorem dX9_next_52 : decode cX9_next 52 = .ok (.aload_n 0, 1) := by decide +kernel
theorem dX9_next_53 : decode cX9_next 53 = .ok (.iload 5, 2) := by decide +kernel
theorem dX9_next_55 : decode cX9_next 55 = .ok (.iload_n 1, 1) := by decide +kernel
theorem dX9_next_56 : decode cX9_next 56 = .ok (.invokevirtual 232, 3) := by decide +kernel
theorem dX9_next_59 : decode cX9_next 59 = .ok (.istore 6, 2) := by decide +kernel
theorem dX9_next_61 : decode cX9_next 61 = .ok (.iload 6, 2) := by decide +kernel
theorem dX9_next_63 : decode cX9_next 63 = .ok (.bipush (-9), 2) := by decide +kernel
theorem dX9_next_65 : decode cX9_next 65 = .ok (.if_icmp .eq 16, 3) := by decide +kernel
theorem dX9_next_68 : decode cX9_next 68 = .ok (.iload 6, 2) := by decide +kernel
theorem dX9_next_70 : decode cX9_next 70 = .ok (.iload_n 3, 1) := by decide +kernel
theorem dX9_next_71 : decode cX9_next 71 = .ok (.if_icmp .ge 10, 3) := by decide +kernel
theorem dX9_next_74 : decode cX9_next 74 = .ok (.iload 6, 2) := by decide +kernel
theorem dX9_next_76 : decode cX9_next 76 = .ok (.istore_n 3, 1) := by decide +kernel
theorem dX9_next_77 : decode cX9_next 77 = .ok (.iload 5, 2) := by decide +kernel
theorem dX9_next_79 : decode cX9_next 79 = .ok (.istore 4, 2) := by decide +kernel
theorem dX9_next_81 : decode cX9_next 81 = .ok (.iinc 5 1, 3) := by decide +kernel
theorem dX9_next_84 : decode cX9_next 84 = .ok (.goto (-47), 3) := by decide +kernel
theorem dX9_next_87 : decode cX9_next 87 = .ok (.iload 4, 2) := by decide +kernel
theorem dX9_next_89 : decode cX9_next 89 = .ok (.ireturn, 1) := by decide +kernel
theorem dX9_image_0 : decode cX9_image 0 = .ok (.aload_n 0, 1) := by decide +kernel
theorem dX9_image_1 : decode cX9_image 1 = .ok (.getfield 16, 3) := by decide +kernel
theorem dX9_image_4 : decode cX9_image 4 = .ok (.aload_n 0, 1) := by decide +kernel
theorem dX9_image_5 : decode cX9_image 5 = .ok (.getfield 12, 3) := by decide +kernel
theorem dX9_image_8 : decode cX9_image 8 = .ok (.invokevirtual 235, 3) := by decide +kernel
theorem dX9_image_11 : decode cX9_image 11 = .ok (.aload_n 0, 1) := by decide +kernel
theorem dX9_image_12 : decode cX9_image 12 = .ok (.iconst 1, 1) := by decide +kernel
theorem dX9_image_13 : decode cX9_image 13 = .ok (.putfield 237, 3) := by decide +kernel
theorem dX9_image_16 : decode cX9_image 16 = .ok (.aload_n 0, 1) := by decide +kernel
theorem dX9_image_17 : decode cX9_image 17 = .ok (.getfield 12, 3) := by decide +kernel
theorem dX9_image_20 : decode cX9_image 20 = .ok (.getfield 73, 3) := by decide +kernel
theorem dX9_image_23 : decode cX9_image 23 = .ok (.getfield 77, 3) := by decide +kernel
theorem dX9_image_26 : decode cX9_image 26 = .ok (.ireturn, 1) := by decide +kernel
theorem dX9_on_0 : decode cX9_on 0 = .ok (.aload_n 0, 1) := by decide +kernel
theorem dX9_on_1 : decode cX9_on 1 = .ok (.getfield 237, 3) := by decide +kernel
theorem dX9_on_4 : decode cX9_on 4 = .ok (.ifCond .ne 10, 3) := by decide +kernel
theorem dX9_on_7 : decode cX9_on 7 = .ok (.aload_n 0, 1) := by decide +kernel
theorem dX9_on_8 : decode cX9_on 8 = .ok (.bipush (-3), 2) := by decide +kernel
theorem dX9_on_10 : decode cX9_on 10 = .ok (.invokevirtual 61, 3) := by decide +kernel
theorem dX9_on_13 : decode cX9_on 13 = .ok (.ireturn, 1) := by decide +kernel
theorem dX9_on_14 : decode cX9_on 14 = .ok (.aload_n 0, 1) := by decide +kernel
theorem dX9_on_15 : decode cX9_on 15 = .ok (.getfield 12, 3) := by decide +kernel
theorem dX9_on_18 : decode cX9_on 18 = .ok (.aload_n 0, 1) := by decide +kernel
theorem dX9_on_19 : decode cX9_on 19 = .ok (.getfield 16, 3) := by decide +kernel
theorem dX9_on_22 : decode cX9_on 22 = .ok (.invokevirtual 235, 3) := by decide +kernel
theorem dX9_on_25 : decode cX9_on 25 = .ok (.aload_n 0, 1) := by decide +kernel
theorem dX9_on_26 : decode cX9_on 26 = .ok (.getfield 36, 3) := by decide +kernel
theorem dX9_on_29 : decode cX9_on 29 = .ok (.invokevirtual 116, 3) := by decide +kernel
theorem dX9_on_32 : decode cX9_on 32 = .ok (.aload_n 0, 1) := by decide +kernel
theorem dX9_on_33 : decode cX9_on 33 = .ok (.getfield 12, 3) := by decide +kernel
theorem dX9_on_36 : decode cX9_on 36 = .ok (.getfield 73, 3) := by decide +kernel
theorem dX9_on_39 : decode cX9_on 39 = .ok (.getfield 77, 3) := by decide +kernel
theorem dX9_on_42 : decode cX9_on 42 = .ok (.ireturn, 1) := by decide +kernel
theorem dX9_count_0 : decode cX9_count 0 = .ok (.iload_n 1, 1) := by decide +kernel
theorem dX9_count_1 : decode cX9_count 1 = .ok (.tableswitch 111 0 6 #[43, 54, 65, 79, 90, 98, 106], 43) := by decide +kernel
theorem dX9_count_44 : decode cX9_count 44 = .ok (.aload_n 0, 1) := by decide +kernel
theorem dX9_count_45 : decode cX9_count 45 = .ok (.getfield 12, 3) := by decide +kernel
theorem dX9_count_48 : decode cX9_count 48 = .ok (.getfield 73, 3) := by decide +kernel
theorem dX9_count_51 : decode cX9_count 51 = .ok (.getfield 77, 3) := by decide +kernel
theorem dX9_count_54 : decode cX9_count 54 = .ok (.ireturn, 1) := by decide +kernel
theorem dX9_count_55 : decode cX9_count 55 = .ok (.aload_n 0, 1) := by decide +kernel
theorem dX9_count_56 : decode cX9_count 56 = .ok (.getfield 12, 3) := by decide +kernel
theorem dX9_count_59 : decode cX9_count 59 = .ok (.getfield 136, 3) := by decide +kernel
theorem dX9_count_62 : decode cX9_count 62 = .ok (.getfield 140, 3) := by decide +kernel
theorem dX9_count_65 : decode cX9_count 65 = .ok (.ireturn, 1) := by decide +kernel
theorem dX9_count_66 : decode cX9_count 66 = .ok (.aload_n 0, 1) := by decide +kernel
theorem dX9_count_67 : decode cX9_count 67 = .ok (.getfield 12, 3) := by decide +kernel
theorem dX9_count_70 : decode cX9_count 70 = .ok (.getfield 136, 3) := by decide +kernel
theorem dX9_count_73 : decode cX9_count 73 = .ok (.getfield 241, 3) := by decide +kernel
theorem dX9_count_76 : decode cX9_count 76 = .ok (.invokestatic 244, 3) := by decide +kernel
theorem dX9_count_79 : decode cX9_count 79 = .ok (.ireturn, 1) := by decide +kernel
theorem dX9_count_80 : decode cX9_count 80 = .ok (.aload_n 0, 1) := by decide +kernel
theorem dX9_count_81 : decode cX9_count 81 = .ok (.getfield 12, 3) := by decide +kernel
theorem dX9_count_84 : decode cX9_count 84 = .ok (.getfield 73, 3) := by decide +kernel
theorem dX9_count_87 : decode cX9_count 87 = .ok (.invokevirtual 249, 3) := by decide +kernel
theorem dX9_count_90 : decode cX9_count 90 = .ok (.ireturn, 1) := by decide +kernel
theorem dX9_count_91 : decode cX9_count 91 = .ok (.aload_n 0, 1) := by decide +kernel
theorem dX9_count_92 : decode cX9_count 92 = .ok (.getfield 12, 3) := by decide +kernel
theorem dX9_count_95 : decode cX9_count 95 = .ok (.getfield 126, 3) := by decide +kernel
theorem dX9_count_98 : decode cX9_count 98 = .ok (.ireturn, 1) := by decide +kernel
theorem dX9_count_99 : decode cX9_count 99 = .ok (.aload_n 0, 1) := by decide +kernel
theorem dX9_count_100 : decode cX9_count 100 = .ok (.getfield 22, 3) := by decide +kernel
theorem dX9_count_103 : decode cX9_count 103 = .ok (.getfield 65, 3) := by decide +kernel
theorem dX9_count_106 : decode cX9_count 106 = .ok (.ireturn, 1) := by decide +kernel
theorem dX9_count_107 : decode cX9_count 107 = .ok (.aload_n 0, 1) := by decide +kernel
theorem dX9_count_108 : decode cX9_count 108 = .ok (.getfield 190, 3) := by decide +kernel
theorem dX9_count_111 : decode cX9_count 111 = .ok (.ireturn, 1) := by decide +kernel
theorem dX9_count_112 : decode cX9_count 112 = .ok (.iload_n 1, 1) := by decide +kernel
theorem dX9_count_113 : decode cX9_count 113 = .ok (.bipush 11, 2) := by decide +kernel
theorem dX9_count_115 : decode cX9_count 115 = .ok (.if_icmp .lt 23, 3) := by decide +kernel
theorem dX9_count_118 : decode cX9_count 118 = .ok (.iload_n 1, 1) := by decide +kernel
theorem dX9_count_119 : decode cX9_count 119 = .ok (.bipush 16, 2) := by decide +kernel
theorem dX9_count_121 : decode cX9_count 121 = .ok (.if_icmp .gt 17, 3) := by decide +kernel
theorem dX9_count_124 : decode cX9_count 124 = .ok (.aload_n 0, 1) := by decide +kernel
theorem dX9_count_125 : decode cX9_count 125 = .ok (.getfield 30, 3) := by decide +kernel
theorem dX9_count_128 : decode cX9_count 128 = .ok (.iload_n 1, 1) := by decide +kernel
theorem dX9_count_129 : decode cX9_count 129 = .ok (.bipush 11, 2) := by decide +kernel
theorem dX9_count_131 : decode cX9_count 131 = .ok (.isub, 1) := by decide +kernel
theorem dX9_count_132 : decode cX9_count 132 = .ok (.invokestatic 105, 3) := by decide +kernel
theorem dX9_count_135 : decode cX9_count 135 = .ok (.goto 5, 3) := by decide +kernel
theorem dX9_count_138 : decode cX9_count 138 = .ok (.bipush (-9), 2) := by decide +kernel
theorem dX9_count_140 : decode cX9_count 140 = .ok (.ireturn, 1) := by decide +kernel
theorem dX9_waysWithout_0 : decode cX9_waysWithout 0 = .ok (.aload_n 0, 1) := by decide +kernel
theorem dX9_waysWithout_1 : decode cX9_waysWithout 1 = .ok (.getfield 12, 3) := by decide +kernel
theorem dX9_waysWithout_4 : decode cX9_waysWithout 4 = .ok (.getfield 73, 3) := by decide +kernel
theorem dX9_waysWithout_7 : decode cX9_waysWithout 7 = .ok (.getfield 77, 3) := by decide +kernel
theorem dX9_waysWithout_10 : decode cX9_waysWithout 10 = .ok (.ifCond .ne 5, 3) := by decide +kernel
theorem dX9_waysWithout_13 : decode cX9_waysWithout 13 = .ok (.lconst 1, 1) := by decide +kernel
theorem dX9_waysWithout_14 : decode cX9_waysWithout 14 = .ok (.lreturn, 1) := by decide +kernel
theorem dX9_waysWithout_15 : decode cX9_waysWithout 15 = .ok (.aload_n 0, 1) := by decide +kernel
theorem dX9_waysWithout_16 : decode cX9_waysWithout 16 = .ok (.iload_n 1, 1) := by decide +kernel
theorem dX9_waysWithout_17 : decode cX9_waysWithout 17 = .ok (.invokevirtual 252, 3) := by decide +kernel
theorem dX9_waysWithout_20 : decode cX9_waysWithout 20 = .ok (.aload_n 0, 1) := by decide +kernel
theorem dX9_waysWithout_21 : decode cX9_waysWithout 21 = .ok (.getfield 43, 3) := by decide +kernel
theorem dX9_waysWithout_24 : decode cX9_waysWithout 24 = .ok (.aload_n 0, 1) := by decide +kernel
theorem dX9_waysWithout_25 : decode cX9_waysWithout 25 = .ok (.getfield 12, 3) := by decide +kernel
theorem dX9_waysWithout_28 : decode cX9_waysWithout 28 = .ok (.getfield 73, 3) := by decide +kernel
theorem dX9_waysWithout_31 : decode cX9_waysWithout 31 = .ok (.iconst 0, 1) := by decide +kernel
theorem dX9_waysWithout_32 : decode cX9_waysWithout 32 = .ok (.aload_n 0, 1) := by decide +kernel
theorem dX9_waysWithout_33 : decode cX9_waysWithout 33 = .ok (.getfield 50, 3) := by decide +kernel
theorem dX9_waysWithout_36 : decode cX9_waysWithout 36 = .ok (.invokevirtual 207, 3) := by decide +kernel
theorem dX9_waysWithout_39 : decode cX9_waysWithout 39 = .ok (.aload_n 0, 1) := by decide +kernel
theorem dX9_waysWithout_40 : decode cX9_waysWithout 40 = .ok (.getfield 43, 3) := by decide +kernel
theorem dX9_waysWithout_43 : decode cX9_waysWithout 43 = .ok (.iconst 0, 1) := by decide +kernel
theorem dX9_waysWithout_44 : decode cX9_waysWithout 44 = .ok (.aload_n 0, 1) := by decide +kernel
theorem dX9_waysWithout_45 : decode cX9_waysWithout 45 = .ok (.getfield 50, 3) := by decide +kernel
theorem dX9_waysWithout_48 : decode cX9_waysWithout 48 = .ok (.invokevirtual 182, 3) := by decide +kernel
theorem dX9_waysWithout_51 : decode cX9_waysWithout 51 = .ok (.lreturn, 1) := by decide +kernel
theorem dX9_countWaysOf_0 : decode cX9_countWaysOf 0 = .ok (.aload_n 0, 1) := by decide +kernel
theorem dX9_countWaysOf_1 : decode cX9_countWaysOf 1 = .ok (.iconst (-1), 1) := by decide +kernel
theorem dX9_countWaysOf_2 : decode cX9_countWaysOf 2 = .ok (.invokevirtual 252, 3) := by decide +kernel
theorem dX9_countWaysOf_5 : decode cX9_countWaysOf 5 = .ok (.aload_n 0, 1) := by decide +kernel
theorem dX9_countWaysOf_6 : decode cX9_countWaysOf 6 = .ok (.getfield 43, 3) := by decide +kernel
theorem dX9_countWaysOf_9 : decode cX9_countWaysOf 9 = .ok (.aload_n 0, 1) := by decide +kernel
theorem dX9_countWaysOf_10 : decode cX9_countWaysOf 10 = .ok (.getfield 12, 3) := by decide +kernel
theorem dX9_countWaysOf_13 : decode cX9_countWaysOf 13 = .ok (.getfield 73, 3) := by decide +kernel
theorem dX9_countWaysOf_16 : decode cX9_countWaysOf 16 = .ok (.iload_n 1, 1) := by decide +kernel
theorem dX9_countWaysOf_17 : decode cX9_countWaysOf 17 = .ok (.aload_n 0, 1) := by decide +kernel
theorem dX9_countWaysOf_18 : decode cX9_countWaysOf 18 = .ok (.getfield 50, 3) := by decide +kernel
theorem dX9_countWaysOf_21 : decode cX9_countWaysOf 21 = .ok (.invokevirtual 207, 3) := by decide +kernel
theorem dX9_countWaysOf_24 : decode cX9_countWaysOf 24 = .ok (.return_, 1) := by decide +kernel
theorem dX9_runStart_0 : decode cX9_runStart 0 = .ok (.iconst 0, 1) := by decide +kernel
theorem dX9_runStart_1 : decode cX9_runStart 1 = .ok (.istore_n 3, 1) := by decide +kernel
theorem dX9_runStart_2 : decode cX9_runStart 2 = .ok (.iconst 0, 1) := by decide +kernel
theorem dX9_runStart_3 : decode cX9_runStart 3 = .ok (.istore 4, 2) := by decide +kernel
theorem dX9_runStart_5 : decode cX9_runStart 5 = .ok (.iload 4, 2) := by decide +kernel
theorem dX9_runStart_7 : decode cX9_runStart 7 = .ok (.sipush 300, 3) := by decide +kernel
theorem dX9_runStart_10 : decode cX9_runStart 10 = .ok (.if_icmp .ge 79, 3) := by decide +kernel
theorem dX9_runStart_13 : decode cX9_runStart 13 = .ok (.aload_n 0, 1) := by decide +kernel
theorem dX9_runStart_14 : decode cX9_runStart 14 = .ok (.getfield 43, 3) := by decide +kernel
theorem dX9_runStart_17 : decode cX9_runStart 17 = .ok (.iload_n 1, 1) := by decide +kernel
theorem dX9_runStart_18 : decode cX9_runStart 18 = .ok (.iload 4, 2) := by decide +kernel
theorem dX9_runStart_20 : decode cX9_runStart 20 = .ok (.invokevirtual 172, 3) := by decide +kernel
theorem dX9_runStart_23 : decode cX9_runStart 23 = .ok (.lconst 0, 1) := by decide +kernel
theorem dX9_runStart_24 : decode cX9_runStart 24 = .ok (.lcmp, 1) := by decide +kernel
theorem dX9_runStart_25 : decode cX9_runStart 25 = .ok (.ifCond .le 29, 3) := by decide +kernel
theorem dX9_runStart_28 : decode cX9_runStart 28 = .ok (.iload 4, 2) := by decide +kernel
theorem dX9_runStart_30 : decode cX9_runStart 30 = .ok (.ifCond .eq 20, 3) := by decide +kernel
theorem dX9_runStart_33 : decode cX9_runStart 33 = .ok (.aload_n 0, 1) := by decide +kernel
theorem dX9_runStart_34 : decode cX9_runStart 34 = .ok (.getfield 43, 3) := by decide +kernel
theorem dX9_runStart_37 : decode cX9_runStart 37 = .ok (.iload_n 1, 1) := by decide +kernel
theorem dX9_runStart_38 : decode cX9_runStart 38 = .ok (.iload 4, 2) := by decide +kernel
theorem dX9_runStart_40 : decode cX9_runStart 40 = .ok (.iconst 1, 1) := by decide +kernel
theorem dX9_runStart_41 : decode cX9_runStart 41 = .ok (.isub, 1) := by decide +kernel
theorem dX9_runStart_42 : decode cX9_runStart 42 = .ok (.invokevirtual 172, 3) := by decide +kernel
theorem dX9_runStart_45 : decode cX9_runStart 45 = .ok (.lconst 0, 1) := by decide +kernel
theorem dX9_runStart_46 : decode cX9_runStart 46 = .ok (.lcmp, 1) := by decide +kernel
theorem dX9_runStart_47 : decode cX9_runStart 47 = .ok (.ifCond .ne 7, 3) := by decide +kernel
theorem dX9_runStart_50 : decode cX9_runStart 50 = .ok (.iconst 1, 1) := by decide +kernel
theorem dX9_runStart_51 : decode cX9_runStart 51 = .ok (.goto 4, 3) := by decide +kernel
theorem dX9_runStart_54 : decode cX9_runStart 54 = .ok (.iconst 0, 1) := by decide +kernel
theorem dX9_runStart_55 : decode cX9_runStart 55 = .ok (.istore 5, 2) := by decide +kernel
theorem dX9_runStart_57 : decode cX9_runStart 57 = .ok (.iload 5, 2) := by decide +kernel
theorem dX9_runStart_59 : decode cX9_runStart 59 = .ok (.ifCond .eq 11, 3) := by decide +kernel
theorem dX9_runStart_62 : decode cX9_runStart 62 = .ok (.iload_n 3, 1) := by decide +kernel
theorem dX9_runStart_63 : decode cX9_runStart 63 = .ok (.iload_n 2, 1) := by decide +kernel
theorem dX9_runStart_64 : decode cX9_runStart 64 = .ok (.if_icmp .ne 6, 3) := by decide +kernel
theorem dX9_runStart_67 : decode cX9_runStart 67 = .ok (.iload 4, 2) := by decide +kernel
theorem dX9_runStart_69 : decode cX9_runStart 69 = .ok (.ireturn, 1) := by decide +kernel
theorem dX9_runStart_70 : decode cX9_runStart 70 = .ok (.iload_n 3, 1) := by decide +kernel
theorem dX9_runStart_71 : decode cX9_runStart 71 = .ok (.iload 5, 2) := by decide +kernel
theorem dX9_runStart_73 : decode cX9_runStart 73 = .ok (.ifCond .eq 7, 3) := by decide +kernel
theorem dX9_runStart_76 : decode cX9_runStart 76 = .ok (.iconst 1, 1) := by decide +kernel
theorem dX9_runStart_77 : decode cX9_runStart 77 = .ok (.goto 4, 3) := by decide +kernel
theorem dX9_runStart_80 : decode cX9_runStart 80 = .ok (.iconst 0, 1) := by decide +kernel
theorem dX9_runStart_81 : decode cX9_runStart 81 = .ok (.iadd, 1) := by decide +kernel
theorem dX9_runStart_82 : decode cX9_runStart 82 = .ok (.istore_n 3, 1) := by decide +kernel
theorem dX9_runStart_83 : decode cX9_runStart 83 = .ok (.iinc 4 1, 3) := by decide +kernel
theorem dX9_runStart_86 : decode cX9_runStart 86 = .ok (.goto (-81), 3) := by decide +kernel
theorem dX9_runStart_89 : decode cX9_runStart 89 = .ok (.bipush (-9), 2) := by decide +kernel
theorem dX9_runStart_91 : decode cX9_runStart 91 = .ok (.ireturn, 1) := by decide +kernel
theorem dX9_runEnd_0 : decode cX9_runEnd 0 = .ok (.iload_n 2, 1) := by decide +kernel
theorem dX9_runEnd_1 : decode cX9_runEnd 1 = .ok (.istore_n 3, 1) := by decide +kernel
theorem dX9_runEnd_2 : decode cX9_runEnd 2 = .ok (.iload_n 3, 1) := by decide +kernel
theorem dX9_runEnd_3 : decode cX9_runEnd 3 = .ok (.sipush 299, 3) := by decide +kernel
theorem dX9_runEnd_6 : decode cX9_runEnd 6 = .ok (.if_icmp .ge 25, 3) := by decide +kernel
theorem dX9_runEnd_9 : decode cX9_runEnd 9 = .ok (.aload_n 0, 1) := by decide +kernel
theorem dX9_runEnd_10 : decode cX9_runEnd 10 = .ok (.getfield 43, 3) := by decide +kernel
theorem dX9_runEnd_13 : decode cX9_runEnd 13 = .ok (.iload_n 1, 1) := by decide +kernel
theorem dX9_runEnd_14 : decode cX9_runEnd 14 = .ok (.iload_n 3, 1) := by decide +kernel
theorem dX9_runEnd_15 : decode cX9_runEnd 15 = .ok (.iconst 1, 1) := by decide +kernel
theorem dX9_runEnd_16 : decode cX9_runEnd 16 = .ok (.iadd, 1) := by decide +kernel
theorem dX9_runEnd_17 : decode cX9_runEnd 17 = .ok (.invokevirtual 172, 3) := by decide +kernel
theorem dX9_runEnd_20 : decode cX9_runEnd 20 = .ok (.lconst 0, 1) := by decide +kernel
theorem dX9_runEnd_21 : decode cX9_runEnd 21 = .ok (.lcmp, 1) := by decide +kernel
theorem dX9_runEnd_22 : decode cX9_runEnd 22 = .ok (.ifCond .le 9, 3) := by decide +kernel
theorem dX9_runEnd_25 : decode cX9_runEnd 25 = .ok (.iinc 3 1, 3) := by decide +kernel
theorem dX9_runEnd_28 : decode cX9_runEnd 28 = .ok (.goto (-26), 3) := by decide +kernel
theorem dX9_runEnd_31 : decode cX9_runEnd 31 = .ok (.iload_n 3, 1) := by decide +kernel
theorem dX9_runEnd_32 : decode cX9_runEnd 32 = .ok (.ireturn, 1) := by decide +kernel
theorem dX9_greatestDivisor_0 : decode cX9_greatestDivisor 0 = .ok (.lload_n 0, 1) := by decide +kernel
theorem dX9_greatestDivisor_1 : decode cX9_greatestDivisor 1 = .ok (.lstore 4, 2) := by decide +kernel
theorem dX9_greatestDivisor_3 : decode cX9_greatestDivisor 3 = .ok (.lload_n 2, 1) := by decide +kernel
theorem dX9_greatestDivisor_4 : decode cX9_greatestDivisor 4 = .ok (.lstore 6, 2) := by decide +kernel
theorem dX9_greatestDivisor_6 : decode cX9_greatestDivisor 6 = .ok (.iconst 0, 1) := by decide +kernel
theorem dX9_greatestDivisor_7 : decode cX9_greatestDivisor 7 = .ok (.istore 8, 2) := by decide +kernel
theorem dX9_greatestDivisor_9 : decode cX9_greatestDivisor 9 = .ok (.iload 8, 2) := by decide +kernel
theorem dX9_greatestDivisor_11 : decode cX9_greatestDivisor 11 = .ok (.bipush 100, 2) := by decide +kernel
theorem dX9_greatestDivisor_13 : decode cX9_greatestDivisor 13 = .ok (.if_icmp .ge 31, 3) := by decide +kernel
theorem dX9_greatestDivisor_16 : decode cX9_greatestDivisor 16 = .ok (.lload 6, 2) := by decide +kernel
theorem dX9_greatestDivisor_18 : decode cX9_greatestDivisor 18 = .ok (.lconst 0, 1) := by decide +kernel
theorem dX9_greatestDivisor_19 : decode cX9_greatestDivisor 19 = .ok (.lcmp, 1) := by decide +kernel
theorem dX9_greatestDivisor_20 : decode cX9_greatestDivisor 20 = .ok (.ifCond .eq 24, 3) := by decide +kernel
theorem dX9_greatestDivisor_23 : decode cX9_greatestDivisor 23 = .ok (.lload 4, 2) := by decide +kernel
theorem dX9_greatestDivisor_25 : decode cX9_greatestDivisor 25 = .ok (.lload 6, 2) := by decide +kernel
theorem dX9_greatestDivisor_27 : decode cX9_greatestDivisor 27 = .ok (.lrem, 1) := by decide +kernel
theorem dX9_greatestDivisor_28 : decode cX9_greatestDivisor 28 = .ok (.lstore 9, 2) := by decide +kernel
theorem dX9_greatestDivisor_30 : decode cX9_greatestDivisor 30 = .ok (.lload 6, 2) := by decide +kernel
theorem dX9_greatestDivisor_32 : decode cX9_greatestDivisor 32 = .ok (.lstore 4, 2) := by decide +kernel
theorem dX9_greatestDivisor_34 : decode cX9_greatestDivisor 34 = .ok (.lload 9, 2) := by decide +kernel
theorem dX9_greatestDivisor_36 : decode cX9_greatestDivisor 36 = .ok (.lstore 6, 2) := by decide +kernel
theorem dX9_greatestDivisor_38 : decode cX9_greatestDivisor 38 = .ok (.iinc 8 1, 3) := by decide +kernel
theorem dX9_greatestDivisor_41 : decode cX9_greatestDivisor 41 = .ok (.goto (-32), 3) := by decide +kernel
theorem dX9_greatestDivisor_44 : decode cX9_greatestDivisor 44 = .ok (.lload 4, 2) := by decide +kernel
theorem dX9_greatestDivisor_46 : decode cX9_greatestDivisor 46 = .ok (.lreturn, 1) := by decide +kernel
theorem dX9_wrongInRow_0 : decode cX9_wrongInRow 0 = .ok (.aload_n 0, 1) := by decide +kernel
theorem dX9_wrongInRow_1 : decode cX9_wrongInRow 1 = .ok (.getfield 26, 3) := by decide +kernel
theorem dX9_wrongInRow_4 : decode cX9_wrongInRow 4 = .ok (.iload_n 1, 1) := by decide +kernel
theorem dX9_wrongInRow_5 : decode cX9_wrongInRow 5 = .ok (.invokestatic 105, 3) := by decide +kernel
theorem dX9_wrongInRow_8 : decode cX9_wrongInRow 8 = .ok (.istore_n 2, 1) := by decide +kernel
theorem dX9_wrongInRow_9 : decode cX9_wrongInRow 9 = .ok (.aload_n 0, 1) := by decide +kernel
theorem dX9_wrongInRow_10 : decode cX9_wrongInRow 10 = .ok (.getfield 36, 3) := by decide +kernel
theorem dX9_wrongInRow_13 : decode cX9_wrongInRow 13 = .ok (.aload_n 0, 1) := by decide +kernel
theorem dX9_wrongInRow_14 : decode cX9_wrongInRow 14 = .ok (.getfield 12, 3) := by decide +kernel
theorem dX9_wrongInRow_17 : decode cX9_wrongInRow 17 = .ok (.iload_n 1, 1) := by decide +kernel
theorem dX9_wrongInRow_18 : decode cX9_wrongInRow 18 = .ok (.iload_n 2, 1) := by decide +kernel
theorem dX9_wrongInRow_19 : decode cX9_wrongInRow 19 = .ok (.invokevirtual 160, 3) := by decide +kernel
theorem dX9_wrongInRow_22 : decode cX9_wrongInRow 22 = .ok (.istore_n 3, 1) := by decide +kernel
theorem dX9_wrongInRow_23 : decode cX9_wrongInRow 23 = .ok (.iload_n 3, 1) := by decide +kernel
theorem dX9_wrongInRow_24 : decode cX9_wrongInRow 24 = .ok (.ifCond .eq 11, 3) := by decide +kernel
theorem dX9_wrongInRow_27 : decode cX9_wrongInRow 27 = .ok (.bipush 100, 2) := by decide +kernel
theorem dX9_wrongInRow_29 : decode cX9_wrongInRow 29 = .ok (.iload_n 3, 1) := by decide +kernel
theorem dX9_wrongInRow_30 : decode cX9_wrongInRow 30 = .ok (.invokestatic 255, 3) := by decide +kernel
theorem dX9_wrongInRow_33 : decode cX9_wrongInRow 33 = .ok (.iadd, 1) := by decide +kernel
theorem dX9_wrongInRow_34 : decode cX9_wrongInRow 34 = .ok (.ireturn, 1) := by decide +kernel
theorem dX9_wrongInRow_35 : decode cX9_wrongInRow 35 = .ok (.aload_n 0, 1) := by decide +kernel
theorem dX9_wrongInRow_36 : decode cX9_wrongInRow 36 = .ok (.getfield 12, 3) := by decide +kernel
theorem dX9_wrongInRow_39 : decode cX9_wrongInRow 39 = .ok (.getfield 73, 3) := by decide +kernel
theorem dX9_wrongInRow_42 : decode cX9_wrongInRow 42 = .ok (.getfield 258, 3) := by decide +kernel
theorem dX9_wrongInRow_45 : decode cX9_wrongInRow 45 = .ok (.iload_n 1, 1) := by decide +kernel
theorem dX9_wrongInRow_46 : decode cX9_wrongInRow 46 = .ok (.invokestatic 105, 3) := by decide +kernel
theorem dX9_wrongInRow_49 : decode cX9_wrongInRow 49 = .ok (.istore 4, 2) := by decide +kernel
theorem dX9_wrongInRow_51 : decode cX9_wrongInRow 51 = .ok (.iload 4, 2) := by decide +kernel
theorem dX9_wrongInRow_53 : decode cX9_wrongInRow 53 = .ok (.ifCond .ge 6, 3) := by decide +kernel
theorem dX9_wrongInRow_56 : decode cX9_wrongInRow 56 = .ok (.bipush (-9), 2) := by decide +kernel
theorem dX9_wrongInRow_58 : decode cX9_wrongInRow 58 = .ok (.ireturn, 1) := by decide +kernel
theorem dX9_wrongInRow_59 : decode cX9_wrongInRow 59 = .ok (.aload_n 0, 1) := by decide +kernel
theorem dX9_wrongInRow_60 : decode cX9_wrongInRow 60 = .ok (.getfield 26, 3) := by decide +kernel
theorem dX9_wrongInRow_63 : decode cX9_wrongInRow 63 = .ok (.iload 4, 2) := by decide +kernel
theorem dX9_wrongInRow_65 : decode cX9_wrongInRow 65 = .ok (.invokestatic 105, 3) := by decide +kernel
theorem dX9_wrongInRow_68 : decode cX9_wrongInRow 68 = .ok (.istore 5, 2) := by decide +kernel
theorem dX9_wrongInRow_70 : decode cX9_wrongInRow 70 = .ok (.iload_n 2, 1) := by decide +kernel
theorem dX9_wrongInRow_71 : decode cX9_wrongInRow 71 = .ok (.aload_n 0, 1) := by decide +kernel
theorem dX9_wrongInRow_72 : decode cX9_wrongInRow 72 = .ok (.getfield 12, 3) := by decide +kernel
theorem dX9_wrongInRow_75 : decode cX9_wrongInRow 75 = .ok (.getfield 73, 3) := by decide +kernel
theorem dX9_wrongInRow_78 : decode cX9_wrongInRow 78 = .ok (.iload_n 1, 1) := by decide +kernel
theorem dX9_wrongInRow_79 : decode cX9_wrongInRow 79 = .ok (.iload 5, 2) := by decide +kernel
theorem dX9_wrongInRow_81 : decode cX9_wrongInRow 81 = .ok (.iconst 1, 1) := by decide +kernel
theorem dX9_wrongInRow_82 : decode cX9_wrongInRow 82 = .ok (.invokevirtual 261, 3) := by decide +kernel
theorem dX9_wrongInRow_85 : decode cX9_wrongInRow 85 = .ok (.if_icmp .lt 25, 3) := by decide +kernel
theorem dX9_wrongInRow_88 : decode cX9_wrongInRow 88 = .ok (.iload_n 2, 1) := by decide +kernel
theorem dX9_wrongInRow_89 : decode cX9_wrongInRow 89 = .ok (.aload_n 0, 1) := by decide +kernel
theorem dX9_wrongInRow_90 : decode cX9_wrongInRow 90 = .ok (.getfield 12, 3) := by decide +kernel
theorem dX9_wrongInRow_93 : decode cX9_wrongInRow 93 = .ok (.getfield 73, 3) := by decide +kernel
theorem dX9_wrongInRow_96 : decode cX9_wrongInRow 96 = .ok (.iload_n 1, 1) := by decide +kernel
theorem dX9_wrongInRow_97 : decode cX9_wrongInRow 97 = .ok (.iload 5, 2) := by decide +kernel
theorem dX9_wrongInRow_99 : decode cX9_wrongInRow 99 = .ok (.iconst 1, 1) := by decide +kernel
theorem dX9_wrongInRow_100 : decode cX9_wrongInRow 100 = .ok (.invokevirtual 265, 3) := by decide +kernel
theorem dX9_wrongInRow_103 : decode cX9_wrongInRow 103 = .ok (.if_icmp .gt 7, 3) := by decide +kernel
theorem dX9_wrongInRow_106 : decode cX9_wrongInRow 106 = .ok (.iconst 1, 1) := by decide +kernel
theorem dX9_wrongInRow_107 : decode cX9_wrongInRow 107 = .ok (.goto 4, 3) := by decide +kernel
theorem dX9_wrongInRow_110 : decode cX9_wrongInRow 110 = .ok (.iconst 0, 1) := by decide +kernel
theorem dX9_wrongInRow_111 : decode cX9_wrongInRow 111 = .ok (.istore 6, 2) := by decide +kernel
theorem dX9_wrongInRow_113 : decode cX9_wrongInRow 113 = .ok (.iload 6, 2) := by decide +kernel
theorem dX9_wrongInRow_115 : decode cX9_wrongInRow 115 = .ok (.ifCond .eq 8, 3) := by decide +kernel
theorem dX9_wrongInRow_118 : decode cX9_wrongInRow 118 = .ok (.bipush (-9), 2) := by decide +kernel
theorem dX9_wrongInRow_120 : decode cX9_wrongInRow 120 = .ok (.goto 4, 3) := by decide +kernel
theorem dX9_wrongInRow_123 : decode cX9_wrongInRow 123 = .ok (.iload_n 1, 1) := by decide +kernel
theorem dX9_wrongInRow_124 : decode cX9_wrongInRow 124 = .ok (.ireturn, 1) := by decide +kernel
theorem dX9_costOf_0 : decode cX9_costOf 0 = .ok (.iload_n 0, 1) := by decide +kernel
theorem dX9_costOf_1 : decode cX9_costOf 1 = .ok (.invokestatic 244, 3) := by decide +kernel
theorem dX9_costOf_4 : decode cX9_costOf 4 = .ok (.i2l, 1) := by decide +kernel
theorem dX9_costOf_5 : decode cX9_costOf 5 = .ok (.ldc2_w 268, 3) := by decide +kernel
theorem dX9_costOf_8 : decode cX9_costOf 8 = .ok (.lmul, 1) := by decide +kernel
theorem dX9_costOf_9 : decode cX9_costOf 9 = .ok (.iload_n 0, 1) := by decide +kernel
theorem dX9_costOf_10 : decode cX9_costOf 10 = .ok (.i2l, 1) := by decide +kernel
theorem dX9_costOf_11 : decode cX9_costOf 11 = .ok (.ladd, 1) := by decide +kernel
theorem dX9_costOf_12 : decode cX9_costOf 12 = .ok (.lreturn, 1) := by decide +kernel
theorem dX9_someWayBefore_0 : decode cX9_someWayBefore 0 = .ok (.aload_n 0, 1) := by decide +kernel
theorem dX9_someWayBefore_1 : decode cX9_someWayBefore 1 = .ok (.iload_n 2, 1) := by decide +kernel
theorem dX9_someWayBefore_2 : decode cX9_someWayBefore 2 = .ok (.iconst 1, 1) := by decide +kernel
theorem dX9_someWayBefore_3 : decode cX9_someWayBefore 3 = .ok (.invokevirtual 270, 3) := by decide +kernel
theorem dX9_someWayBefore_6 : decode cX9_someWayBefore 6 = .ok (.aload_n 0, 1) := by decide +kernel
theorem dX9_someWayBefore_7 : decode cX9_someWayBefore 7 = .ok (.getfield 43, 3) := by decide +kernel
theorem dX9_someWayBefore_10 : decode cX9_someWayBefore 10 = .ok (.aload_n 0, 1) := by decide +kernel
theorem dX9_someWayBefore_11 : decode cX9_someWayBefore 11 = .ok (.getfield 12, 3) := by decide +kernel
theorem dX9_someWayBefore_14 : decode cX9_someWayBefore 14 = .ok (.getfield 73, 3) := by decide +kernel
theorem dX9_someWayBefore_17 : decode cX9_someWayBefore 17 = .ok (.iload_n 1, 1) := by decide +kernel
theorem dX9_someWayBefore_18 : decode cX9_someWayBefore 18 = .ok (.aload_n 0, 1) := by decide +kernel
theorem dX9_someWayBefore_19 : decode cX9_someWayBefore 19 = .ok (.getfield 57, 3) := by decide +kernel
theorem dX9_someWayBefore_22 : decode cX9_someWayBefore 22 = .ok (.invokevirtual 207, 3) := by decide +kernel
theorem dX9_someWayBefore_25 : decode cX9_someWayBefore 25 = .ok (.iconst 0, 1) := by decide +kernel
theorem dX9_someWayBefore_26 : decode cX9_someWayBefore 26 = .ok (.istore_n 3, 1) := by decide +kernel
theorem dX9_someWayBefore_27 : decode cX9_someWayBefore 27 = .ok (.iload_n 3, 1) := by decide +kernel
theorem dX9_someWayBefore_28 : decode cX9_someWayBefore 28 = .ok (.sipush 300, 3) := by decide +kernel
theorem dX9_someWayBefore_31 : decode cX9_someWayBefore 31 = .ok (.if_icmp .ge 43, 3) := by decide +kernel
theorem dX9_someWayBefore_34 : decode cX9_someWayBefore 34 = .ok (.aload_n 0, 1) := by decide +kernel
theorem dX9_someWayBefore_35 : decode cX9_someWayBefore 35 = .ok (.getfield 43, 3) := by decide +kernel
theorem dX9_someWayBefore_38 : decode cX9_someWayBefore 38 = .ok (.iload_n 1, 1) := by decide +kernel
theorem dX9_someWayBefore_39 : decode cX9_someWayBefore 39 = .ok (.iload_n 3, 1) := by decide +kernel
theorem dX9_someWayBefore_40 : decode cX9_someWayBefore 40 = .ok (.invokevirtual 172, 3) := by decide +kernel
theorem dX9_someWayBefore_43 : decode cX9_someWayBefore 43 = .ok (.lstore 4, 2) := by decide +kernel
theorem dX9_someWayBefore_45 : decode cX9_someWayBefore 45 = .ok (.lload 4, 2) := by decide +kernel
theorem dX9_someWayBefore_47 : decode cX9_someWayBefore 47 = .ok (.ldc2_w 211, 3) := by decide +kernel
theorem dX9_someWayBefore_50 : decode cX9_someWayBefore 50 = .ok (.lcmp, 1) := by decide +kernel
theorem dX9_someWayBefore_51 : decode cX9_someWayBefore 51 = .ok (.ifCond .ge 17, 3) := by decide +kernel
theorem dX9_someWayBefore_54 : decode cX9_someWayBefore 54 = .ok (.ldc2_w 274, 3) := by decide +kernel
theorem dX9_someWayBefore_57 : decode cX9_someWayBefore 57 = .ok (.lload 4, 2) := by decide +kernel
theorem dX9_someWayBefore_59 : decode cX9_someWayBefore 59 = .ok (.lsub, 1) := by decide +kernel
theorem dX9_someWayBefore_60 : decode cX9_someWayBefore 60 = .ok (.iload_n 3, 1) := by decide +kernel
theorem dX9_someWayBefore_61 : decode cX9_someWayBefore 61 = .ok (.i2l, 1) := by decide +kernel
theorem dX9_someWayBefore_62 : decode cX9_someWayBefore 62 = .ok (.lcmp, 1) := by decide +kernel
theorem dX9_someWayBefore_63 : decode cX9_someWayBefore 63 = .ok (.ifCond .le 5, 3) := by decide +kernel
theorem dX9_someWayBefore_66 : decode cX9_someWayBefore 66 = .ok (.iconst 1, 1) := by decide +kernel
theorem dX9_someWayBefore_67 : decode cX9_someWayBefore 67 = .ok (.ireturn, 1) := by decide +kernel
theorem dX9_someWayBefore_68 : decode cX9_someWayBefore 68 = .ok (.iinc 3 1, 3) := by decide +kernel
theorem dX9_someWayBefore_71 : decode cX9_someWayBefore 71 = .ok (.goto (-44), 3) := by decide +kernel
theorem dX9_someWayBefore_74 : decode cX9_someWayBefore 74 = .ok (.iconst 0, 1) := by decide +kernel
theorem dX9_someWayBefore_75 : decode cX9_someWayBefore 75 = .ok (.ireturn, 1) := by decide +kernel
theorem dX9_someWayNotBefore_0 : decode cX9_someWayNotBefore 0 = .ok (.aload_n 0, 1) := by decide +kernel
theorem dX9_someWayNotBefore_1 : decode cX9_someWayNotBefore 1 = .ok (.iload_n 2, 1) := by decide +kernel
theorem dX9_someWayNotBefore_2 : decode cX9_someWayNotBefore 2 = .ok (.iconst 0, 1) := by decide +kernel
theorem dX9_someWayNotBefore_3 : decode cX9_someWayNotBefore 3 = .ok (.invokevirtual 270, 3) := by decide +kernel
theorem dX9_someWayNotBefore_6 : decode cX9_someWayNotBefore 6 = .ok (.aload_n 0, 1) := by decide +kernel
theorem dX9_someWayNotBefore_7 : decode cX9_someWayNotBefore 7 = .ok (.getfield 43, 3) := by decide +kernel
theorem dX9_someWayNotBefore_10 : decode cX9_someWayNotBefore 10 = .ok (.aload_n 0, 1) := by decide +kernel
theorem dX9_someWayNotBefore_11 : decode cX9_someWayNotBefore 11 = .ok (.getfield 12, 3) := by decide +kernel
theorem dX9_someWayNotBefore_14 : decode cX9_someWayNotBefore 14 = .ok (.getfield 73, 3) := by decide +kernel
theorem dX9_someWayNotBefore_17 : decode cX9_someWayNotBefore 17 = .ok (.iload_n 1, 1) := by decide +kernel
theorem dX9_someWayNotBefore_18 : decode cX9_someWayNotBefore 18 = .ok (.aload_n 0, 1) := by decide +kernel
theorem dX9_someWayNotBefore_19 : decode cX9_someWayNotBefore 19 = .ok (.getfield 57, 3) := by decide +kernel
theorem dX9_someWayNotBefore_22 : decode cX9_someWayNotBefore 22 = .ok (.invokevirtual 207, 3) := by decide +kernel
theorem dX9_someWayNotBefore_25 : decode cX9_someWayNotBefore 25 = .ok (.iconst 0, 1) := by decide +kernel
theorem dX9_someWayNotBefore_26 : decode cX9_someWayNotBefore 26 = .ok (.istore_n 3, 1) := by decide +kernel
theorem dX9_someWayNotBefore_27 : decode cX9_someWayNotBefore 27 = .ok (.iload_n 3, 1) := by decide +kernel
theorem dX9_someWayNotBefore_28 : decode cX9_someWayNotBefore 28 = .ok (.sipush 300, 3) := by decide +kernel
theorem dX9_someWayNotBefore_31 : decode cX9_someWayNotBefore 31 = .ok (.if_icmp .ge 26, 3) := by decide +kernel
theorem dX9_someWayNotBefore_34 : decode cX9_someWayNotBefore 34 = .ok (.aload_n 0, 1) := by decide +kernel
theorem dX9_someWayNotBefore_35 : decode cX9_someWayNotBefore 35 = .ok (.getfield 43, 3) := by decide +kernel
theorem dX9_someWayNotBefore_38 : decode cX9_someWayNotBefore 38 = .ok (.iload_n 1, 1) := by decide +kernel
theorem dX9_someWayNotBefore_39 : decode cX9_someWayNotBefore 39 = .ok (.iload_n 3, 1) := by decide +kernel
theorem dX9_someWayNotBefore_40 : decode cX9_someWayNotBefore 40 = .ok (.invokevirtual 172, 3) := by decide +kernel
theorem dX9_someWayNotBefore_43 : decode cX9_someWayNotBefore 43 = .ok (.iload_n 3, 1) := by decide +kernel
theorem dX9_someWayNotBefore_44 : decode cX9_someWayNotBefore 44 = .ok (.i2l, 1) := by decide +kernel
theorem dX9_someWayNotBefore_45 : decode cX9_someWayNotBefore 45 = .ok (.lcmp, 1) := by decide +kernel
theorem dX9_someWayNotBefore_46 : decode cX9_someWayNotBefore 46 = .ok (.ifCond .gt 5, 3) := by decide +kernel
theorem dX9_someWayNotBefore_49 : decode cX9_someWayNotBefore 49 = .ok (.iconst 1, 1) := by decide +kernel
theorem dX9_someWayNotBefore_50 : decode cX9_someWayNotBefore 50 = .ok (.ireturn, 1) := by decide +kernel
theorem dX9_someWayNotBefore_51 : decode cX9_someWayNotBefore 51 = .ok (.iinc 3 1, 3) := by decide +kernel
theorem dX9_someWayNotBefore_54 : decode cX9_someWayNotBefore 54 = .ok (.goto (-27), 3) := by decide +kernel
theorem dX9_someWayNotBefore_57 : decode cX9_someWayNotBefore 57 = .ok (.iconst 0, 1) := by decide +kernel
theorem dX9_someWayNotBefore_58 : decode cX9_someWayNotBefore 58 = .ok (.ireturn, 1) := by decide +kernel
theorem dX9_setMinutes_0 : decode cX9_setMinutes 0 = .ok (.iconst 0, 1) := by decide +kernel
theorem dX9_setMinutes_1 : decode cX9_setMinutes 1 = .ok (.istore_n 3, 1) := by decide +kernel
theorem dX9_setMinutes_2 : decode cX9_setMinutes 2 = .ok (.iload_n 3, 1) := by decide +kernel
theorem dX9_setMinutes_3 : decode cX9_setMinutes 3 = .ok (.aload_n 0, 1) := by decide +kernel
theorem dX9_setMinutes_4 : decode cX9_setMinutes 4 = .ok (.getfield 12, 3) := by decide +kernel
theorem dX9_setMinutes_7 : decode cX9_setMinutes 7 = .ok (.getfield 73, 3) := by decide +kernel
theorem dX9_setMinutes_10 : decode cX9_setMinutes 10 = .ok (.getfield 77, 3) := by decide +kernel
theorem dX9_setMinutes_13 : decode cX9_setMinutes 13 = .ok (.if_icmp .ge 90, 3) := by decide +kernel
theorem dX9_setMinutes_16 : decode cX9_setMinutes 16 = .ok (.iconst 0, 1) := by decide +kernel
theorem dX9_setMinutes_17 : decode cX9_setMinutes 17 = .ok (.istore 4, 2) := by decide +kernel
theorem dX9_setMinutes_19 : decode cX9_setMinutes 19 = .ok (.iload 4, 2) := by decide +kernel
theorem dX9_setMinutes_21 : decode cX9_setMinutes 21 = .ok (.sipush 300, 3) := by decide +kernel
theorem dX9_setMinutes_24 : decode cX9_setMinutes 24 = .ok (.if_icmp .ge 73, 3) := by decide +kernel
theorem dX9_setMinutes_27 : decode cX9_setMinutes 27 = .ok (.iload_n 2, 1) := by decide +kernel
theorem dX9_setMinutes_28 : decode cX9_setMinutes 28 = .ok (.ifCond .eq 13, 3) := by decide +kernel
theorem dX9_setMinutes_31 : decode cX9_setMinutes 31 = .ok (.sipush 299, 3) := by decide +kernel
theorem dX9_setMinutes_34 : decode cX9_setMinutes 34 = .ok (.iload 4, 2) := by decide +kernel
theorem dX9_setMinutes_36 : decode cX9_setMinutes 36 = .ok (.isub, 1) := by decide +kernel
theorem dX9_setMinutes_37 : decode cX9_setMinutes 37 = .ok (.i2l, 1) := by decide +kernel
theorem dX9_setMinutes_38 : decode cX9_setMinutes 38 = .ok (.goto 6, 3) := by decide +kernel
theorem dX9_setMinutes_41 : decode cX9_setMinutes 41 = .ok (.iload 4, 2) := by decide +kernel
theorem dX9_setMinutes_43 : decode cX9_setMinutes 43 = .ok (.i2l, 1) := by decide +kernel
theorem dX9_setMinutes_44 : decode cX9_setMinutes 44 = .ok (.lstore 5, 2) := by decide +kernel
theorem dX9_setMinutes_46 : decode cX9_setMinutes 46 = .ok (.aload_n 0, 1) := by decide +kernel
theorem dX9_setMinutes_47 : decode cX9_setMinutes 47 = .ok (.getfield 36, 3) := by decide +kernel
theorem dX9_setMinutes_50 : decode cX9_setMinutes 50 = .ok (.aload_n 0, 1) := by decide +kernel
theorem dX9_setMinutes_51 : decode cX9_setMinutes 51 = .ok (.getfield 12, 3) := by decide +kernel
theorem dX9_setMinutes_54 : decode cX9_setMinutes 54 = .ok (.iload_n 3, 1) := by decide +kernel
theorem dX9_setMinutes_55 : decode cX9_setMinutes 55 = .ok (.iload 4, 2) := by decide +kernel
theorem dX9_setMinutes_57 : decode cX9_setMinutes 57 = .ok (.invokevirtual 160, 3) := by decide +kernel
theorem dX9_setMinutes_60 : decode cX9_setMinutes 60 = .ok (.ifCond .eq 11, 3) := by decide +kernel
theorem dX9_setMinutes_63 : decode cX9_setMinutes 63 = .ok (.ldc2_w 211, 3) := by decide +kernel
theorem dX9_setMinutes_66 : decode cX9_setMinutes 66 = .ok (.lstore 5, 2) := by decide +kernel
theorem dX9_setMinutes_68 : decode cX9_setMinutes 68 = .ok (.goto 11, 3) := by decide +kernel
theorem dX9_setMinutes_71 : decode cX9_setMinutes 71 = .ok (.iload_n 3, 1) := by decide +kernel
theorem dX9_setMinutes_72 : decode cX9_setMinutes 72 = .ok (.iload_n 1, 1) := by decide +kernel
theorem dX9_setMinutes_73 : decode cX9_setMinutes 73 = .ok (.if_icmp .eq 6, 3) := by decide +kernel
theorem dX9_setMinutes_76 : decode cX9_setMinutes 76 = .ok (.lconst 0, 1) := by decide +kernel
theorem dX9_setMinutes_77 : decode cX9_setMinutes 77 = .ok (.lstore 5, 2) := by decide +kernel
theorem dX9_setMinutes_79 : decode cX9_setMinutes 79 = .ok (.aload_n 0, 1) := by decide +kernel
theorem dX9_setMinutes_80 : decode cX9_setMinutes 80 = .ok (.getfield 43, 3) := by decide +kernel
theorem dX9_setMinutes_83 : decode cX9_setMinutes 83 = .ok (.iload_n 3, 1) := by decide +kernel
theorem dX9_setMinutes_84 : decode cX9_setMinutes 84 = .ok (.iload 4, 2) := by decide +kernel
theorem dX9_setMinutes_86 : decode cX9_setMinutes 86 = .ok (.lload 5, 2) := by decide +kernel
theorem dX9_setMinutes_88 : decode cX9_setMinutes 88 = .ok (.invokevirtual 203, 3) := by decide +kernel
theorem dX9_setMinutes_91 : decode cX9_setMinutes 91 = .ok (.iinc 4 1, 3) := by decide +kernel
theorem dX9_setMinutes_94 : decode cX9_setMinutes 94 = .ok (.goto (-75), 3) := by decide +kernel
theorem dX9_setMinutes_97 : decode cX9_setMinutes 97 = .ok (.iinc 3 1, 3) := by decide +kernel
theorem dX9_setMinutes_100 : decode cX9_setMinutes 100 = .ok (.goto (-98), 3) := by decide +kernel
theorem dX9_setMinutes_103 : decode cX9_setMinutes 103 = .ok (.return_, 1) := by decide +kernel
theorem dX9_mostAlike_0 : decode cX9_mostAlike 0 = .ok (.aload_n 0, 1) := by decide +kernel
theorem dX9_mostAlike_1 : decode cX9_mostAlike 1 = .ok (.iconst (-1), 1) := by decide +kernel
theorem dX9_mostAlike_2 : decode cX9_mostAlike 2 = .ok (.invokevirtual 252, 3) := by decide +kernel
theorem dX9_mostAlike_5 : decode cX9_mostAlike 5 = .ok (.aload_n 0, 1) := by decide +kernel
theorem dX9_mostAlike_6 : decode cX9_mostAlike 6 = .ok (.getfield 43, 3) := by decide +kernel
theorem dX9_mostAlike_9 : decode cX9_mostAlike 9 = .ok (.aload_n 0, 1) := by decide +kernel
theorem dX9_mostAlike_10 : decode cX9_mostAlike 10 = .ok (.getfield 12, 3) := by decide +kernel
theorem dX9_mostAlike_13 : decode cX9_mostAlike 13 = .ok (.getfield 73, 3) := by decide +kernel
theorem dX9_mostAlike_16 : decode cX9_mostAlike 16 = .ok (.iload_n 1, 1) := by decide +kernel
theorem dX9_mostAlike_17 : decode cX9_mostAlike 17 = .ok (.aload_n 0, 1) := by decide +kernel
theorem dX9_mostAlike_18 : decode cX9_mostAlike 18 = .ok (.getfield 50, 3) := by decide +kernel
theorem dX9_mostAlike_21 : decode cX9_mostAlike 21 = .ok (.invokevirtual 207, 3) := by decide +kernel
theorem dX9_mostAlike_24 : decode cX9_mostAlike 24 = .ok (.aload_n 0, 1) := by decide +kernel
theorem dX9_mostAlike_25 : decode cX9_mostAlike 25 = .ok (.getfield 12, 3) := by decide +kernel
theorem dX9_mostAlike_28 : decode cX9_mostAlike 28 = .ok (.iload_n 1, 1) := by decide +kernel
theorem dX9_mostAlike_29 : decode cX9_mostAlike 29 = .ok (.iload_n 2, 1) := by decide +kernel
theorem dX9_mostAlike_30 : decode cX9_mostAlike 30 = .ok (.invokevirtual 276, 3) := by decide +kernel
theorem dX9_mostAlike_33 : decode cX9_mostAlike 33 = .ok (.iconst 0, 1) := by decide +kernel
theorem dX9_mostAlike_34 : decode cX9_mostAlike 34 = .ok (.istore_n 3, 1) := by decide +kernel
theorem dX9_mostAlike_35 : decode cX9_mostAlike 35 = .ok (.iconst 0, 1) := by decide +kernel
theorem dX9_mostAlike_36 : decode cX9_mostAlike 36 = .ok (.istore 4, 2) := by decide +kernel
theorem dX9_mostAlike_38 : decode cX9_mostAlike 38 = .ok (.iconst (-1), 1) := by decide +kernel
theorem dX9_mostAlike_39 : decode cX9_mostAlike 39 = .ok (.istore 5, 2) := by decide +kernel
theorem dX9_mostAlike_41 : decode cX9_mostAlike 41 = .ok (.iconst 0, 1) := by decide +kernel
theorem dX9_mostAlike_42 : decode cX9_mostAlike 42 = .ok (.istore 6, 2) := by decide +kernel
theorem dX9_mostAlike_44 : decode cX9_mostAlike 44 = .ok (.iload 6, 2) := by decide +kernel
theorem dX9_mostAlike_46 : decode cX9_mostAlike 46 = .ok (.iload_n 2, 1) := by decide +kernel
theorem dX9_mostAlike_47 : decode cX9_mostAlike 47 = .ok (.if_icmp .gt 66, 3) := by decide +kernel
theorem dX9_mostAlike_50 : decode cX9_mostAlike 50 = .ok (.aload_n 0, 1) := by decide +kernel
theorem dX9_mostAlike_51 : decode cX9_mostAlike 51 = .ok (.getfield 43, 3) := by decide +kernel
theorem dX9_mostAlike_54 : decode cX9_mostAlike 54 = .ok (.iload_n 1, 1) := by decide +kernel
theorem dX9_mostAlike_55 : decode cX9_mostAlike 55 = .ok (.iload 6, 2) := by decide +kernel
theorem dX9_mostAlike_57 : decode cX9_mostAlike 57 = .ok (.invokevirtual 172, 3) := by decide +kernel
theorem dX9_mostAlike_60 : decode cX9_mostAlike 60 = .ok (.lconst 0, 1) := by decide +kernel
theorem dX9_mostAlike_61 : decode cX9_mostAlike 61 = .ok (.lcmp, 1) := by decide +kernel
theorem dX9_mostAlike_62 : decode cX9_mostAlike 62 = .ok (.ifCond .le 45, 3) := by decide +kernel
theorem dX9_mostAlike_65 : decode cX9_mostAlike 65 = .ok (.aload_n 0, 1) := by decide +kernel
theorem dX9_mostAlike_66 : decode cX9_mostAlike 66 = .ok (.getfield 12, 3) := by decide +kernel
theorem dX9_mostAlike_69 : decode cX9_mostAlike 69 = .ok (.getfield 279, 3) := by decide +kernel
theorem dX9_mostAlike_72 : decode cX9_mostAlike 72 = .ok (.iload 6, 2) := by decide +kernel
theorem dX9_mostAlike_74 : decode cX9_mostAlike 74 = .ok (.invokestatic 105, 3) := by decide +kernel
theorem dX9_mostAlike_77 : decode cX9_mostAlike 77 = .ok (.istore 7, 2) := by decide +kernel
theorem dX9_mostAlike_79 : decode cX9_mostAlike 79 = .ok (.iload 7, 2) := by decide +kernel
theorem dX9_mostAlike_81 : decode cX9_mostAlike 81 = .ok (.iload 5, 2) := by decide +kernel
theorem dX9_mostAlike_83 : decode cX9_mostAlike 83 = .ok (.if_icmp .ne 10, 3) := by decide +kernel
theorem dX9_mostAlike_86 : decode cX9_mostAlike 86 = .ok (.iload 4, 2) := by decide +kernel
theorem dX9_mostAlike_88 : decode cX9_mostAlike 88 = .ok (.iconst 1, 1) := by decide +kernel
theorem dX9_mostAlike_89 : decode cX9_mostAlike 89 = .ok (.iadd, 1) := by decide +kernel
theorem dX9_mostAlike_90 : decode cX9_mostAlike 90 = .ok (.goto 4, 3) := by decide +kernel
theorem dX9_mostAlike_93 : decode cX9_mostAlike 93 = .ok (.iconst 1, 1) := by decide +kernel
theorem dX9_mostAlike_94 : decode cX9_mostAlike 94 = .ok (.istore 4, 2) := by decide +kernel
theorem dX9_mostAlike_96 : decode cX9_mostAlike 96 = .ok (.iload 7, 2) := by decide +kernel
theorem dX9_mostAlike_98 : decode cX9_mostAlike 98 = .ok (.istore 5, 2) := by decide +kernel
theorem dX9_mostAlike_100 : decode cX9_mostAlike 100 = .ok (.iload_n 3, 1) := by decide +kernel
theorem dX9_mostAlike_101 : decode cX9_mostAlike 101 = .ok (.iload 4, 2) := by decide +kernel
theorem dX9_mostAlike_103 : decode cX9_mostAlike 103 = .ok (.invokestatic 282, 3) := by decide +kernel
theorem dX9_mostAlike_106 : decode cX9_mostAlike 106 = .ok (.istore_n 3, 1) := by decide +kernel
theorem dX9_mostAlike_107 : decode cX9_mostAlike 107 = .ok (.iinc 6 1, 3) := by decide +kernel
theorem dX9_mostAlike_110 : decode cX9_mostAlike 110 = .ok (.goto (-66), 3) := by decide +kernel
theorem dX9_mostAlike_113 : decode cX9_mostAlike 113 = .ok (.iload_n 3, 1) := by decide +kernel
theorem dX9_mostAlike_114 : decode cX9_mostAlike 114 = .ok (.ifCond .le 7, 3) := by decide +kernel
theorem dX9_mostAlike_117 : decode cX9_mostAlike 117 = .ok (.iload_n 3, 1) := by decide +kernel
theorem dX9_mostAlike_118 : decode cX9_mostAlike 118 = .ok (.goto 5, 3) := by decide +kernel
theorem dX9_mostAlike_121 : decode cX9_mostAlike 121 = .ok (.bipush (-9), 2) := by decide +kernel
theorem dX9_mostAlike_123 : decode cX9_mostAlike 123 = .ok (.ireturn, 1) := by decide +kernel
theorem dX9_copyRow_0 : decode cX9_copyRow 0 = .ok (.iconst 0, 1) := by decide +kernel
theorem dX9_copyRow_1 : decode cX9_copyRow 1 = .ok (.istore_n 2, 1) := by decide +kernel
theorem dX9_copyRow_2 : decode cX9_copyRow 2 = .ok (.iload_n 2, 1) := by decide +kernel
theorem dX9_copyRow_3 : decode cX9_copyRow 3 = .ok (.aload_n 0, 1) := by decide +kernel
theorem dX9_copyRow_4 : decode cX9_copyRow 4 = .ok (.arraylength, 1) := by decide +kernel
theorem dX9_copyRow_5 : decode cX9_copyRow 5 = .ok (.if_icmp .ge 21, 3) := by decide +kernel
theorem dX9_copyRow_8 : decode cX9_copyRow 8 = .ok (.iload_n 2, 1) := by decide +kernel
theorem dX9_copyRow_9 : decode cX9_copyRow 9 = .ok (.aload_n 1, 1) := by decide +kernel
theorem dX9_copyRow_10 : decode cX9_copyRow 10 = .ok (.arraylength, 1) := by decide +kernel
theorem dX9_copyRow_11 : decode cX9_copyRow 11 = .ok (.if_icmp .ge 15, 3) := by decide +kernel
theorem dX9_copyRow_14 : decode cX9_copyRow 14 = .ok (.aload_n 1, 1) := by decide +kernel
theorem dX9_copyRow_15 : decode cX9_copyRow 15 = .ok (.iload_n 2, 1) := by decide +kernel
theorem dX9_copyRow_16 : decode cX9_copyRow 16 = .ok (.aload_n 0, 1) := by decide +kernel
theorem dX9_copyRow_17 : decode cX9_copyRow 17 = .ok (.iload_n 2, 1) := by decide +kernel
theorem dX9_copyRow_18 : decode cX9_copyRow 18 = .ok (.iaload, 1) := by decide +kernel
theorem dX9_copyRow_19 : decode cX9_copyRow 19 = .ok (.iastore, 1) := by decide +kernel
theorem dX9_copyRow_20 : decode cX9_copyRow 20 = .ok (.iinc 2 1, 3) := by decide +kernel
theorem dX9_copyRow_23 : decode cX9_copyRow 23 = .ok (.goto (-21), 3) := by decide +kernel
theorem dX9_copyRow_26 : decode cX9_copyRow 26 = .ok (.return_, 1) := by decide +kernel
theorem dJ6_numberOfLeadingZeros_0f7a4_0 : decode cJ6_numberOfLeadingZeros_0f7a4 0 = .ok (.iload_n 0, 1) := by decide +kernel
theorem dJ6_numberOfLeadingZeros_0f7a4_1 : decode cJ6_numberOfLeadingZeros_0f7a4 1 = .ok (.ifCond .gt 14, 3) := by decide +kernel
theorem dJ6_numberOfLeadingZeros_0f7a4_4 : decode cJ6_numberOfLeadingZeros_0f7a4 4 = .ok (.iload_n 0, 1) := by decide +kernel
theorem dJ6_numberOfLeadingZeros_0f7a4_5 : decode cJ6_numberOfLeadingZeros_0f7a4 5 = .ok (.ifCond .ne 8, 3) := by decide +kernel
theorem dJ6_numberOfLeadingZeros_0f7a4_8 : decode cJ6_numberOfLeadingZeros_0f7a4 8 = .ok (.bipush 32, 2) := by decide +kernel
theorem dJ6_numberOfLeadingZeros_0f7a4_10 : decode cJ6_numberOfLeadingZeros_0f7a4 10 = .ok (.goto 4, 3) := by decide +kernel
theorem dJ6_numberOfLeadingZeros_0f7a4_13 : decode cJ6_numberOfLeadingZeros_0f7a4 13 = .ok (.iconst 0, 1) := by decide +kernel
theorem dJ6_numberOfLeadingZeros_0f7a4_14 : decode cJ6_numberOfLeadingZeros_0f7a4 14 = .ok (.ireturn, 1) := by decide +kernel
theorem dJ6_numberOfLeadingZeros_0f7a4_15 : decode cJ6_numberOfLeadingZeros_0f7a4 15 = .ok (.bipush 31, 2) := by decide +kernel
theorem dJ6_numberOfLeadingZeros_0f7a4_17 : decode cJ6_numberOfLeadingZeros_0f7a4 17 = .ok (.istore_n 1, 1) := by decide +kernel
theorem dJ6_numberOfLeadingZeros_0f7a4_18 : decode cJ6_numberOfLeadingZeros_0f7a4 18 = .ok (.iload_n 0, 1) := by decide +kernel
theorem dJ6_numberOfLeadingZeros_0f7a4_19 : decode cJ6_numberOfLeadingZeros_0f7a4 19 = .ok (.ldc_w 264, 3) := by decide +kernel
theorem dJ6_numberOfLeadingZeros_0f7a4_22 : decode cJ6_numberOfLeadingZeros_0f7a4 22 = .ok (.if_icmp .lt 11, 3) := by decide +kernel
theorem dJ6_numberOfLeadingZeros_0f7a4_25 : decode cJ6_numberOfLeadingZeros_0f7a4 25 = .ok (.iinc 1 (-16), 3) := by decide +kernel
theorem dJ6_numberOfLeadingZeros_0f7a4_28 : decode cJ6_numberOfLeadingZeros_0f7a4 28 = .ok (.iload_n 0, 1) := by decide +kernel
theorem dJ6_numberOfLeadingZeros_0f7a4_29 : decode cJ6_numberOfLeadingZeros_0f7a4 29 = .ok (.bipush 16, 2) := by decide +kernel
theorem dJ6_numberOfLeadingZeros_0f7a4_31 : decode cJ6_numberOfLeadingZeros_0f7a4 31 = .ok (.iushr, 1) := by decide +kernel
theorem dJ6_numberOfLeadingZeros_0f7a4_32 : decode cJ6_numberOfLeadingZeros_0f7a4 32 = .ok (.istore_n 0, 1) := by decide +kernel
theorem dJ6_numberOfLeadingZeros_0f7a4_33 : decode cJ6_numberOfLeadingZeros_0f7a4 33 = .ok (.iload_n 0, 1) := by decide +kernel
theorem dJ6_numberOfLeadingZeros_0f7a4_34 : decode cJ6_numberOfLeadingZeros_0f7a4 34 = .ok (.sipush 256, 3) := by decide +kernel
theorem dJ6_numberOfLeadingZeros_0f7a4_37 : decode cJ6_numberOfLeadingZeros_0f7a4 37 = .ok (.if_icmp .lt 11, 3) := by decide +kernel
theorem dJ6_numberOfLeadingZeros_0f7a4_40 : decode cJ6_numberOfLeadingZeros_0f7a4 40 = .ok (.iinc 1 (-8), 3) := by decide +kernel
theorem dJ6_numberOfLeadingZeros_0f7a4_43 : decode cJ6_numberOfLeadingZeros_0f7a4 43 = .ok (.iload_n 0, 1) := by decide +kernel
theorem dJ6_numberOfLeadingZeros_0f7a4_44 : decode cJ6_numberOfLeadingZeros_0f7a4 44 = .ok (.bipush 8, 2) := by decide +kernel
theorem dJ6_numberOfLeadingZeros_0f7a4_46 : decode cJ6_numberOfLeadingZeros_0f7a4 46 = .ok (.iushr, 1) := by decide +kernel
theorem dJ6_numberOfLeadingZeros_0f7a4_47 : decode cJ6_numberOfLeadingZeros_0f7a4 47 = .ok (.istore_n 0, 1) := by decide +kernel
theorem dJ6_numberOfLeadingZeros_0f7a4_48 : decode cJ6_numberOfLeadingZeros_0f7a4 48 = .ok (.iload_n 0, 1) := by decide +kernel
theorem dJ6_numberOfLeadingZeros_0f7a4_49 : decode cJ6_numberOfLeadingZeros_0f7a4 49 = .ok (.bipush 16, 2) := by decide +kernel
theorem dJ6_numberOfLeadingZeros_0f7a4_51 : decode cJ6_numberOfLeadingZeros_0f7a4 51 = .ok (.if_icmp .lt 10, 3) := by decide +kernel
theorem dJ6_numberOfLeadingZeros_0f7a4_54 : decode cJ6_numberOfLeadingZeros_0f7a4 54 = .ok (.iinc 1 (-4), 3) := by decide +kernel
theorem dJ6_numberOfLeadingZeros_0f7a4_57 : decode cJ6_numberOfLeadingZeros_0f7a4 57 = .ok (.iload_n 0, 1) := by decide +kernel
theorem dJ6_numberOfLeadingZeros_0f7a4_58 : decode cJ6_numberOfLeadingZeros_0f7a4 58 = .ok (.iconst 4, 1) := by decide +kernel
theorem dJ6_numberOfLeadingZeros_0f7a4_59 : decode cJ6_numberOfLeadingZeros_0f7a4 59 = .ok (.iushr, 1) := by decide +kernel
theorem dJ6_numberOfLeadingZeros_0f7a4_60 : decode cJ6_numberOfLeadingZeros_0f7a4 60 = .ok (.istore_n 0, 1) := by decide +kernel
theorem dJ6_numberOfLeadingZeros_0f7a4_61 : decode cJ6_numberOfLeadingZeros_0f7a4 61 = .ok (.iload_n 0, 1) := by decide +kernel
theorem dJ6_numberOfLeadingZeros_0f7a4_62 : decode cJ6_numberOfLeadingZeros_0f7a4 62 = .ok (.iconst 4, 1) := by decide +kernel
theorem dJ6_numberOfLeadingZeros_0f7a4_63 : decode cJ6_numberOfLeadingZeros_0f7a4 63 = .ok (.if_icmp .lt 10, 3) := by decide +kernel
theorem dJ6_numberOfLeadingZeros_0f7a4_66 : decode cJ6_numberOfLeadingZeros_0f7a4 66 = .ok (.iinc 1 (-2), 3) := by decide +kernel
theorem dJ6_numberOfLeadingZeros_0f7a4_69 : decode cJ6_numberOfLeadingZeros_0f7a4 69 = .ok (.iload_n 0, 1) := by decide +kernel
theorem dJ6_numberOfLeadingZeros_0f7a4_70 : decode cJ6_numberOfLeadingZeros_0f7a4 70 = .ok (.iconst 2, 1) := by decide +kernel
theorem dJ6_numberOfLeadingZeros_0f7a4_71 : decode cJ6_numberOfLeadingZeros_0f7a4 71 = .ok (.iushr, 1) := by decide +kernel
theorem dJ6_numberOfLeadingZeros_0f7a4_72 : decode cJ6_numberOfLeadingZeros_0f7a4 72 = .ok (.istore_n 0, 1) := by decide +kernel
theorem dJ6_numberOfLeadingZeros_0f7a4_73 : decode cJ6_numberOfLeadingZeros_0f7a4 73 = .ok (.iload_n 1, 1) := by decide +kernel
theorem dJ6_numberOfLeadingZeros_0f7a4_74 : decode cJ6_numberOfLeadingZeros_0f7a4 74 = .ok (.iload_n 0, 1) := by decide +kernel
theorem dJ6_numberOfLeadingZeros_0f7a4_75 : decode cJ6_numberOfLeadingZeros_0f7a4 75 = .ok (.iconst 1, 1) := by decide +kernel
theorem dJ6_numberOfLeadingZeros_0f7a4_76 : decode cJ6_numberOfLeadingZeros_0f7a4 76 = .ok (.iushr, 1) := by decide +kernel
theorem dJ6_numberOfLeadingZeros_0f7a4_77 : decode cJ6_numberOfLeadingZeros_0f7a4 77 = .ok (.isub, 1) := by decide +kernel
theorem dJ6_numberOfLeadingZeros_0f7a4_78 : decode cJ6_numberOfLeadingZeros_0f7a4 78 = .ok (.ireturn, 1) := by decide +kernel
theorem dJ6_numberOfTrailingZeros_0f7a4_0 : decode cJ6_numberOfTrailingZeros_0f7a4 0 = .ok (.iload_n 0, 1) := by decide +kernel
theorem dJ6_numberOfTrailingZeros_0f7a4_1 : decode cJ6_numberOfTrailingZeros_0f7a4 1 = .ok (.iconst (-1), 1) := by decide +kernel
theorem dJ6_numberOfTrailingZeros_0f7a4_2 : decode cJ6_numberOfTrailingZeros_0f7a4 2 = .ok (.ixor, 1) := by decide +kernel
theorem dJ6_numberOfTrailingZeros_0f7a4_3 : decode cJ6_numberOfTrailingZeros_0f7a4 3 = .ok (.iload_n 0, 1) := by decide +kernel
theorem dJ6_numberOfTrailingZeros_0f7a4_4 : decode cJ6_numberOfTrailingZeros_0f7a4 4 = .ok (.iconst 1, 1) := by decide +kernel
theorem dJ6_numberOfTrailingZeros_0f7a4_5 : decode cJ6_numberOfTrailingZeros_0f7a4 5 = .ok (.isub, 1) := by decide +kernel
theorem dJ6_numberOfTrailingZeros_0f7a4_6 : decode cJ6_numberOfTrailingZeros_0f7a4 6 = .ok (.iand, 1) := by decide +kernel
theorem dJ6_numberOfTrailingZeros_0f7a4_7 : decode cJ6_numberOfTrailingZeros_0f7a4 7 = .ok (.istore_n 0, 1) := by decide +kernel
theorem dJ6_numberOfTrailingZeros_0f7a4_8 : decode cJ6_numberOfTrailingZeros_0f7a4 8 = .ok (.iload_n 0, 1) := by decide +kernel
theorem dJ6_numberOfTrailingZeros_0f7a4_9 : decode cJ6_numberOfTrailingZeros_0f7a4 9 = .ok (.ifCond .gt 8, 3) := by decide +kernel
theorem dJ6_numberOfTrailingZeros_0f7a4_12 : decode cJ6_numberOfTrailingZeros_0f7a4 12 = .ok (.iload_n 0, 1) := by decide +kernel
theorem dJ6_numberOfTrailingZeros_0f7a4_13 : decode cJ6_numberOfTrailingZeros_0f7a4 13 = .ok (.bipush 32, 2) := by decide +kernel
theorem dJ6_numberOfTrailingZeros_0f7a4_15 : decode cJ6_numberOfTrailingZeros_0f7a4 15 = .ok (.iand, 1) := by decide +kernel
theorem dJ6_numberOfTrailingZeros_0f7a4_16 : decode cJ6_numberOfTrailingZeros_0f7a4 16 = .ok (.ireturn, 1) := by decide +kernel
theorem dJ6_numberOfTrailingZeros_0f7a4_17 : decode cJ6_numberOfTrailingZeros_0f7a4 17 = .ok (.iconst 1, 1) := by decide +kernel
theorem dJ6_numberOfTrailingZeros_0f7a4_18 : decode cJ6_numberOfTrailingZeros_0f7a4 18 = .ok (.istore_n 1, 1) := by decide +kernel
theorem dJ6_numberOfTrailingZeros_0f7a4_19 : decode cJ6_numberOfTrailingZeros_0f7a4 19 = .ok (.iload_n 0, 1) := by decide +kernel
theorem dJ6_numberOfTrailingZeros_0f7a4_20 : decode cJ6_numberOfTrailingZeros_0f7a4 20 = .ok (.ldc_w 264, 3) := by decide +kernel
theorem dJ6_numberOfTrailingZeros_0f7a4_23 : decode cJ6_numberOfTrailingZeros_0f7a4 23 = .ok (.if_icmp .le 11, 3) := by decide +kernel
theorem dJ6_numberOfTrailingZeros_0f7a4_26 : decode cJ6_numberOfTrailingZeros_0f7a4 26 = .ok (.iinc 1 16, 3) := by decide +kernel
theorem dJ6_numberOfTrailingZeros_0f7a4_29 : decode cJ6_numberOfTrailingZeros_0f7a4 29 = .ok (.iload_n 0, 1) := by decide +kernel
theorem dJ6_numberOfTrailingZeros_0f7a4_30 : decode cJ6_numberOfTrailingZeros_0f7a4 30 = .ok (.bipush 16, 2) := by decide +kernel
theorem dJ6_numberOfTrailingZeros_0f7a4_32 : decode cJ6_numberOfTrailingZeros_0f7a4 32 = .ok (.iushr, 1) := by decide +kernel
theorem dJ6_numberOfTrailingZeros_0f7a4_33 : decode cJ6_numberOfTrailingZeros_0f7a4 33 = .ok (.istore_n 0, 1) := by decide +kernel
theorem dJ6_numberOfTrailingZeros_0f7a4_34 : decode cJ6_numberOfTrailingZeros_0f7a4 34 = .ok (.iload_n 0, 1) := by decide +kernel
theorem dJ6_numberOfTrailingZeros_0f7a4_35 : decode cJ6_numberOfTrailingZeros_0f7a4 35 = .ok (.sipush 256, 3) := by decide +kernel
theorem dJ6_numberOfTrailingZeros_0f7a4_38 : decode cJ6_numberOfTrailingZeros_0f7a4 38 = .ok (.if_icmp .le 11, 3) := by decide +kernel
theorem dJ6_numberOfTrailingZeros_0f7a4_41 : decode cJ6_numberOfTrailingZeros_0f7a4 41 = .ok (.iinc 1 8, 3) := by decide +kernel
theorem dJ6_numberOfTrailingZeros_0f7a4_44 : decode cJ6_numberOfTrailingZeros_0f7a4 44 = .ok (.iload_n 0, 1) := by decide +kernel
theorem dJ6_numberOfTrailingZeros_0f7a4_45 : decode cJ6_numberOfTrailingZeros_0f7a4 45 = .ok (.bipush 8, 2) := by decide +kernel
theorem dJ6_numberOfTrailingZeros_0f7a4_47 : decode cJ6_numberOfTrailingZeros_0f7a4 47 = .ok (.iushr, 1) := by decide +kernel
theorem dJ6_numberOfTrailingZeros_0f7a4_48 : decode cJ6_numberOfTrailingZeros_0f7a4 48 = .ok (.istore_n 0, 1) := by decide +kernel
theorem dJ6_numberOfTrailingZeros_0f7a4_49 : decode cJ6_numberOfTrailingZeros_0f7a4 49 = .ok (.iload_n 0, 1) := by decide +kernel
theorem dJ6_numberOfTrailingZeros_0f7a4_50 : decode cJ6_numberOfTrailingZeros_0f7a4 50 = .ok (.bipush 16, 2) := by decide +kernel
theorem dJ6_numberOfTrailingZeros_0f7a4_52 : decode cJ6_numberOfTrailingZeros_0f7a4 52 = .ok (.if_icmp .le 10, 3) := by decide +kernel
theorem dJ6_numberOfTrailingZeros_0f7a4_55 : decode cJ6_numberOfTrailingZeros_0f7a4 55 = .ok (.iinc 1 4, 3) := by decide +kernel
theorem dJ6_numberOfTrailingZeros_0f7a4_58 : decode cJ6_numberOfTrailingZeros_0f7a4 58 = .ok (.iload_n 0, 1) := by decide +kernel
theorem dJ6_numberOfTrailingZeros_0f7a4_59 : decode cJ6_numberOfTrailingZeros_0f7a4 59 = .ok (.iconst 4, 1) := by decide +kernel
theorem dJ6_numberOfTrailingZeros_0f7a4_60 : decode cJ6_numberOfTrailingZeros_0f7a4 60 = .ok (.iushr, 1) := by decide +kernel
theorem dJ6_numberOfTrailingZeros_0f7a4_61 : decode cJ6_numberOfTrailingZeros_0f7a4 61 = .ok (.istore_n 0, 1) := by decide +kernel
theorem dJ6_numberOfTrailingZeros_0f7a4_62 : decode cJ6_numberOfTrailingZeros_0f7a4 62 = .ok (.iload_n 0, 1) := by decide +kernel
theorem dJ6_numberOfTrailingZeros_0f7a4_63 : decode cJ6_numberOfTrailingZeros_0f7a4 63 = .ok (.iconst 4, 1) := by decide +kernel
theorem dJ6_numberOfTrailingZeros_0f7a4_64 : decode cJ6_numberOfTrailingZeros_0f7a4 64 = .ok (.if_icmp .le 10, 3) := by decide +kernel
theorem dJ6_numberOfTrailingZeros_0f7a4_67 : decode cJ6_numberOfTrailingZeros_0f7a4 67 = .ok (.iinc 1 2, 3) := by decide +kernel
theorem dJ6_numberOfTrailingZeros_0f7a4_70 : decode cJ6_numberOfTrailingZeros_0f7a4 70 = .ok (.iload_n 0, 1) := by decide +kernel
theorem dJ6_numberOfTrailingZeros_0f7a4_71 : decode cJ6_numberOfTrailingZeros_0f7a4 71 = .ok (.iconst 2, 1) := by decide +kernel
theorem dJ6_numberOfTrailingZeros_0f7a4_72 : decode cJ6_numberOfTrailingZeros_0f7a4 72 = .ok (.iushr, 1) := by decide +kernel
theorem dJ6_numberOfTrailingZeros_0f7a4_73 : decode cJ6_numberOfTrailingZeros_0f7a4 73 = .ok (.istore_n 0, 1) := by decide +kernel
theorem dJ6_numberOfTrailingZeros_0f7a4_74 : decode cJ6_numberOfTrailingZeros_0f7a4 74 = .ok (.iload_n 1, 1) := by decide +kernel
theorem dJ6_numberOfTrailingZeros_0f7a4_75 : decode cJ6_numberOfTrailingZeros_0f7a4 75 = .ok (.iload_n 0, 1) := by decide +kernel
theorem dJ6_numberOfTrailingZeros_0f7a4_76 : decode cJ6_numberOfTrailingZeros_0f7a4 76 = .ok (.iconst 1, 1) := by decide +kernel
theorem dJ6_numberOfTrailingZeros_0f7a4_77 : decode cJ6_numberOfTrailingZeros_0f7a4 77 = .ok (.iushr, 1) := by decide +kernel
theorem dJ6_numberOfTrailingZeros_0f7a4_78 : decode cJ6_numberOfTrailingZeros_0f7a4 78 = .ok (.iadd, 1) := by decide +kernel
theorem dJ6_numberOfTrailingZeros_0f7a4_79 : decode cJ6_numberOfTrailingZeros_0f7a4 79 = .ok (.ireturn, 1) := by decide +kernel
theorem dJ6_bitCount_0f7a4_0 : decode cJ6_bitCount_0f7a4 0 = .ok (.iload_n 0, 1) := by decide +kernel
theorem dJ6_bitCount_0f7a4_1 : decode cJ6_bitCount_0f7a4 1 = .ok (.iload_n 0, 1) := by decide +kernel
theorem dJ6_bitCount_0f7a4_2 : decode cJ6_bitCount_0f7a4 2 = .ok (.iconst 1, 1) := by decide +kernel
theorem dJ6_bitCount_0f7a4_3 : decode cJ6_bitCount_0f7a4 3 = .ok (.iushr, 1) := by decide +kernel
theorem dJ6_bitCount_0f7a4_4 : decode cJ6_bitCount_0f7a4 4 = .ok (.ldc_w 265, 3) := by decide +kernel
theorem dJ6_bitCount_0f7a4_7 : decode cJ6_bitCount_0f7a4 7 = .ok (.iand, 1) := by decide +kernel
theorem dJ6_bitCount_0f7a4_8 : decode cJ6_bitCount_0f7a4 8 = .ok (.isub, 1) := by decide +kernel
theorem dJ6_bitCount_0f7a4_9 : decode cJ6_bitCount_0f7a4 9 = .ok (.istore_n 0, 1) := by decide +kernel
theorem dJ6_bitCount_0f7a4_10 : decode cJ6_bitCount_0f7a4 10 = .ok (.iload_n 0, 1) := by decide +kernel
theorem dJ6_bitCount_0f7a4_11 : decode cJ6_bitCount_0f7a4 11 = .ok (.ldc_w 266, 3) := by decide +kernel
theorem dJ6_bitCount_0f7a4_14 : decode cJ6_bitCount_0f7a4 14 = .ok (.iand, 1) := by decide +kernel
theorem dJ6_bitCount_0f7a4_15 : decode cJ6_bitCount_0f7a4 15 = .ok (.iload_n 0, 1) := by decide +kernel
theorem dJ6_bitCount_0f7a4_16 : decode cJ6_bitCount_0f7a4 16 = .ok (.iconst 2, 1) := by decide +kernel
theorem dJ6_bitCount_0f7a4_17 : decode cJ6_bitCount_0f7a4 17 = .ok (.iushr, 1) := by decide +kernel
theorem dJ6_bitCount_0f7a4_18 : decode cJ6_bitCount_0f7a4 18 = .ok (.ldc_w 266, 3) := by decide +kernel
theorem dJ6_bitCount_0f7a4_21 : decode cJ6_bitCount_0f7a4 21 = .ok (.iand, 1) := by decide +kernel
theorem dJ6_bitCount_0f7a4_22 : decode cJ6_bitCount_0f7a4 22 = .ok (.iadd, 1) := by decide +kernel
theorem dJ6_bitCount_0f7a4_23 : decode cJ6_bitCount_0f7a4 23 = .ok (.istore_n 0, 1) := by decide +kernel
theorem dJ6_bitCount_0f7a4_24 : decode cJ6_bitCount_0f7a4 24 = .ok (.iload_n 0, 1) := by decide +kernel
theorem dJ6_bitCount_0f7a4_25 : decode cJ6_bitCount_0f7a4 25 = .ok (.iload_n 0, 1) := by decide +kernel
theorem dJ6_bitCount_0f7a4_26 : decode cJ6_bitCount_0f7a4 26 = .ok (.iconst 4, 1) := by decide +kernel
theorem dJ6_bitCount_0f7a4_27 : decode cJ6_bitCount_0f7a4 27 = .ok (.iushr, 1) := by decide +kernel
theorem dJ6_bitCount_0f7a4_28 : decode cJ6_bitCount_0f7a4 28 = .ok (.iadd, 1) := by decide +kernel
theorem dJ6_bitCount_0f7a4_29 : decode cJ6_bitCount_0f7a4 29 = .ok (.ldc_w 267, 3) := by decide +kernel
theorem dJ6_bitCount_0f7a4_32 : decode cJ6_bitCount_0f7a4 32 = .ok (.iand, 1) := by decide +kernel
theorem dJ6_bitCount_0f7a4_33 : decode cJ6_bitCount_0f7a4 33 = .ok (.istore_n 0, 1) := by decide +kernel
theorem dJ6_bitCount_0f7a4_34 : decode cJ6_bitCount_0f7a4 34 = .ok (.iload_n 0, 1) := by decide +kernel
theorem dJ6_bitCount_0f7a4_35 : decode cJ6_bitCount_0f7a4 35 = .ok (.iload_n 0, 1) := by decide +kernel
theorem dJ6_bitCount_0f7a4_36 : decode cJ6_bitCount_0f7a4 36 = .ok (.bipush 8, 2) := by decide +kernel
theorem dJ6_bitCount_0f7a4_38 : decode cJ6_bitCount_0f7a4 38 = .ok (.iushr, 1) := by decide +kernel
theorem dJ6_bitCount_0f7a4_39 : decode cJ6_bitCount_0f7a4 39 = .ok (.iadd, 1) := by decide +kernel
theorem dJ6_bitCount_0f7a4_40 : decode cJ6_bitCount_0f7a4 40 = .ok (.istore_n 0, 1) := by decide +kernel
theorem dJ6_bitCount_0f7a4_41 : decode cJ6_bitCount_0f7a4 41 = .ok (.iload_n 0, 1) := by decide +kernel
theorem dJ6_bitCount_0f7a4_42 : decode cJ6_bitCount_0f7a4 42 = .ok (.iload_n 0, 1) := by decide +kernel
theorem dJ6_bitCount_0f7a4_43 : decode cJ6_bitCount_0f7a4 43 = .ok (.bipush 16, 2) := by decide +kernel
theorem dJ6_bitCount_0f7a4_45 : decode cJ6_bitCount_0f7a4 45 = .ok (.iushr, 1) := by decide +kernel
theorem dJ6_bitCount_0f7a4_46 : decode cJ6_bitCount_0f7a4 46 = .ok (.iadd, 1) := by decide +kernel
theorem dJ6_bitCount_0f7a4_47 : decode cJ6_bitCount_0f7a4 47 = .ok (.istore_n 0, 1) := by decide +kernel
theorem dJ6_bitCount_0f7a4_48 : decode cJ6_bitCount_0f7a4 48 = .ok (.iload_n 0, 1) := by decide +kernel
theorem dJ6_bitCount_0f7a4_49 : decode cJ6_bitCount_0f7a4 49 = .ok (.bipush 63, 2) := by decide +kernel
theorem dJ6_bitCount_0f7a4_51 : decode cJ6_bitCount_0f7a4 51 = .ok (.iand, 1) := by decide +kernel
theorem dJ6_bitCount_0f7a4_52 : decode cJ6_bitCount_0f7a4 52 = .ok (.ireturn, 1) := by decide +kernel
set_option maxRecDepth 100000 in
set_option maxHeartbeats 4000000 in
theorem b_X2_value {Γ : bd_G} {ε : bd_E} {t0 : Option (Int64 × bd_T)} (hC : bd_C Γ cX2_value 3 RX2 (some .long) ({ frames := 1, cells := 0, slots := 0, locals := 21 } : Room) ε (cX ε) bd_vl t0) (x1 : Int32) (x2 : Int32)  (S : bd_T) : bd_S Γ 3 t0 ((f_X2_value x1 x2 S).bind some) (cX ε S) 0 [(0, .ref (bd_a ε 5)), (1, .int x1), (2, .int x2)] [] := by
  unfold f_X2_value
  refine bs_aload_n hC 0 dX2_value_0 rfl rfl ?_
  refine bs_get hC (v := .ref (bd_a ε (43 + 0))) hin_X2 5 (cX_o5 ε S) rfl 0 (by decide) mw_184 rfl dX2_value_1 ?_
  refine bs_iload_n hC 1 dX2_value_4 rfl rfl ?_
  refine bs_sipush hC (300 : Int32) dX2_value_5 rfl ?_
  refine bs_imul hC dX2_value_8 ?_
  refine bs_iload_n hC 2 dX2_value_9 rfl rfl ?_
  refine bs_iadd hC dX2_value_10 ?_
  refine bs_callSN_l hC (rm := ({ frames := 0, cells := 0, slots := 0, locals := 0 } : Room)) [.ref (bd_a ε (43 + 0)), .int ((x1 * (300 : Int32)) + x2)] [] (fun h => c_X9_at_ (bd_l Γ) (bd_D Γ) ε 0 ((x1 * (300 : Int32)) + x2) (by decide) S h) mw_386 nm_44 mw_385 mw_72 by_X9_at_ ⟨rfl, rfl, by decide, by decide⟩ rfl rfl (Nat.le_of_ble_eq_true rfl) dX2_value_11 (fun r1 S2 eS2 => ?_)
  exact bs_lret hC dX2_value_14 rfl
theorem c_X2_value (l : Launch) (D : va_G) (ε : bd_E) (x1 : Int32) (x2 : Int32)  (S : bd_T) (h0 : (f_X2_value x1 x2 S).isSome = true) : bd_Con l yX2_value (Cond.code yX2_value cX2_value 3 (some .long) :: bd_tbl) ({ frames := 1, cells := 0, slots := 0, locals := 21 } : Room) D ε (cX ε) bd_vl [.ref (bd_a ε 5), .int x1, .int x2] S (f_X2_value x1 x2 S) :=
  bd_con (by decide +kernel) (Nat.le_of_ble_eq_true rfl) ⟨rfl, rfl⟩ h0 (fun Γ _ _ hC => bs_eq bs_bs (b_X2_value hC x1 x2 S))
set_option maxRecDepth 100000 in
set_option maxHeartbeats 4000000 in
theorem b_X1_both {Γ : bd_G} {ε : bd_E} {t0 : Option (Int64 × bd_T)} (hC : bd_C Γ cX1_both 5 RX1 (some .long) ({ frames := 0, cells := 0, slots := 0, locals := 0 } : Room) ε (cX ε) bd_vl t0) (x1 : Int64) (x3 : Int64)  (S : bd_T) : bd_S Γ 5 t0 ((f_X1_both x1 x3 S).bind some) (cX ε S) 0 [(0, .ref (bd_a ε 6)), (1, .long x1), (3, .long x3)] [] := by
  unfold f_X1_both
  refine bs_lload_n hC 1 dX1_both_0 rfl rfl ?_
  refine bs_lload_n hC 2 dX1_both_1 rfl rfl ?_
  refine bs_lmul hC dX1_both_2 ?_
  exact bs_lret hC dX1_both_3 rfl
theorem c_X1_both (l : Launch) (D : va_G) (ε : bd_E) (x1 : Int64) (x3 : Int64)  (S : bd_T) (h0 : (f_X1_both x1 x3 S).isSome = true) : bd_Con l yX1_both (Cond.code yX1_both cX1_both 5 (some .long) :: bd_tbl) ({ frames := 0, cells := 0, slots := 0, locals := 0 } : Room) D ε (cX ε) bd_vl [.ref (bd_a ε 6), .long x1, .long x3] S (f_X1_both x1 x3 S) :=
  bd_con (by decide +kernel) (Nat.le_of_ble_eq_true rfl) ⟨rfl, rfl⟩ h0 (fun Γ _ _ hC => bs_eq bs_bs (b_X1_both hC x1 x3 S))
set_option maxRecDepth 100000 in
set_option maxHeartbeats 4000000 in
theorem lb_X2_bring_48 {Γ : bd_G} {ε : bd_E} {t0 : Option (Unit × bd_T)} (hC : bd_C Γ cX2_bring 10 RX2 none ({ frames := 3, cells := 0, slots := 0, locals := 67 } : Room) ε (cX ε) bd_vv t0) (p2 : Int32) (p3 : Int32) (p6 : Int32) {K : (Int32 × bd_T) ⊕ (bd_T) → Option (Unit × bd_T)} (hk : ∀ (x7 : Int32) (S : bd_T), bd_S Γ 10 t0 (K (.inl (x7, S))) (cX ε S) 48 [(0, .ref (bd_a ε 5)), (1, .ref (bd_a ε 8)), (2, .int p2), (3, .int p3), (4, .ref (bd_a ε 6)), (6, .int p6), (7, .int x7)] []) (hx : ∀ (S : bd_T), bd_S Γ 10 t0 (K (.inr S)) (cX ε S) 108 [] []) (x7 : Int32) (S : bd_T) : bd_S Γ 10 t0 ((fb_X2_bring_48 p2 p3 p6 x7 S).bind K) (cX ε S) 48 [(0, .ref (bd_a ε 5)), (1, .ref (bd_a ε 8)), (2, .int p2), (3, .int p3), (4, .ref (bd_a ε 6)), (6, .int p6), (7, .int x7)] [] := by
  unfold fb_X2_bring_48
  refine bs_iload hC 6 dX2_bring_48 rfl ?_
  refine bs_sipush hC (300 : Int32) dX2_bring_50 rfl ?_
  refine bs_icmp_ge hC 108 dX2_bring_53 (by decide) (fun c17 => ?_) (fun c17 => ?_)
  · refine bs_some ?_
    refine bs_pick [] rfl ?_
    exact hx S
  refine bs_aload hC 4 dX2_bring_56 rfl ?_
  refine bs_aload_n hC 1 dX2_bring_58 rfl rfl ?_
  refine bs_iload_n hC 2 dX2_bring_59 rfl rfl ?_
  refine bs_iload hC 6 dX2_bring_60 rfl ?_
  refine bs_iload_n hC 3 dX2_bring_62 rfl rfl ?_
  refine bs_callVN_i hC (rm := ({ frames := 1, cells := 0, slots := 0, locals := 21 } : Room)) [.int p2, .int x7, .int p3] [.ref (bd_a ε 6)] (fun h => c_X7_lowest (bd_l Γ) (bd_D Γ) ε p2 x7 p3 S h) mw_394 nm_41 mw_393 mw_74 mw_31 (cX_o8 ε S) rfl by_X7_lowest ⟨rfl, rfl, by decide, by decide⟩ rfl rfl (Nat.le_of_ble_eq_true rfl) dX2_bring_63 (fun r5 S6 eS6 => ?_)
  refine bs_aload_n hC 1 dX2_bring_66 rfl rfl ?_
  refine bs_iload_n hC 2 dX2_bring_67 rfl rfl ?_
  refine bs_iload hC 6 dX2_bring_68 rfl ?_
  refine bs_iload_n hC 3 dX2_bring_70 rfl rfl ?_
  refine bs_callVN_i hC (rm := ({ frames := 1, cells := 0, slots := 0, locals := 21 } : Room)) [.int p2, .int x7, .int p3] [.int r5, .ref (bd_a ε 6)] (fun h => c_X7_highest (bd_l Γ) (bd_D Γ) ε p2 x7 p3 S6 h) mw_396 nm_43 mw_395 mw_74 mw_32 (cX_o8 ε S6) rfl by_X7_highest ⟨rfl, rfl, by decide, by decide⟩ rfl rfl (Nat.le_of_ble_eq_true rfl) dX2_bring_71 (fun r7 S8 eS8 => ?_)
  refine bs_callU_l hC (rm := ({ frames := 2, cells := 0, slots := 0, locals := 43 } : Room)) [.int r5, .int r7] [] (fun h => c_X5_within (bd_l Γ) (bd_D Γ) ε r5 r7 S8 h) mw_402 mw_397 mw_398 mw_79 mw_400 mw_399 (Or.inr rfl) ho_X5_within (cX_o6 ε S8) rfl ⟨rfl, rfl, by decide, by decide⟩ rfl rfl (Nat.le_of_ble_eq_true rfl) dX2_bring_74 (fun r9 S10 eS10 => ?_)
  refine bs_lstore hC [(8, .long r9), (0, .ref (bd_a ε 5)), (1, .ref (bd_a ε 8)), (2, .int p2), (3, .int p3), (4, .ref (bd_a ε 6)), (6, .int p6), (7, .int x7)] dX2_bring_77 (by decide) rfl ?_
  refine bs_aload_n hC 1 dX2_bring_79 rfl rfl ?_
  refine bs_iload hC 6 dX2_bring_80 rfl ?_
  refine bs_iload hC 7 dX2_bring_82 rfl ?_
  refine bs_aload hC 5 dX2_bring_84 rfl ?_
  refine bs_aload_n hC 1 dX2_bring_86 rfl rfl ?_
  refine bs_iload hC 6 dX2_bring_87 rfl ?_
  refine bs_iload hC 7 dX2_bring_89 rfl ?_
  refine bs_callV_l hC (rm := ({ frames := 1, cells := 0, slots := 0, locals := 21 } : Room)) [.int p6, .int x7] [.ref (bd_a ε 6), .int x7, .int p6, .ref (bd_a ε 5)] (fun h => c_X2_value (bd_l Γ) (bd_D Γ) ε p6 x7 S10 h) mw_428 mw_426 mw_427 mw_78 mw_33 (cX_o5 ε S10) rfl by_X2_value ⟨rfl, rfl, by decide, by decide⟩ rfl rfl (Nat.le_of_ble_eq_true rfl) dX2_bring_91 (fun r11 S12 eS12 => ?_)
  refine bs_lload hC 0 dX2_bring_94 rfl ?_
  refine bs_callU_l hC (rm := ({ frames := 0, cells := 0, slots := 0, locals := 0 } : Room)) [.long r11, .long r9] [.int x7, .int p6, .ref (bd_a ε 5)] (fun h => c_X1_both (bd_l Γ) (bd_D Γ) ε r11 r9 S12 h) mw_433 mw_429 mw_432 mw_80 mw_431 mw_430 (Or.inl (by decide +kernel)) ho_X5_both (cX_o6 ε S12) rfl ⟨rfl, rfl, by decide, by decide⟩ rfl rfl (Nat.le_of_ble_eq_true rfl) dX2_bring_96 (fun r13 S14 eS14 => ?_)
  refine bs_callV_v hC (rm := ({ frames := 1, cells := 0, slots := 0, locals := 23 } : Room)) [.int p6, .int x7, .long r13] [] (fun h => c_X2_set (bd_l Γ) (bd_D Γ) ε p6 x7 r13 S14 h) mw_366 mw_437 mw_365 mw_78 mw_26 (cX_o5 ε S14) rfl by_X2_set ⟨rfl, rfl, by decide, by decide⟩ rfl rfl (Nat.le_of_ble_eq_true rfl) dX2_bring_99 (fun r15 S16 eS16 => ?_)
  refine bs_iinc hC 7 [(7, .int (x7 + 1)), (8, .long r9), (0, .ref (bd_a ε 5)), (1, .ref (bd_a ε 8)), (2, .int p2), (3, .int p3), (4, .ref (bd_a ε 6)), (6, .int p6)] dX2_bring_102 rfl rfl (by decide) rfl ?_
  refine bs_goto hC 48 dX2_bring_105 (by decide) ?_
  refine bs_some ?_
  refine bs_pick [2, 3, 4, 5, 6, 7, 0] rfl ?_
  exact hk (x7 + 1) S16
set_option maxRecDepth 100000 in
set_option maxHeartbeats 4000000 in
theorem b_X2_bring {Γ : bd_G} {ε : bd_E} {t0 : Option (Unit × bd_T)} (hC : bd_C Γ cX2_bring 10 RX2 none ({ frames := 3, cells := 0, slots := 0, locals := 67 } : Room) ε (cX ε) bd_vv t0) (x2 : Int32) (x3 : Int32)  (S : bd_T) : bd_S Γ 10 t0 ((f_X2_bring x2 x3 S).bind some) (cX ε S) 0 [(0, .ref (bd_a ε 5)), (1, .ref (bd_a ε 8)), (2, .int x2), (3, .int x3), (4, .ref (bd_a ε 6))] [] := by
  unfold f_X2_bring
  refine bs_aload_n hC 1 dX2_bring_0 rfl rfl ?_
  refine bs_getN hC (v := .ref (bd_a ε (12 + 14))) hin_X7 8 (cX_o8 ε S) rfl 4 (by decide) nf_8 rfl dX2_bring_1 ?_
  refine bs_iload_n hC 2 dX2_bring_4 rfl rfl ?_
  refine bs_callSN_i hC (rm := ({ frames := 0, cells := 0, slots := 0, locals := 0 } : Room)) [.ref (bd_a ε (12 + 14)), .int x2] [] (fun h => c_X9_at (bd_l Γ) (bd_D Γ) ε 14 x2 (by decide) S h) mw_237 nm_36 mw_236 mw_72 by_X9_at ⟨rfl, rfl, by decide, by decide⟩ rfl rfl (Nat.le_of_ble_eq_true rfl) dX2_bring_5 (fun r1 S2 eS2 => ?_)
  refine bs_istore hC [(5, .int r1), (0, .ref (bd_a ε 5)), (1, .ref (bd_a ε 8)), (2, .int x2), (3, .int x3), (4, .ref (bd_a ε 6))] dX2_bring_8 (by decide) rfl ?_
  refine bs_iload_n hC 4 dX2_bring_10 rfl rfl ?_
  refine bs_if_eq hC 19 dX2_bring_11 (by decide) (fun c30 => ?_) (fun c30 => ?_)
  · refine bs_iload_n hC 3 dX2_bring_19 rfl rfl ?_
    refine bs_istore hC [(6, .int x2), (5, .int r1), (0, .ref (bd_a ε 5)), (1, .ref (bd_a ε 8)), (2, .int x2), (3, .int x3), (4, .ref (bd_a ε 6))] dX2_bring_20 (by decide) rfl ?_
    refine bs_aload hC 6 dX2_bring_22 rfl ?_
    refine bs_aload_n hC 2 dX2_bring_24 rfl rfl ?_
    refine bs_get hC (v := .ref (bd_a ε (43 + 0))) hin_X2 5 (cX_o5 ε S2) rfl 0 (by decide) mw_184 rfl dX2_bring_25 ?_
    refine bs_iload_n hC 5 dX2_bring_28 rfl rfl ?_
    refine bs_if_eq hC 36 dX2_bring_29 (by decide) (fun c22 => ?_) (fun c22 => ?_)
    · refine bs_iload hC 1 dX2_bring_36 rfl ?_
      refine bs_sipush hC (300 : Int32) dX2_bring_38 rfl ?_
      refine bs_imul hC dX2_bring_41 ?_
      refine bs_callU_v hC (rm := ({ frames := 1, cells := 0, slots := 0, locals := 23 } : Room)) [.ref (bd_a ε (43 + 0)), .int (r1 * (300 : Int32))] [] (fun h => c_X1_load (bd_l Γ) (bd_D Γ) ε 0 (r1 * (300 : Int32)) (by decide) S2 h) mw_384 mw_380 mw_383 mw_80 mw_382 mw_381 (Or.inl (by decide +kernel)) ho_X5_load (cX_o6 ε S2) rfl ⟨rfl, rfl, by decide, by decide⟩ rfl rfl (Nat.le_of_ble_eq_true rfl) dX2_bring_42 (fun r3 S4 eS4 => ?_)
      refine bs_iconst hC (0 : Int32) dX2_bring_45 rfl ?_
      refine bs_istore hC [(7, .int (0 : Int32)), (6, .int x2), (5, .int r1), (0, .ref (bd_a ε 5)), (1, .ref (bd_a ε 8)), (2, .int x2), (3, .int x3), (4, .ref (bd_a ε 6))] dX2_bring_46 (by decide) rfl ?_
      refine bs_pick [3, 4, 5, 6, 7, 1, 0] rfl ?_
      refine bs_loopK (fun (q : Int32 × bd_T) t => bd_S Γ 10 t0 t (cX ε (q.2)) 48 [(0, .ref (bd_a ε 5)), (1, .ref (bd_a ε 8)), (2, .int x2), (3, .int x3), (4, .ref (bd_a ε 6)), (6, .int x2), (7, .int (q.1))] []) (fun (q : bd_T) t => bd_S Γ 10 t0 t (cX ε (q)) 108 [] []) (fun q => fb_X2_bring_48 x2 x3 x2 q.1 q.2) (fun _ => bs_none) (fun K hk hx q => lb_X2_bring_48 hC   x2 x3 x2 (fun a0 S => hk (a0, S)) (fun  S => hx (S))  (q.1) (q.2)) (fun r => ?_) bd_K ((0 : Int32), S4)
      obtain ⟨S18, rfl⟩ : ∃ z, z = r := ⟨_, rfl⟩
      show bd_S Γ 10 t0 (Option.bind _ _) (cX ε S18) 108 [] []
      try dsimp only
      exact bs_vret hC dX2_bring_108 rfl
    refine bs_iload_n hC 4 dX2_bring_32 rfl rfl ?_
    refine bs_goto hC 38 dX2_bring_33 (by decide) ?_
    refine bs_sipush hC (300 : Int32) dX2_bring_38 rfl ?_
    refine bs_imul hC dX2_bring_41 ?_
    refine bs_callU_v hC (rm := ({ frames := 1, cells := 0, slots := 0, locals := 23 } : Room)) [.ref (bd_a ε (43 + 0)), .int (x2 * (300 : Int32))] [] (fun h => c_X1_load (bd_l Γ) (bd_D Γ) ε 0 (x2 * (300 : Int32)) (by decide) S2 h) mw_384 mw_380 mw_383 mw_80 mw_382 mw_381 (Or.inl (by decide +kernel)) ho_X5_load (cX_o6 ε S2) rfl ⟨rfl, rfl, by decide, by decide⟩ rfl rfl (Nat.le_of_ble_eq_true rfl) dX2_bring_42 (fun r19 S20 eS20 => ?_)
    refine bs_iconst hC (0 : Int32) dX2_bring_45 rfl ?_
    refine bs_istore hC [(7, .int (0 : Int32)), (6, .int x2), (5, .int r1), (0, .ref (bd_a ε 5)), (1, .ref (bd_a ε 8)), (2, .int x2), (3, .int x3), (4, .ref (bd_a ε 6))] dX2_bring_46 (by decide) rfl ?_
    refine bs_pick [3, 4, 5, 6, 7, 1, 0] rfl ?_
    refine bs_loopK (fun (q : Int32 × bd_T) t => bd_S Γ 10 t0 t (cX ε (q.2)) 48 [(0, .ref (bd_a ε 5)), (1, .ref (bd_a ε 8)), (2, .int x2), (3, .int x3), (4, .ref (bd_a ε 6)), (6, .int x2), (7, .int (q.1))] []) (fun (q : bd_T) t => bd_S Γ 10 t0 t (cX ε (q)) 108 [] []) (fun q => fb_X2_bring_48 x2 x3 x2 q.1 q.2) (fun _ => bs_none) (fun K hk hx q => lb_X2_bring_48 hC   x2 x3 x2 (fun a0 S => hk (a0, S)) (fun  S => hx (S))  (q.1) (q.2)) (fun r => ?_) bd_K ((0 : Int32), S20)
    obtain ⟨S21, rfl⟩ : ∃ z, z = r := ⟨_, rfl⟩
    show bd_S Γ 10 t0 (Option.bind _ _) (cX ε S21) 108 [] []
    try dsimp only
    exact bs_vret hC dX2_bring_108 rfl
  refine bs_iload hC 0 dX2_bring_14 rfl ?_
  refine bs_goto hC 20 dX2_bring_16 (by decide) ?_
  refine bs_istore hC [(6, .int r1), (5, .int r1), (0, .ref (bd_a ε 5)), (1, .ref (bd_a ε 8)), (2, .int x2), (3, .int x3), (4, .ref (bd_a ε 6))] dX2_bring_20 (by decide) rfl ?_
  refine bs_aload hC 6 dX2_bring_22 rfl ?_
  refine bs_aload_n hC 2 dX2_bring_24 rfl rfl ?_
  refine bs_get hC (v := .ref (bd_a ε (43 + 0))) hin_X2 5 (cX_o5 ε S2) rfl 0 (by decide) mw_184 rfl dX2_bring_25 ?_
  refine bs_iload_n hC 5 dX2_bring_28 rfl rfl ?_
  refine bs_if_eq hC 36 dX2_bring_29 (by decide) (fun c29 => ?_) (fun c29 => ?_)
  · refine bs_iload hC 1 dX2_bring_36 rfl ?_
    refine bs_sipush hC (300 : Int32) dX2_bring_38 rfl ?_
    refine bs_imul hC dX2_bring_41 ?_
    refine bs_callU_v hC (rm := ({ frames := 1, cells := 0, slots := 0, locals := 23 } : Room)) [.ref (bd_a ε (43 + 0)), .int (r1 * (300 : Int32))] [] (fun h => c_X1_load (bd_l Γ) (bd_D Γ) ε 0 (r1 * (300 : Int32)) (by decide) S2 h) mw_384 mw_380 mw_383 mw_80 mw_382 mw_381 (Or.inl (by decide +kernel)) ho_X5_load (cX_o6 ε S2) rfl ⟨rfl, rfl, by decide, by decide⟩ rfl rfl (Nat.le_of_ble_eq_true rfl) dX2_bring_42 (fun r23 S24 eS24 => ?_)
    refine bs_iconst hC (0 : Int32) dX2_bring_45 rfl ?_
    refine bs_istore hC [(7, .int (0 : Int32)), (6, .int r1), (5, .int r1), (0, .ref (bd_a ε 5)), (1, .ref (bd_a ε 8)), (2, .int x2), (3, .int x3), (4, .ref (bd_a ε 6))] dX2_bring_46 (by decide) rfl ?_
    refine bs_pick [3, 4, 5, 6, 7, 1, 0] rfl ?_
    refine bs_loopK (fun (q : Int32 × bd_T) t => bd_S Γ 10 t0 t (cX ε (q.2)) 48 [(0, .ref (bd_a ε 5)), (1, .ref (bd_a ε 8)), (2, .int x2), (3, .int x3), (4, .ref (bd_a ε 6)), (6, .int r1), (7, .int (q.1))] []) (fun (q : bd_T) t => bd_S Γ 10 t0 t (cX ε (q)) 108 [] []) (fun q => fb_X2_bring_48 x2 x3 r1 q.1 q.2) (fun _ => bs_none) (fun K hk hx q => lb_X2_bring_48 hC   x2 x3 r1 (fun a0 S => hk (a0, S)) (fun  S => hx (S))  (q.1) (q.2)) (fun r => ?_) bd_K ((0 : Int32), S24)
    obtain ⟨S25, rfl⟩ : ∃ z, z = r := ⟨_, rfl⟩
    show bd_S Γ 10 t0 (Option.bind _ _) (cX ε S25) 108 [] []
    try dsimp only
    exact bs_vret hC dX2_bring_108 rfl
  refine bs_iload_n hC 4 dX2_bring_32 rfl rfl ?_
  refine bs_goto hC 38 dX2_bring_33 (by decide) ?_
  refine bs_sipush hC (300 : Int32) dX2_bring_38 rfl ?_
  refine bs_imul hC dX2_bring_41 ?_
  refine bs_callU_v hC (rm := ({ frames := 1, cells := 0, slots := 0, locals := 23 } : Room)) [.ref (bd_a ε (43 + 0)), .int (x2 * (300 : Int32))] [] (fun h => c_X1_load (bd_l Γ) (bd_D Γ) ε 0 (x2 * (300 : Int32)) (by decide) S2 h) mw_384 mw_380 mw_383 mw_80 mw_382 mw_381 (Or.inl (by decide +kernel)) ho_X5_load (cX_o6 ε S2) rfl ⟨rfl, rfl, by decide, by decide⟩ rfl rfl (Nat.le_of_ble_eq_true rfl) dX2_bring_42 (fun r26 S27 eS27 => ?_)
  refine bs_iconst hC (0 : Int32) dX2_bring_45 rfl ?_
  refine bs_istore hC [(7, .int (0 : Int32)), (6, .int r1), (5, .int r1), (0, .ref (bd_a ε 5)), (1, .ref (bd_a ε 8)), (2, .int x2), (3, .int x3), (4, .ref (bd_a ε 6))] dX2_bring_46 (by decide) rfl ?_
  refine bs_pick [3, 4, 5, 6, 7, 1, 0] rfl ?_
  refine bs_loopK (fun (q : Int32 × bd_T) t => bd_S Γ 10 t0 t (cX ε (q.2)) 48 [(0, .ref (bd_a ε 5)), (1, .ref (bd_a ε 8)), (2, .int x2), (3, .int x3), (4, .ref (bd_a ε 6)), (6, .int r1), (7, .int (q.1))] []) (fun (q : bd_T) t => bd_S Γ 10 t0 t (cX ε (q)) 108 [] []) (fun q => fb_X2_bring_48 x2 x3 r1 q.1 q.2) (fun _ => bs_none) (fun K hk hx q => lb_X2_bring_48 hC   x2 x3 r1 (fun a0 S => hk (a0, S)) (fun  S => hx (S))  (q.1) (q.2)) (fun r => ?_) bd_K ((0 : Int32), S27)
  obtain ⟨S28, rfl⟩ : ∃ z, z = r := ⟨_, rfl⟩
  show bd_S Γ 10 t0 (Option.bind _ _) (cX ε S28) 108 [] []
  try dsimp only
  exact bs_vret hC dX2_bring_108 rfl
theorem c_X2_bring (l : Launch) (D : va_G) (ε : bd_E) (x2 : Int32) (x3 : Int32)  (S : bd_T) (h0 : (f_X2_bring x2 x3 S).isSome = true) : bd_Con l yX2_bring (Cond.code yX2_bring cX2_bring 10 none :: bd_tbl) ({ frames := 3, cells := 0, slots := 0, locals := 67 } : Room) D ε (cX ε) bd_vv [.ref (bd_a ε 5), .ref (bd_a ε 8), .int x2, .int x3, .ref (bd_a ε 6)] S (f_X2_bring x2 x3 S) :=
  bd_con (by decide +kernel) (Nat.le_of_ble_eq_true rfl) ⟨rfl, rfl⟩ h0 (fun Γ _ _ hC => bs_eq bs_bs (b_X2_bring hC x2 x3 S))
set_option maxRecDepth 100000 in
set_option maxHeartbeats 4000000 in
theorem b_X2_together {Γ : bd_G} {ε : bd_E} {t0 : Option (Int64 × bd_T)} (hC : bd_C Γ cX2_together 3 RX2 (some .long) ({ frames := 2, cells := 0, slots := 0, locals := 48 } : Room) ε (cX ε) bd_vl t0) (x1 : Int32)  (S : bd_T) : bd_S Γ 3 t0 ((f_X2_together x1 S).bind some) (cX ε S) 0 [(0, .ref (bd_a ε 5)), (1, .int x1), (2, .ref (bd_a ε 6))] [] := by
  unfold f_X2_together
  refine bs_aload_n hC 2 dX2_together_0 rfl rfl ?_
  refine bs_aload_n hC 0 dX2_together_1 rfl rfl ?_
  refine bs_get hC (v := .ref (bd_a ε (43 + 0))) hin_X2 5 (cX_o5 ε S) rfl 0 (by decide) mw_184 rfl dX2_together_2 ?_
  refine bs_iload_n hC 1 dX2_together_5 rfl rfl ?_
  refine bs_sipush hC (300 : Int32) dX2_together_6 rfl ?_
  refine bs_imul hC dX2_together_9 ?_
  refine bs_callU_v hC (rm := ({ frames := 1, cells := 0, slots := 0, locals := 23 } : Room)) [.ref (bd_a ε (43 + 0)), .int (x1 * (300 : Int32))] [] (fun h => c_X1_load (bd_l Γ) (bd_D Γ) ε 0 (x1 * (300 : Int32)) (by decide) S h) mw_384 mw_380 mw_383 mw_80 mw_382 mw_381 (Or.inl (by decide +kernel)) ho_X5_load (cX_o6 ε S) rfl ⟨rfl, rfl, by decide, by decide⟩ rfl rfl (Nat.le_of_ble_eq_true rfl) dX2_together_10 (fun r1 S2 eS2 => ?_)
  refine bs_aload_n hC 2 dX2_together_13 rfl rfl ?_
  refine bs_iconst hC (0 : Int32) dX2_together_14 rfl ?_
  refine bs_sipush hC (299 : Int32) dX2_together_15 rfl ?_
  refine bs_callU_l hC (rm := ({ frames := 1, cells := 0, slots := 0, locals := 21 } : Room)) [.int (0 : Int32), .int (299 : Int32)] [] (fun h => c_X1_over (bd_l Γ) (bd_D Γ) ε (0 : Int32) (299 : Int32) S2 h) mw_418 mw_444 mw_417 mw_80 mw_416 mw_415 (Or.inl (by decide +kernel)) ho_X5_over (cX_o6 ε S2) rfl ⟨rfl, rfl, by decide, by decide⟩ rfl rfl (Nat.le_of_ble_eq_true rfl) dX2_together_18 (fun r3 S4 eS4 => ?_)
  exact bs_lret hC dX2_together_21 rfl
theorem c_X2_together (l : Launch) (D : va_G) (ε : bd_E) (x1 : Int32)  (S : bd_T) (h0 : (f_X2_together x1 S).isSome = true) : bd_Con l yX2_together (Cond.code yX2_together cX2_together 3 (some .long) :: bd_tbl) ({ frames := 2, cells := 0, slots := 0, locals := 48 } : Room) D ε (cX ε) bd_vl [.ref (bd_a ε 5), .int x1, .ref (bd_a ε 6)] S (f_X2_together x1 S) :=
  bd_con (by decide +kernel) (Nat.le_of_ble_eq_true rfl) ⟨rfl, rfl⟩ h0 (fun Γ _ _ hC => bs_eq bs_bs (b_X2_together hC x1 S))
set_option maxRecDepth 100000 in
set_option maxHeartbeats 4000000 in
theorem lb_X2_bringAll_11 {Γ : bd_G} {ε : bd_E} {t0 : Option (Unit × bd_T)} (hC : bd_C Γ cX2_bringAll 7 RX2 none ({ frames := 3, cells := 0, slots := 0, locals := 70 } : Room) ε (cX ε) bd_vv t0) (p2 : Int32) (p4 : Int64) {K : (Int32 × bd_T) ⊕ (bd_T) → Option (Unit × bd_T)} (hk : ∀ (x6 : Int32) (S : bd_T), bd_S Γ 7 t0 (K (.inl (x6, S))) (cX ε S) 11 [(0, .ref (bd_a ε 5)), (2, .int p2), (3, .ref (bd_a ε 6)), (4, .long p4), (6, .int x6)] []) (hx : ∀ (S : bd_T), bd_S Γ 7 t0 (K (.inr S)) (cX ε S) 45 [] []) (x6 : Int32) (S : bd_T) : bd_S Γ 7 t0 ((fb_X2_bringAll_11 p2 p4 x6 S).bind K) (cX ε S) 11 [(0, .ref (bd_a ε 5)), (2, .int p2), (3, .ref (bd_a ε 6)), (4, .long p4), (6, .int x6)] [] := by
  unfold fb_X2_bringAll_11
  refine bs_iload hC 4 dX2_bringAll_11 rfl ?_
  refine bs_sipush hC (300 : Int32) dX2_bringAll_13 rfl ?_
  refine bs_icmp_ge hC 45 dX2_bringAll_16 (by decide) (fun c9 => ?_) (fun c9 => ?_)
  · refine bs_some ?_
    refine bs_pick [] rfl ?_
    exact hx S
  refine bs_aload_n hC 0 dX2_bringAll_19 rfl rfl ?_
  refine bs_iload_n hC 1 dX2_bringAll_20 rfl rfl ?_
  refine bs_iload hC 4 dX2_bringAll_21 rfl ?_
  refine bs_aload_n hC 2 dX2_bringAll_23 rfl rfl ?_
  refine bs_aload_n hC 0 dX2_bringAll_24 rfl rfl ?_
  refine bs_iload_n hC 1 dX2_bringAll_25 rfl rfl ?_
  refine bs_iload hC 4 dX2_bringAll_26 rfl ?_
  refine bs_callV_l hC (rm := ({ frames := 1, cells := 0, slots := 0, locals := 21 } : Room)) [.int p2, .int x6] [.ref (bd_a ε 6), .int x6, .int p2, .ref (bd_a ε 5)] (fun h => c_X2_value (bd_l Γ) (bd_D Γ) ε p2 x6 S h) mw_428 mw_426 mw_427 mw_78 mw_33 (cX_o5 ε S) rfl by_X2_value ⟨rfl, rfl, by decide, by decide⟩ rfl rfl (Nat.le_of_ble_eq_true rfl) dX2_bringAll_28 (fun r3 S4 eS4 => ?_)
  refine bs_lload hC 3 dX2_bringAll_31 rfl ?_
  refine bs_callU_l hC (rm := ({ frames := 0, cells := 0, slots := 0, locals := 0 } : Room)) [.long r3, .long p4] [.int x6, .int p2, .ref (bd_a ε 5)] (fun h => c_X1_both (bd_l Γ) (bd_D Γ) ε r3 p4 S4 h) mw_433 mw_429 mw_432 mw_80 mw_431 mw_430 (Or.inl (by decide +kernel)) ho_X5_both (cX_o6 ε S4) rfl ⟨rfl, rfl, by decide, by decide⟩ rfl rfl (Nat.le_of_ble_eq_true rfl) dX2_bringAll_33 (fun r5 S6 eS6 => ?_)
  refine bs_callV_v hC (rm := ({ frames := 1, cells := 0, slots := 0, locals := 23 } : Room)) [.int p2, .int x6, .long r5] [] (fun h => c_X2_set (bd_l Γ) (bd_D Γ) ε p2 x6 r5 S6 h) mw_366 mw_437 mw_365 mw_78 mw_26 (cX_o5 ε S6) rfl by_X2_set ⟨rfl, rfl, by decide, by decide⟩ rfl rfl (Nat.le_of_ble_eq_true rfl) dX2_bringAll_36 (fun r7 S8 eS8 => ?_)
  refine bs_iinc hC 4 [(6, .int (x6 + 1)), (0, .ref (bd_a ε 5)), (2, .int p2), (3, .ref (bd_a ε 6)), (4, .long p4)] dX2_bringAll_39 rfl rfl (by decide) rfl ?_
  refine bs_goto hC 11 dX2_bringAll_42 (by decide) ?_
  refine bs_some ?_
  refine bs_pick [1, 2, 3, 4, 0] rfl ?_
  exact hk (x6 + 1) S8
set_option maxRecDepth 100000 in
set_option maxHeartbeats 4000000 in
theorem b_X2_bringAll {Γ : bd_G} {ε : bd_E} {t0 : Option (Unit × bd_T)} (hC : bd_C Γ cX2_bringAll 7 RX2 none ({ frames := 3, cells := 0, slots := 0, locals := 70 } : Room) ε (cX ε) bd_vv t0) (x1 : Int32) (x2 : Int32)  (S : bd_T) : bd_S Γ 7 t0 ((f_X2_bringAll x1 x2 S).bind some) (cX ε S) 0 [(0, .ref (bd_a ε 5)), (1, .int x1), (2, .int x2), (3, .ref (bd_a ε 6))] [] := by
  unfold f_X2_bringAll
  refine bs_aload_n hC 0 dX2_bringAll_0 rfl rfl ?_
  refine bs_iload_n hC 1 dX2_bringAll_1 rfl rfl ?_
  refine bs_aload_n hC 3 dX2_bringAll_2 rfl rfl ?_
  refine bs_callV_l hC (rm := ({ frames := 2, cells := 0, slots := 0, locals := 48 } : Room)) [.int x1, .ref (bd_a ε 6)] [] (fun h => c_X2_together (bd_l Γ) (bd_D Γ) ε x1 S h) mw_443 mw_441 mw_442 mw_78 mw_35 (cX_o5 ε S) rfl by_X2_together ⟨rfl, rfl, by decide, by decide⟩ rfl rfl (Nat.le_of_ble_eq_true rfl) dX2_bringAll_3 (fun r1 S2 eS2 => ?_)
  refine bs_lstore hC [(4, .long r1), (0, .ref (bd_a ε 5)), (1, .int x1), (2, .int x2), (3, .ref (bd_a ε 6))] dX2_bringAll_6 (by decide) rfl ?_
  refine bs_iconst hC (0 : Int32) dX2_bringAll_8 rfl ?_
  refine bs_istore hC [(6, .int (0 : Int32)), (4, .long r1), (0, .ref (bd_a ε 5)), (1, .int x1), (2, .int x2), (3, .ref (bd_a ε 6))] dX2_bringAll_9 (by decide) rfl ?_
  refine bs_pick [2, 4, 5, 1, 0] rfl ?_
  refine bs_loopK (fun (q : Int32 × bd_T) t => bd_S Γ 7 t0 t (cX ε (q.2)) 11 [(0, .ref (bd_a ε 5)), (2, .int x2), (3, .ref (bd_a ε 6)), (4, .long r1), (6, .int (q.1))] []) (fun (q : bd_T) t => bd_S Γ 7 t0 t (cX ε (q)) 45 [] []) (fun q => fb_X2_bringAll_11 x2 r1 q.1 q.2) (fun _ => bs_none) (fun K hk hx q => lb_X2_bringAll_11 hC   x2 r1 (fun a0 S => hk (a0, S)) (fun  S => hx (S))  (q.1) (q.2)) (fun r => ?_) bd_K ((0 : Int32), S2)
  obtain ⟨S10, rfl⟩ : ∃ z, z = r := ⟨_, rfl⟩
  show bd_S Γ 7 t0 (Option.bind _ _) (cX ε S10) 45 [] []
  try dsimp only
  exact bs_vret hC dX2_bringAll_45 rfl
theorem c_X2_bringAll (l : Launch) (D : va_G) (ε : bd_E) (x1 : Int32) (x2 : Int32)  (S : bd_T) (h0 : (f_X2_bringAll x1 x2 S).isSome = true) : bd_Con l yX2_bringAll (Cond.code yX2_bringAll cX2_bringAll 7 none :: bd_tbl) ({ frames := 3, cells := 0, slots := 0, locals := 70 } : Room) D ε (cX ε) bd_vv [.ref (bd_a ε 5), .int x1, .int x2, .ref (bd_a ε 6)] S (f_X2_bringAll x1 x2 S) :=
  bd_con (by decide +kernel) (Nat.le_of_ble_eq_true rfl) ⟨rfl, rfl⟩ h0 (fun Γ _ _ hC => bs_eq bs_bs (b_X2_bringAll hC x1 x2 S))
set_option maxRecDepth 100000 in
set_option maxHeartbeats 4000000 in
theorem lb_X2_gather_14 {Γ : bd_G} {ε : bd_E} {t0 : Option (Unit × bd_T)} (hC : bd_C Γ cX2_gather 6 RX2 none ({ frames := 4, cells := 0, slots := 0, locals := 96 } : Room) ε (cX ε) bd_vv t0) (p2 : Int32) {K : (Int32 × bd_T) ⊕ (bd_T) → Option (Unit × bd_T)} (hk : ∀ (x4 : Int32) (S : bd_T), bd_S Γ 6 t0 (K (.inl (x4, S))) (cX ε S) 14 [(0, .ref (bd_a ε 5)), (1, .ref (bd_a ε 8)), (2, .int p2), (3, .ref (bd_a ε 6)), (4, .int x4)] []) (hx : ∀ (S : bd_T), bd_S Γ 6 t0 (K (.inr S)) (cX ε S) 55 [(0, .ref (bd_a ε 5)), (1, .ref (bd_a ε 8)), (2, .int p2), (3, .ref (bd_a ε 6))] []) (x4 : Int32) (S : bd_T) : bd_S Γ 6 t0 ((fb_X2_gather_14 p2 x4 S).bind K) (cX ε S) 14 [(0, .ref (bd_a ε 5)), (1, .ref (bd_a ε 8)), (2, .int p2), (3, .ref (bd_a ε 6)), (4, .int x4)] [] := by
  unfold fb_X2_gather_14
  refine bs_iload hC 4 dX2_gather_14 rfl ?_
  refine bs_if_le hC 55 dX2_gather_16 (by decide) (fun c12 => ?_) (fun c12 => ?_)
  · refine bs_some ?_
    refine bs_pick [0, 1, 2, 3] rfl ?_
    exact hx S
  refine bs_aload_n hC 1 dX2_gather_19 rfl rfl ?_
  refine bs_getN hC (v := .ref (bd_a ε (12 + 14))) hin_X7 8 (cX_o8 ε S) rfl 4 (by decide) nf_8 rfl dX2_gather_20 ?_
  refine bs_iload hC 4 dX2_gather_23 rfl ?_
  refine bs_callSN_i hC (rm := ({ frames := 0, cells := 0, slots := 0, locals := 0 } : Room)) [.ref (bd_a ε (12 + 14)), .int x4] [] (fun h => c_X9_at (bd_l Γ) (bd_D Γ) ε 14 x4 (by decide) S h) mw_237 nm_36 mw_236 mw_72 by_X9_at ⟨rfl, rfl, by decide, by decide⟩ rfl rfl (Nat.le_of_ble_eq_true rfl) dX2_gather_25 (fun r4 S5 eS5 => ?_)
  refine bs_if_lt hC 49 dX2_gather_28 (by decide) (fun c11 => ?_) (fun c11 => ?_)
  · refine bs_iinc hC 4 [(4, .int (x4 + (-1))), (0, .ref (bd_a ε 5)), (1, .ref (bd_a ε 8)), (2, .int p2), (3, .ref (bd_a ε 6))] dX2_gather_49 rfl rfl (by decide) rfl ?_
    refine bs_goto hC 14 dX2_gather_52 (by decide) ?_
    refine bs_some ?_
    refine bs_pick [1, 2, 3, 4, 0] rfl ?_
    exact hk (x4 + (-1)) S5
  refine bs_aload_n hC 0 dX2_gather_31 rfl rfl ?_
  refine bs_iload hC 4 dX2_gather_32 rfl ?_
  refine bs_callV_i hC (rm := ({ frames := 1, cells := 0, slots := 0, locals := 21 } : Room)) [.int x4] [] (fun h => c_X2_onPath (bd_l Γ) (bd_D Γ) ε x4 S5 h) mw_376 mw_374 mw_375 mw_78 mw_29 (cX_o5 ε S5) rfl by_X2_onPath ⟨rfl, rfl, by decide, by decide⟩ rfl rfl (Nat.le_of_ble_eq_true rfl) dX2_gather_34 (fun r6 S7 eS7 => ?_)
  refine bs_if_ne hC 49 dX2_gather_37 (by decide) (fun c10 => ?_) (fun c10 => ?_)
  · refine bs_aload_n hC 0 dX2_gather_40 rfl rfl ?_
    refine bs_aload_n hC 1 dX2_gather_41 rfl rfl ?_
    refine bs_iload hC 4 dX2_gather_42 rfl ?_
    refine bs_iconst hC (1 : Int32) dX2_gather_44 rfl ?_
    refine bs_aload_n hC 3 dX2_gather_45 rfl rfl ?_
    refine bs_callV_v hC (rm := ({ frames := 3, cells := 0, slots := 0, locals := 67 } : Room)) [.ref (bd_a ε 8), .int x4, .int (1 : Int32), .ref (bd_a ε 6)] [] (fun h => c_X2_bring (bd_l Γ) (bd_D Γ) ε x4 (1 : Int32) S7 h) mw_379 mw_377 mw_378 mw_78 mw_30 (cX_o5 ε S7) rfl by_X2_bring ⟨rfl, rfl, by decide, by decide⟩ rfl rfl (Nat.le_of_ble_eq_true rfl) dX2_gather_46 (fun r8 S9 eS9 => ?_)
    refine bs_iinc hC 4 [(4, .int (x4 + (-1))), (0, .ref (bd_a ε 5)), (1, .ref (bd_a ε 8)), (2, .int p2), (3, .ref (bd_a ε 6))] dX2_gather_49 rfl rfl (by decide) rfl ?_
    refine bs_goto hC 14 dX2_gather_52 (by decide) ?_
    refine bs_some ?_
    refine bs_pick [1, 2, 3, 4, 0] rfl ?_
    exact hk (x4 + (-1)) S9
  refine bs_iinc hC 4 [(4, .int (x4 + (-1))), (0, .ref (bd_a ε 5)), (1, .ref (bd_a ε 8)), (2, .int p2), (3, .ref (bd_a ε 6))] dX2_gather_49 rfl rfl (by decide) rfl ?_
  refine bs_goto hC 14 dX2_gather_52 (by decide) ?_
  refine bs_some ?_
  refine bs_pick [1, 2, 3, 4, 0] rfl ?_
  exact hk (x4 + (-1)) S7
set_option maxRecDepth 100000 in
set_option maxHeartbeats 4000000 in
theorem lb_X2_gather_63 {Γ : bd_G} {ε : bd_E} {t0 : Option (Unit × bd_T)} (hC : bd_C Γ cX2_gather 6 RX2 none ({ frames := 4, cells := 0, slots := 0, locals := 96 } : Room) ε (cX ε) bd_vv t0) (p2 : Int32) {K : (Int32 × bd_T) ⊕ (bd_T) → Option (Unit × bd_T)} (hk : ∀ (x4 : Int32) (S : bd_T), bd_S Γ 6 t0 (K (.inl (x4, S))) (cX ε S) 63 [(0, .ref (bd_a ε 5)), (1, .ref (bd_a ε 8)), (2, .int p2), (3, .ref (bd_a ε 6)), (4, .int x4)] []) (hx : ∀ (S : bd_T), bd_S Γ 6 t0 (K (.inr S)) (cX ε S) 92 [(0, .ref (bd_a ε 5)), (1, .ref (bd_a ε 8)), (2, .int p2), (3, .ref (bd_a ε 6))] []) (x4 : Int32) (S : bd_T) : bd_S Γ 6 t0 ((fb_X2_gather_63 p2 x4 S).bind K) (cX ε S) 63 [(0, .ref (bd_a ε 5)), (1, .ref (bd_a ε 8)), (2, .int p2), (3, .ref (bd_a ε 6)), (4, .int x4)] [] := by
  unfold fb_X2_gather_63
  refine bs_iload hC 4 dX2_gather_63 rfl ?_
  refine bs_if_le hC 92 dX2_gather_65 (by decide) (fun c19 => ?_) (fun c19 => ?_)
  · refine bs_some ?_
    refine bs_pick [0, 1, 2, 3] rfl ?_
    exact hx S
  refine bs_aload_n hC 0 dX2_gather_68 rfl rfl ?_
  refine bs_aload_n hC 1 dX2_gather_69 rfl rfl ?_
  refine bs_aload_n hC 0 dX2_gather_70 rfl rfl ?_
  refine bs_get hC (v := .ref (bd_a ε (12 + 10))) hin_X2 5 (cX_o5 ε S) rfl 1 (by decide) mw_185 rfl dX2_gather_71 ?_
  refine bs_iload hC 4 dX2_gather_74 rfl ?_
  refine bs_iconst hC (1 : Int32) dX2_gather_76 rfl ?_
  refine bs_isub hC dX2_gather_77 ?_
  refine bs_callSN_i hC (rm := ({ frames := 0, cells := 0, slots := 0, locals := 0 } : Room)) [.ref (bd_a ε (12 + 10)), .int (x4 - (1 : Int32))] [.ref (bd_a ε 8), .ref (bd_a ε 5)] (fun h => c_X9_at (bd_l Γ) (bd_D Γ) ε 10 (x4 - (1 : Int32)) (by decide) S h) mw_237 nm_36 mw_236 mw_72 by_X9_at ⟨rfl, rfl, by decide, by decide⟩ rfl rfl (Nat.le_of_ble_eq_true rfl) dX2_gather_78 (fun r15 S16 eS16 => ?_)
  refine bs_iconst hC (0 : Int32) dX2_gather_81 rfl ?_
  refine bs_aload_n hC 3 dX2_gather_82 rfl rfl ?_
  refine bs_callV_v hC (rm := ({ frames := 3, cells := 0, slots := 0, locals := 67 } : Room)) [.ref (bd_a ε 8), .int r15, .int (0 : Int32), .ref (bd_a ε 6)] [] (fun h => c_X2_bring (bd_l Γ) (bd_D Γ) ε r15 (0 : Int32) S16 h) mw_379 mw_377 mw_378 mw_78 mw_30 (cX_o5 ε S16) rfl by_X2_bring ⟨rfl, rfl, by decide, by decide⟩ rfl rfl (Nat.le_of_ble_eq_true rfl) dX2_gather_83 (fun r17 S18 eS18 => ?_)
  refine bs_iinc hC 4 [(4, .int (x4 + (-1))), (0, .ref (bd_a ε 5)), (1, .ref (bd_a ε 8)), (2, .int p2), (3, .ref (bd_a ε 6))] dX2_gather_86 rfl rfl (by decide) rfl ?_
  refine bs_goto hC 63 dX2_gather_89 (by decide) ?_
  refine bs_some ?_
  refine bs_pick [1, 2, 3, 4, 0] rfl ?_
  exact hk (x4 + (-1)) S18
set_option maxRecDepth 100000 in
set_option maxHeartbeats 4000000 in
theorem lb_X2_gather_110 {Γ : bd_G} {ε : bd_E} {t0 : Option (Unit × bd_T)} (hC : bd_C Γ cX2_gather 6 RX2 none ({ frames := 4, cells := 0, slots := 0, locals := 96 } : Room) ε (cX ε) bd_vv t0) (p2 : Int32) (p4 : Int32) {K : (Int32 × bd_T) ⊕ (bd_T) → Option (Unit × bd_T)} (hk : ∀ (x5 : Int32) (S : bd_T), bd_S Γ 6 t0 (K (.inl (x5, S))) (cX ε S) 110 [(0, .ref (bd_a ε 5)), (1, .ref (bd_a ε 8)), (2, .int p2), (3, .ref (bd_a ε 6)), (4, .int p4), (5, .int x5)] []) (hx : ∀ (S : bd_T), bd_S Γ 6 t0 (K (.inr S)) (cX ε S) 152 [] []) (x5 : Int32) (S : bd_T) : bd_S Γ 6 t0 ((fb_X2_gather_110 p2 p4 x5 S).bind K) (cX ε S) 110 [(0, .ref (bd_a ε 5)), (1, .ref (bd_a ε 8)), (2, .int p2), (3, .ref (bd_a ε 6)), (4, .int p4), (5, .int x5)] [] := by
  unfold fb_X2_gather_110
  refine bs_iload hC 5 dX2_gather_110 rfl ?_
  refine bs_aload_n hC 1 dX2_gather_112 rfl rfl ?_
  refine bs_getN hC (v := .int (bd_I S 17)) hin_X7 8 (cX_o8 ε S) rfl 0 (by decide) nf_1 rfl dX2_gather_113 ?_
  refine bs_icmp_ge hC 152 dX2_gather_116 (by decide) (fun c29 => ?_) (fun c29 => ?_)
  · refine bs_some ?_
    refine bs_pick [] rfl ?_
    exact hx S
  refine bs_aload_n hC 1 dX2_gather_119 rfl rfl ?_
  refine bs_getN hC (v := .ref (bd_a ε (12 + 14))) hin_X7 8 (cX_o8 ε S) rfl 4 (by decide) nf_8 rfl dX2_gather_120 ?_
  refine bs_iload hC 5 dX2_gather_123 rfl ?_
  refine bs_callSN_i hC (rm := ({ frames := 0, cells := 0, slots := 0, locals := 0 } : Room)) [.ref (bd_a ε (12 + 14)), .int x5] [] (fun h => c_X9_at (bd_l Γ) (bd_D Γ) ε 14 x5 (by decide) S h) mw_237 nm_36 mw_236 mw_72 by_X9_at ⟨rfl, rfl, by decide, by decide⟩ rfl rfl (Nat.le_of_ble_eq_true rfl) dX2_gather_125 (fun r23 S24 eS24 => ?_)
  refine bs_if_ge hC 146 dX2_gather_128 (by decide) (fun c28 => ?_) (fun c28 => ?_)
  · refine bs_iinc hC 5 [(5, .int (x5 + 1)), (0, .ref (bd_a ε 5)), (1, .ref (bd_a ε 8)), (2, .int p2), (3, .ref (bd_a ε 6)), (4, .int p4)] dX2_gather_146 rfl rfl (by decide) rfl ?_
    refine bs_goto hC 110 dX2_gather_149 (by decide) ?_
    refine bs_some ?_
    refine bs_pick [1, 2, 3, 4, 5, 0] rfl ?_
    exact hk (x5 + 1) S24
  refine bs_iload hC 5 dX2_gather_131 rfl ?_
  refine bs_iload hC 4 dX2_gather_133 rfl ?_
  refine bs_icmp_eq hC 146 dX2_gather_135 (by decide) (fun c27 => ?_) (fun c27 => ?_)
  · refine bs_iinc hC 5 [(5, .int (x5 + 1)), (0, .ref (bd_a ε 5)), (1, .ref (bd_a ε 8)), (2, .int p2), (3, .ref (bd_a ε 6)), (4, .int p4)] dX2_gather_146 rfl rfl (by decide) rfl ?_
    refine bs_goto hC 110 dX2_gather_149 (by decide) ?_
    refine bs_some ?_
    refine bs_pick [1, 2, 3, 4, 5, 0] rfl ?_
    exact hk (x5 + 1) S24
  refine bs_aload_n hC 0 dX2_gather_138 rfl rfl ?_
  refine bs_iload hC 5 dX2_gather_139 rfl ?_
  refine bs_iload_n hC 2 dX2_gather_141 rfl rfl ?_
  refine bs_aload_n hC 3 dX2_gather_142 rfl rfl ?_
  refine bs_callV_v hC (rm := ({ frames := 3, cells := 0, slots := 0, locals := 70 } : Room)) [.int x5, .int p2, .ref (bd_a ε 6)] [] (fun h => c_X2_bringAll (bd_l Γ) (bd_D Γ) ε x5 p2 S24 h) mw_440 mw_438 mw_439 mw_78 mw_34 (cX_o5 ε S24) rfl by_X2_bringAll ⟨rfl, rfl, by decide, by decide⟩ rfl rfl (Nat.le_of_ble_eq_true rfl) dX2_gather_143 (fun r25 S26 eS26 => ?_)
  refine bs_iinc hC 5 [(5, .int (x5 + 1)), (0, .ref (bd_a ε 5)), (1, .ref (bd_a ε 8)), (2, .int p2), (3, .ref (bd_a ε 6)), (4, .int p4)] dX2_gather_146 rfl rfl (by decide) rfl ?_
  refine bs_goto hC 110 dX2_gather_149 (by decide) ?_
  refine bs_some ?_
  refine bs_pick [1, 2, 3, 4, 5, 0] rfl ?_
  exact hk (x5 + 1) S26
set_option maxRecDepth 100000 in
set_option maxHeartbeats 4000000 in
theorem b_X2_gather {Γ : bd_G} {ε : bd_E} {t0 : Option (Unit × bd_T)} (hC : bd_C Γ cX2_gather 6 RX2 none ({ frames := 4, cells := 0, slots := 0, locals := 96 } : Room) ε (cX ε) bd_vv t0) (x2 : Int32)  (S : bd_T) : bd_S Γ 6 t0 ((f_X2_gather x2 S).bind some) (cX ε S) 0 [(0, .ref (bd_a ε 5)), (1, .ref (bd_a ε 8)), (2, .int x2), (3, .ref (bd_a ε 6))] [] := by
  unfold f_X2_gather
  refine bs_aload_n hC 0 dX2_gather_0 rfl rfl ?_
  refine bs_aload_n hC 1 dX2_gather_1 rfl rfl ?_
  refine bs_iload_n hC 2 dX2_gather_2 rfl rfl ?_
  refine bs_callV_v hC (rm := ({ frames := 1, cells := 0, slots := 0, locals := 22 } : Room)) [.ref (bd_a ε 8), .int x2] [] (fun h => c_X2_findPath (bd_l Γ) (bd_D Γ) ε x2 S h) mw_373 mw_371 mw_372 mw_78 mw_28 (cX_o5 ε S) rfl by_X2_findPath ⟨rfl, rfl, by decide, by decide⟩ rfl rfl (Nat.le_of_ble_eq_true rfl) dX2_gather_3 (fun r1 S2 eS2 => ?_)
  refine bs_aload_n hC 1 dX2_gather_6 rfl rfl ?_
  refine bs_getN hC (v := .int (bd_I S2 17)) hin_X7 8 (cX_o8 ε S2) rfl 0 (by decide) nf_1 rfl dX2_gather_7 ?_
  refine bs_iconst hC (1 : Int32) dX2_gather_10 rfl ?_
  refine bs_isub hC dX2_gather_11 ?_
  refine bs_leti (fun z3 ez3 => ?_)
  refine bs_istore hC [(4, .int z3), (0, .ref (bd_a ε 5)), (1, .ref (bd_a ε 8)), (2, .int x2), (3, .ref (bd_a ε 6))] dX2_gather_12 (by decide) rfl ?_
  refine bs_pick [1, 2, 3, 4, 0] rfl ?_
  refine bs_loopK (fun (q : Int32 × bd_T) t => bd_S Γ 6 t0 t (cX ε (q.2)) 14 [(0, .ref (bd_a ε 5)), (1, .ref (bd_a ε 8)), (2, .int x2), (3, .ref (bd_a ε 6)), (4, .int (q.1))] []) (fun (q : bd_T) t => bd_S Γ 6 t0 t (cX ε (q)) 55 [(0, .ref (bd_a ε 5)), (1, .ref (bd_a ε 8)), (2, .int x2), (3, .ref (bd_a ε 6))] []) (fun q => fb_X2_gather_14 x2 q.1 q.2) (fun _ => bs_none) (fun K hk hx q => lb_X2_gather_14 hC   x2 (fun a0 S => hk (a0, S)) (fun  S => hx (S))  (q.1) (q.2)) (fun r => ?_) bd_K (z3, S2)
  obtain ⟨S13, rfl⟩ : ∃ z, z = r := ⟨_, rfl⟩
  show bd_S Γ 6 t0 (Option.bind _ _) (cX ε S13) 55 [(0, .ref (bd_a ε 5)), (1, .ref (bd_a ε 8)), (2, .int x2), (3, .ref (bd_a ε 6))] []
  try dsimp only
  refine bs_aload_n hC 0 dX2_gather_55 rfl rfl ?_
  refine bs_get hC (v := .int (bd_I S13 16)) hin_X2 5 (cX_o5 ε S13) rfl 2 (by decide) mw_186 rfl dX2_gather_56 ?_
  refine bs_iconst hC (1 : Int32) dX2_gather_59 rfl ?_
  refine bs_isub hC dX2_gather_60 ?_
  refine bs_leti (fun z14 ez14 => ?_)
  refine bs_istore hC [(4, .int z14), (0, .ref (bd_a ε 5)), (1, .ref (bd_a ε 8)), (2, .int x2), (3, .ref (bd_a ε 6))] dX2_gather_61 (by decide) rfl ?_
  refine bs_pick [1, 2, 3, 4, 0] rfl ?_
  refine bs_loopK (fun (q : Int32 × bd_T) t => bd_S Γ 6 t0 t (cX ε (q.2)) 63 [(0, .ref (bd_a ε 5)), (1, .ref (bd_a ε 8)), (2, .int x2), (3, .ref (bd_a ε 6)), (4, .int (q.1))] []) (fun (q : bd_T) t => bd_S Γ 6 t0 t (cX ε (q)) 92 [(0, .ref (bd_a ε 5)), (1, .ref (bd_a ε 8)), (2, .int x2), (3, .ref (bd_a ε 6))] []) (fun q => fb_X2_gather_63 x2 q.1 q.2) (fun _ => bs_none) (fun K hk hx q => lb_X2_gather_63 hC   x2 (fun a0 S => hk (a0, S)) (fun  S => hx (S))  (q.1) (q.2)) (fun r => ?_) bd_K (z14, S13)
  obtain ⟨S20, rfl⟩ : ∃ z, z = r := ⟨_, rfl⟩
  show bd_S Γ 6 t0 (Option.bind _ _) (cX ε S20) 92 [(0, .ref (bd_a ε 5)), (1, .ref (bd_a ε 8)), (2, .int x2), (3, .ref (bd_a ε 6))] []
  try dsimp only
  refine bs_aload_n hC 0 dX2_gather_92 rfl rfl ?_
  refine bs_get hC (v := .ref (bd_a ε (12 + 10))) hin_X2 5 (cX_o5 ε S20) rfl 1 (by decide) mw_185 rfl dX2_gather_93 ?_
  refine bs_aload_n hC 0 dX2_gather_96 rfl rfl ?_
  refine bs_get hC (v := .int (bd_I S20 16)) hin_X2 5 (cX_o5 ε S20) rfl 2 (by decide) mw_186 rfl dX2_gather_97 ?_
  refine bs_iconst hC (1 : Int32) dX2_gather_100 rfl ?_
  refine bs_isub hC dX2_gather_101 ?_
  refine bs_callSN_i hC (rm := ({ frames := 0, cells := 0, slots := 0, locals := 0 } : Room)) [.ref (bd_a ε (12 + 10)), .int ((bd_I S20 16) - (1 : Int32))] [] (fun h => c_X9_at (bd_l Γ) (bd_D Γ) ε 10 ((bd_I S20 16) - (1 : Int32)) (by decide) S20 h) mw_237 nm_36 mw_236 mw_72 by_X9_at ⟨rfl, rfl, by decide, by decide⟩ rfl rfl (Nat.le_of_ble_eq_true rfl) dX2_gather_102 (fun r21 S22 eS22 => ?_)
  refine bs_istore hC [(4, .int r21), (0, .ref (bd_a ε 5)), (1, .ref (bd_a ε 8)), (2, .int x2), (3, .ref (bd_a ε 6))] dX2_gather_105 (by decide) rfl ?_
  refine bs_iconst hC (0 : Int32) dX2_gather_107 rfl ?_
  refine bs_istore hC [(5, .int (0 : Int32)), (4, .int r21), (0, .ref (bd_a ε 5)), (1, .ref (bd_a ε 8)), (2, .int x2), (3, .ref (bd_a ε 6))] dX2_gather_108 (by decide) rfl ?_
  refine bs_pick [2, 3, 4, 5, 1, 0] rfl ?_
  refine bs_loopK (fun (q : Int32 × bd_T) t => bd_S Γ 6 t0 t (cX ε (q.2)) 110 [(0, .ref (bd_a ε 5)), (1, .ref (bd_a ε 8)), (2, .int x2), (3, .ref (bd_a ε 6)), (4, .int r21), (5, .int (q.1))] []) (fun (q : bd_T) t => bd_S Γ 6 t0 t (cX ε (q)) 152 [] []) (fun q => fb_X2_gather_110 x2 r21 q.1 q.2) (fun _ => bs_none) (fun K hk hx q => lb_X2_gather_110 hC   x2 r21 (fun a0 S => hk (a0, S)) (fun  S => hx (S))  (q.1) (q.2)) (fun r => ?_) bd_K ((0 : Int32), S22)
  obtain ⟨S30, rfl⟩ : ∃ z, z = r := ⟨_, rfl⟩
  show bd_S Γ 6 t0 (Option.bind _ _) (cX ε S30) 152 [] []
  try dsimp only
  exact bs_vret hC dX2_gather_152 rfl
theorem c_X2_gather (l : Launch) (D : va_G) (ε : bd_E) (x2 : Int32)  (S : bd_T) (h0 : (f_X2_gather x2 S).isSome = true) : bd_Con l yX2_gather (Cond.code yX2_gather cX2_gather 6 none :: bd_tbl) ({ frames := 4, cells := 0, slots := 0, locals := 96 } : Room) D ε (cX ε) bd_vv [.ref (bd_a ε 5), .ref (bd_a ε 8), .int x2, .ref (bd_a ε 6)] S (f_X2_gather x2 S) :=
  bd_con (by decide +kernel) (Nat.le_of_ble_eq_true rfl) ⟨rfl, rfl⟩ h0 (fun Γ _ _ hC => bs_eq bs_bs (b_X2_gather hC x2 S))
set_option maxRecDepth 100000 in
set_option maxHeartbeats 4000000 in
theorem b_X9_waysWithout {Γ : bd_G} {ε : bd_E} {t0 : Option (Int64 × bd_T)} (hC : bd_C Γ cX9_waysWithout 2 RX9 (some .long) ({ frames := 5, cells := 0, slots := 0, locals := 121 } : Room) ε (cX ε) bd_vl t0) (x1 : Int32)  (S : bd_T) : bd_S Γ 2 t0 ((f_X9_waysWithout x1 S).bind some) (cX ε S) 0 [(0, .ref (bd_a ε 0)), (1, .int x1)] [] := by
  unfold f_X9_waysWithout
  refine bs_aload_n hC 0 dX9_waysWithout_0 rfl rfl ?_
  refine bs_get hC (v := .ref (bd_a ε 1)) hin_X9 0 (cX_o0 ε S) rfl 0 (by decide) mw_206 rfl dX9_waysWithout_1 ?_
  refine bs_getN hC (v := .ref (bd_a ε 8)) hin_X8 1 (cX_o1 ε S) rfl 0 (by decide) nf_18 rfl dX9_waysWithout_4 ?_
  refine bs_getN hC (v := .int (bd_I S 17)) hin_X7 8 (cX_o8 ε S) rfl 0 (by decide) nf_0 rfl dX9_waysWithout_7 ?_
  refine bs_if_ne hC 15 dX9_waysWithout_10 (by decide) (fun c7 => ?_) (fun c7 => ?_)
  · refine bs_lconst hC (1 : Int64) dX9_waysWithout_13 rfl ?_
    exact bs_lret hC dX9_waysWithout_14 rfl
  refine bs_aload_n hC 0 dX9_waysWithout_15 rfl rfl ?_
  refine bs_iload_n hC 1 dX9_waysWithout_16 rfl rfl ?_
  refine bs_callV_v hC (rm := ({ frames := 2, cells := 0, slots := 0, locals := 47 } : Room)) [.int x1] [] (fun h => c_X9_setCounts (bd_l Γ) (bd_D Γ) ε x1 S h) mw_364 mw_362 mw_363 mw_72 mw_25 (cX_o0 ε S) rfl by_X9_setCounts ⟨rfl, rfl, by decide, by decide⟩ rfl rfl (Nat.le_of_ble_eq_true rfl) dX9_waysWithout_17 (fun r1 S2 eS2 => ?_)
  refine bs_aload_n hC 0 dX9_waysWithout_20 rfl rfl ?_
  refine bs_get hC (v := .ref (bd_a ε 5)) hin_X9 0 (cX_o0 ε S2) rfl 8 (by decide) mw_214 rfl dX9_waysWithout_21 ?_
  refine bs_aload_n hC 0 dX9_waysWithout_24 rfl rfl ?_
  refine bs_get hC (v := .ref (bd_a ε 1)) hin_X9 0 (cX_o0 ε S2) rfl 0 (by decide) mw_206 rfl dX9_waysWithout_25 ?_
  refine bs_getN hC (v := .ref (bd_a ε 8)) hin_X8 1 (cX_o1 ε S2) rfl 0 (by decide) nf_18 rfl dX9_waysWithout_28 ?_
  refine bs_iconst hC (0 : Int32) dX9_waysWithout_31 rfl ?_
  refine bs_aload_n hC 0 dX9_waysWithout_32 rfl rfl ?_
  refine bs_get hC (v := .ref (bd_a ε 6)) hin_X9 0 (cX_o0 ε S2) rfl 9 (by decide) mw_215 rfl dX9_waysWithout_33 ?_
  refine bs_callVN_v hC (rm := ({ frames := 4, cells := 0, slots := 0, locals := 96 } : Room)) [.ref (bd_a ε 8), .int (0 : Int32), .ref (bd_a ε 6)] [] (fun h => c_X2_gather (bd_l Γ) (bd_D Γ) ε (0 : Int32) S2 h) mw_370 nm_34 mw_369 mw_78 mw_27 (cX_o5 ε S2) rfl by_X2_gather ⟨rfl, rfl, by decide, by decide⟩ rfl rfl (Nat.le_of_ble_eq_true rfl) dX9_waysWithout_36 (fun r3 S4 eS4 => ?_)
  refine bs_aload_n hC 0 dX9_waysWithout_39 rfl rfl ?_
  refine bs_get hC (v := .ref (bd_a ε 5)) hin_X9 0 (cX_o0 ε S4) rfl 8 (by decide) mw_214 rfl dX9_waysWithout_40 ?_
  refine bs_iconst hC (0 : Int32) dX9_waysWithout_43 rfl ?_
  refine bs_aload_n hC 0 dX9_waysWithout_44 rfl rfl ?_
  refine bs_get hC (v := .ref (bd_a ε 6)) hin_X9 0 (cX_o0 ε S4) rfl 9 (by decide) mw_215 rfl dX9_waysWithout_45 ?_
  refine bs_callVN_l hC (rm := ({ frames := 2, cells := 0, slots := 0, locals := 48 } : Room)) [.int (0 : Int32), .ref (bd_a ε 6)] [] (fun h => c_X2_together (bd_l Γ) (bd_D Γ) ε (0 : Int32) S4 h) mw_443 nm_45 mw_442 mw_78 mw_35 (cX_o5 ε S4) rfl by_X2_together ⟨rfl, rfl, by decide, by decide⟩ rfl rfl (Nat.le_of_ble_eq_true rfl) dX9_waysWithout_48 (fun r5 S6 eS6 => ?_)
  exact bs_lret hC dX9_waysWithout_51 rfl
theorem c_X9_waysWithout (l : Launch) (D : va_G) (ε : bd_E) (x1 : Int32)  (S : bd_T) (h0 : (f_X9_waysWithout x1 S).isSome = true) : bd_Con l yX9_waysWithout (Cond.code yX9_waysWithout cX9_waysWithout 2 (some .long) :: bd_tbl) ({ frames := 5, cells := 0, slots := 0, locals := 121 } : Room) D ε (cX ε) bd_vl [.ref (bd_a ε 0), .int x1] S (f_X9_waysWithout x1 S) :=
  bd_con (by decide +kernel) (Nat.le_of_ble_eq_true rfl) ⟨rfl, rfl⟩ h0 (fun Γ _ _ hC => bs_eq bs_bs (b_X9_waysWithout hC x1 S))
set_option maxRecDepth 100000 in
set_option maxHeartbeats 4000000 in
theorem b_X9_ways {Γ : bd_G} {ε : bd_E} {t0 : Option (Int64 × bd_T)} (hC : bd_C Γ cX9_ways 1 RX9 (some .long) ({ frames := 6, cells := 0, slots := 0, locals := 149 } : Room) ε (cX ε) bd_vl t0)  (S : bd_T) : bd_S Γ 1 t0 ((f_X9_ways S).bind some) (cX ε S) 0 [(0, .ref (bd_a ε 0))] [] := by
  unfold f_X9_ways
  refine bs_aload_n hC 0 dX9_ways_0 rfl rfl ?_
  refine bs_get hC (v := .ref (bd_a ε 4)) hin_X9 0 (cX_o0 ε S) rfl 7 (by decide) mw_213 rfl dX9_ways_1 ?_
  refine bs_aload_n hC 0 dX9_ways_4 rfl rfl ?_
  refine bs_get hC (v := .ref (bd_a ε 1)) hin_X9 0 (cX_o0 ε S) rfl 0 (by decide) mw_206 rfl dX9_ways_5 ?_
  refine bs_callVN_v hC (rm := ({ frames := 5, cells := 0, slots := 0, locals := 127 } : Room)) [.ref (bd_a ε 1)] [] (fun h => c_X0_learn (bd_l Γ) (bd_D Γ) ε S h) mw_339 nm_27 mw_338 mw_77 mw_19 (cX_o4 ε S) rfl by_X0_learn ⟨rfl, rfl, by decide, by decide⟩ rfl rfl (Nat.le_of_ble_eq_true rfl) dX9_ways_8 (fun r1 S2 eS2 => ?_)
  refine bs_aload_n hC 0 dX9_ways_11 rfl rfl ?_
  refine bs_iconst hC (-1 : Int32) dX9_ways_12 rfl ?_
  refine bs_callV_l hC (rm := ({ frames := 5, cells := 0, slots := 0, locals := 121 } : Room)) [.int (-1 : Int32)] [] (fun h => c_X9_waysWithout (bd_l Γ) (bd_D Γ) ε (-1 : Int32) S2 h) mw_361 mw_359 mw_360 mw_72 mw_24 (cX_o0 ε S2) rfl by_X9_waysWithout ⟨rfl, rfl, by decide, by decide⟩ rfl rfl (Nat.le_of_ble_eq_true rfl) dX9_ways_13 (fun r3 S4 eS4 => ?_)
  exact bs_lret hC dX9_ways_16 rfl
theorem c_X9_ways (l : Launch) (D : va_G) (ε : bd_E)  (S : bd_T) (h0 : (f_X9_ways S).isSome = true) : bd_Con l yX9_ways (Cond.code yX9_ways cX9_ways 1 (some .long) :: bd_tbl) ({ frames := 6, cells := 0, slots := 0, locals := 149 } : Room) D ε (cX ε) bd_vl [.ref (bd_a ε 0)] S (f_X9_ways S) :=
  bd_con (by decide +kernel) (Nat.le_of_ble_eq_true rfl) ⟨rfl, rfl⟩ h0 (fun Γ _ _ hC => bs_eq bs_bs (b_X9_ways hC S))
set_option maxRecDepth 100000 in
set_option maxHeartbeats 4000000 in
theorem b_X9_countWaysOf {Γ : bd_G} {ε : bd_E} {t0 : Option (Unit × bd_T)} (hC : bd_C Γ cX9_countWaysOf 2 RX9 none ({ frames := 5, cells := 0, slots := 0, locals := 121 } : Room) ε (cX ε) bd_vv t0) (x1 : Int32)  (S : bd_T) : bd_S Γ 2 t0 ((f_X9_countWaysOf x1 S).bind some) (cX ε S) 0 [(0, .ref (bd_a ε 0)), (1, .int x1)] [] := by
  unfold f_X9_countWaysOf
  refine bs_aload_n hC 0 dX9_countWaysOf_0 rfl rfl ?_
  refine bs_iconst hC (-1 : Int32) dX9_countWaysOf_1 rfl ?_
  refine bs_callV_v hC (rm := ({ frames := 2, cells := 0, slots := 0, locals := 47 } : Room)) [.int (-1 : Int32)] [] (fun h => c_X9_setCounts (bd_l Γ) (bd_D Γ) ε (-1 : Int32) S h) mw_364 mw_362 mw_363 mw_72 mw_25 (cX_o0 ε S) rfl by_X9_setCounts ⟨rfl, rfl, by decide, by decide⟩ rfl rfl (Nat.le_of_ble_eq_true rfl) dX9_countWaysOf_2 (fun r1 S2 eS2 => ?_)
  refine bs_aload_n hC 0 dX9_countWaysOf_5 rfl rfl ?_
  refine bs_get hC (v := .ref (bd_a ε 5)) hin_X9 0 (cX_o0 ε S2) rfl 8 (by decide) mw_214 rfl dX9_countWaysOf_6 ?_
  refine bs_aload_n hC 0 dX9_countWaysOf_9 rfl rfl ?_
  refine bs_get hC (v := .ref (bd_a ε 1)) hin_X9 0 (cX_o0 ε S2) rfl 0 (by decide) mw_206 rfl dX9_countWaysOf_10 ?_
  refine bs_getN hC (v := .ref (bd_a ε 8)) hin_X8 1 (cX_o1 ε S2) rfl 0 (by decide) nf_18 rfl dX9_countWaysOf_13 ?_
  refine bs_iload_n hC 1 dX9_countWaysOf_16 rfl rfl ?_
  refine bs_aload_n hC 0 dX9_countWaysOf_17 rfl rfl ?_
  refine bs_get hC (v := .ref (bd_a ε 6)) hin_X9 0 (cX_o0 ε S2) rfl 9 (by decide) mw_215 rfl dX9_countWaysOf_18 ?_
  refine bs_callVN_v hC (rm := ({ frames := 4, cells := 0, slots := 0, locals := 96 } : Room)) [.ref (bd_a ε 8), .int x1, .ref (bd_a ε 6)] [] (fun h => c_X2_gather (bd_l Γ) (bd_D Γ) ε x1 S2 h) mw_370 nm_34 mw_369 mw_78 mw_27 (cX_o5 ε S2) rfl by_X2_gather ⟨rfl, rfl, by decide, by decide⟩ rfl rfl (Nat.le_of_ble_eq_true rfl) dX9_countWaysOf_21 (fun r3 S4 eS4 => ?_)
  exact bs_vret hC dX9_countWaysOf_24 rfl
theorem c_X9_countWaysOf (l : Launch) (D : va_G) (ε : bd_E) (x1 : Int32)  (S : bd_T) (h0 : (f_X9_countWaysOf x1 S).isSome = true) : bd_Con l yX9_countWaysOf (Cond.code yX9_countWaysOf cX9_countWaysOf 2 none :: bd_tbl) ({ frames := 5, cells := 0, slots := 0, locals := 121 } : Room) D ε (cX ε) bd_vv [.ref (bd_a ε 0), .int x1] S (f_X9_countWaysOf x1 S) :=
  bd_con (by decide +kernel) (Nat.le_of_ble_eq_true rfl) ⟨rfl, rfl⟩ h0 (fun Γ _ _ hC => bs_eq bs_bs (b_X9_countWaysOf hC x1 S))
set_option maxRecDepth 100000 in
set_option maxHeartbeats 4000000 in
theorem lb_X9_may_34 {Γ : bd_G} {ε : bd_E} {t0 : Option (Int32 × bd_T)} (hC : bd_C Γ cX9_may 4 RX9 (some .int) ({ frames := 6, cells := 0, slots := 0, locals := 149 } : Room) ε (cX ε) bd_vi t0) (p1 : Int32) {K : (Int32 × Int32 × bd_T) ⊕ (Int32 × bd_T) → Option (Int32 × bd_T)} (hk : ∀ (x2 : Int32) (x3 : Int32) (S : bd_T), bd_S Γ 4 t0 (K (.inl (x2, x3, S))) (cX ε S) 34 [(0, .ref (bd_a ε 0)), (1, .int p1), (2, .int x2), (3, .int x3)] []) (hx : ∀ (y2 : Int32) (S : bd_T), bd_S Γ 4 t0 (K (.inr (y2, S))) (cX ε S) 64 [(2, .int y2)] []) (x2 : Int32) (x3 : Int32) (S : bd_T) : bd_S Γ 4 t0 ((fb_X9_may_34 p1 x2 x3 S).bind K) (cX ε S) 34 [(0, .ref (bd_a ε 0)), (1, .int p1), (2, .int x2), (3, .int x3)] [] := by
  unfold fb_X9_may_34
  refine bs_iload_n hC 3 dX9_may_34 rfl rfl ?_
  refine bs_sipush hC (300 : Int32) dX9_may_35 rfl ?_
  refine bs_icmp_ge hC 64 dX9_may_38 (by decide) (fun c12 => ?_) (fun c12 => ?_)
  · refine bs_some ?_
    refine bs_pick [2] rfl ?_
    exact hx x2 S
  refine bs_aload_n hC 0 dX9_may_41 rfl rfl ?_
  refine bs_get hC (v := .ref (bd_a ε 5)) hin_X9 0 (cX_o0 ε S) rfl 8 (by decide) mw_214 rfl dX9_may_42 ?_
  refine bs_iload_n hC 1 dX9_may_45 rfl rfl ?_
  refine bs_iload_n hC 3 dX9_may_46 rfl rfl ?_
  refine bs_callVN_l hC (rm := ({ frames := 1, cells := 0, slots := 0, locals := 21 } : Room)) [.int p1, .int x3] [] (fun h => c_X2_value (bd_l Γ) (bd_D Γ) ε p1 x3 S h) mw_428 nm_46 mw_427 mw_78 mw_33 (cX_o5 ε S) rfl by_X2_value ⟨rfl, rfl, by decide, by decide⟩ rfl rfl (Nat.le_of_ble_eq_true rfl) dX9_may_47 (fun r9 S10 eS10 => ?_)
  refine bs_lconst hC (0 : Int64) dX9_may_50 rfl ?_
  refine bs_lif_le hC 58 dX9_may_51 dX9_may_52 (by decide) (fun c11 => ?_) (fun c11 => ?_)
  · refine bs_iinc hC 3 [(3, .int (x3 + 1)), (0, .ref (bd_a ε 0)), (1, .int p1), (2, .int x2)] dX9_may_58 rfl rfl (by decide) rfl ?_
    refine bs_goto hC 34 dX9_may_61 (by decide) ?_
    refine bs_some ?_
    refine bs_pick [1, 2, 3, 0] rfl ?_
    exact hk x2 (x3 + 1) S10
  refine bs_iinc hC 2 [(2, .int (x2 + 1)), (0, .ref (bd_a ε 0)), (1, .int p1), (3, .int x3)] dX9_may_55 rfl rfl (by decide) rfl ?_
  refine bs_iinc hC 3 [(3, .int (x3 + 1)), (2, .int (x2 + 1)), (0, .ref (bd_a ε 0)), (1, .int p1)] dX9_may_58 rfl rfl (by decide) rfl ?_
  refine bs_goto hC 34 dX9_may_61 (by decide) ?_
  refine bs_some ?_
  refine bs_pick [2, 3, 1, 0] rfl ?_
  exact hk (x2 + 1) (x3 + 1) S10
set_option maxRecDepth 100000 in
set_option maxHeartbeats 4000000 in
theorem b_X9_may {Γ : bd_G} {ε : bd_E} {t0 : Option (Int32 × bd_T)} (hC : bd_C Γ cX9_may 4 RX9 (some .int) ({ frames := 6, cells := 0, slots := 0, locals := 149 } : Room) ε (cX ε) bd_vi t0) (x1 : Int32)  (S : bd_T) : bd_S Γ 4 t0 ((f_X9_may x1 S).bind some) (cX ε S) 0 [(0, .ref (bd_a ε 0)), (1, .int x1)] [] := by
  unfold f_X9_may
  refine bs_aload_n hC 0 dX9_may_0 rfl rfl ?_
  refine bs_iload_n hC 1 dX9_may_1 rfl rfl ?_
  refine bs_callV_i hC (rm := ({ frames := 0, cells := 0, slots := 0, locals := 0 } : Room)) [.int x1] [] (fun h => c_X9_isThing (bd_l Γ) (bd_D Γ) ε x1 S h) mw_269 mw_267 mw_268 mw_72 mw_7 (cX_o0 ε S) rfl by_X9_isThing ⟨rfl, rfl, by decide, by decide⟩ rfl rfl (Nat.le_of_ble_eq_true rfl) dX9_may_2 (fun r1 S2 eS2 => ?_)
  refine bs_if_ne hC 14 dX9_may_5 (by decide) (fun c15 => ?_) (fun c15 => ?_)
  · refine bs_aload_n hC 0 dX9_may_8 rfl rfl ?_
    refine bs_iconst hC (-1 : Int32) dX9_may_9 rfl ?_
    refine bs_callV_i hC (rm := ({ frames := 1, cells := 0, slots := 0, locals := 22 } : Room)) [.int (-1 : Int32)] [] (fun h => c_X9_refuse (bd_l Γ) (bd_D Γ) ε (-1 : Int32) S2 h) mw_234 mw_232 mw_233 mw_72 mw_0 (cX_o0 ε S2) rfl by_X9_refuse ⟨rfl, rfl, by decide, by decide⟩ rfl rfl (Nat.le_of_ble_eq_true rfl) dX9_may_10 (fun r3 S4 eS4 => ?_)
    exact bs_iret hC dX9_may_13 rfl
  refine bs_aload_n hC 0 dX9_may_14 rfl rfl ?_
  refine bs_get hC (v := .ref (bd_a ε 4)) hin_X9 0 (cX_o0 ε S2) rfl 7 (by decide) mw_213 rfl dX9_may_15 ?_
  refine bs_aload_n hC 0 dX9_may_18 rfl rfl ?_
  refine bs_get hC (v := .ref (bd_a ε 1)) hin_X9 0 (cX_o0 ε S2) rfl 0 (by decide) mw_206 rfl dX9_may_19 ?_
  refine bs_callVN_v hC (rm := ({ frames := 5, cells := 0, slots := 0, locals := 127 } : Room)) [.ref (bd_a ε 1)] [] (fun h => c_X0_learn (bd_l Γ) (bd_D Γ) ε S2 h) mw_339 nm_27 mw_338 mw_77 mw_19 (cX_o4 ε S2) rfl by_X0_learn ⟨rfl, rfl, by decide, by decide⟩ rfl rfl (Nat.le_of_ble_eq_true rfl) dX9_may_22 (fun r5 S6 eS6 => ?_)
  refine bs_aload_n hC 0 dX9_may_25 rfl rfl ?_
  refine bs_iload_n hC 1 dX9_may_26 rfl rfl ?_
  refine bs_callV_v hC (rm := ({ frames := 5, cells := 0, slots := 0, locals := 121 } : Room)) [.int x1] [] (fun h => c_X9_countWaysOf (bd_l Γ) (bd_D Γ) ε x1 S6 h) mw_451 mw_449 mw_450 mw_72 mw_36 (cX_o0 ε S6) rfl by_X9_countWaysOf ⟨rfl, rfl, by decide, by decide⟩ rfl rfl (Nat.le_of_ble_eq_true rfl) dX9_may_27 (fun r7 S8 eS8 => ?_)
  refine bs_iconst hC (0 : Int32) dX9_may_30 rfl ?_
  refine bs_istore_n hC [(2, .int (0 : Int32)), (0, .ref (bd_a ε 0)), (1, .int x1)] dX9_may_31 rfl (by decide) rfl ?_
  refine bs_iconst hC (0 : Int32) dX9_may_32 rfl ?_
  refine bs_istore_n hC [(3, .int (0 : Int32)), (2, .int (0 : Int32)), (0, .ref (bd_a ε 0)), (1, .int x1)] dX9_may_33 rfl (by decide) rfl ?_
  refine bs_pick [2, 3, 1, 0] rfl ?_
  refine bs_loopK (fun (q : Int32 × Int32 × bd_T) t => bd_S Γ 4 t0 t (cX ε (q.2.2)) 34 [(0, .ref (bd_a ε 0)), (1, .int x1), (2, .int (q.1)), (3, .int (q.2.1))] []) (fun (q : Int32 × bd_T) t => bd_S Γ 4 t0 t (cX ε (q.2)) 64 [(2, .int (q.1))] []) (fun q => fb_X9_may_34 x1 q.1 q.2.1 q.2.2) (fun _ => bs_none) (fun K hk hx q => lb_X9_may_34 hC   x1 (fun a0 a1 S => hk (a0, a1, S)) (fun b0 S => hx (b0, S))  (q.1) (q.2.1) (q.2.2)) (fun r => ?_) bd_K ((0 : Int32), (0 : Int32), S8)
  obtain ⟨y13, S14⟩ := r
  show bd_S Γ 4 t0 (Option.bind _ _) (cX ε S14) 64 [(2, .int y13)] []
  try dsimp only
  refine bs_iload_n hC 0 dX9_may_64 rfl rfl ?_
  exact bs_iret hC dX9_may_65 rfl
theorem c_X9_may (l : Launch) (D : va_G) (ε : bd_E) (x1 : Int32)  (S : bd_T) (h0 : (f_X9_may x1 S).isSome = true) : bd_Con l yX9_may (Cond.code yX9_may cX9_may 4 (some .int) :: bd_tbl) ({ frames := 6, cells := 0, slots := 0, locals := 149 } : Room) D ε (cX ε) bd_vi [.ref (bd_a ε 0), .int x1] S (f_X9_may x1 S) :=
  bd_con (by decide +kernel) (Nat.le_of_ble_eq_true rfl) ⟨rfl, rfl⟩ h0 (fun Γ _ _ hC => bs_eq bs_bs (b_X9_may hC x1 S))
set_option maxRecDepth 100000 in
set_option maxHeartbeats 4000000 in
theorem lb_X9_runStart_5 {Γ : bd_G} {ε : bd_E} {t0 : Option (Int32 × bd_T)} (hC : bd_C Γ cX9_runStart 6 RX9 (some .int) ({ frames := 2, cells := 0, slots := 0, locals := 43 } : Room) ε (cX ε) bd_vi t0) (p1 : Int32) (p2 : Int32) {K : (Int32 × Int32 × bd_T) ⊕ ((Int32 × bd_T) ⊕ (bd_T)) → Option (Int32 × bd_T)} (hk : ∀ (x3 : Int32) (x4 : Int32) (S : bd_T), bd_S Γ 6 t0 (K (.inl (x3, x4, S))) (cX ε S) 5 [(0, .ref (bd_a ε 0)), (1, .int p1), (2, .int p2), (3, .int x3), (4, .int x4)] []) (hx : ∀ (S : bd_T), bd_S Γ 6 t0 (K (.inr (.inr S))) (cX ε S) 89 [] []) (hr : ∀ z, K (.inr (.inl z)) = some z) (x3 : Int32) (x4 : Int32) (S : bd_T) : bd_S Γ 6 t0 ((fb_X9_runStart_5 p1 p2 x3 x4 S).bind K) (cX ε S) 5 [(0, .ref (bd_a ε 0)), (1, .int p1), (2, .int p2), (3, .int x3), (4, .int x4)] [] := by
  unfold fb_X9_runStart_5
  refine bs_iload hC 4 dX9_runStart_5 rfl ?_
  refine bs_sipush hC (300 : Int32) dX9_runStart_7 rfl ?_
  refine bs_icmp_ge hC 89 dX9_runStart_10 (by decide) (fun c14 => ?_) (fun c14 => ?_)
  · refine bs_some ?_
    refine bs_pick [] rfl ?_
    exact hx S
  refine bs_aload_n hC 0 dX9_runStart_13 rfl rfl ?_
  refine bs_get hC (v := .ref (bd_a ε 5)) hin_X9 0 (cX_o0 ε S) rfl 8 (by decide) mw_214 rfl dX9_runStart_14 ?_
  refine bs_iload_n hC 1 dX9_runStart_17 rfl rfl ?_
  refine bs_iload hC 4 dX9_runStart_18 rfl ?_
  refine bs_callVN_l hC (rm := ({ frames := 1, cells := 0, slots := 0, locals := 21 } : Room)) [.int p1, .int x4] [] (fun h => c_X2_value (bd_l Γ) (bd_D Γ) ε p1 x4 S h) mw_428 nm_46 mw_427 mw_78 mw_33 (cX_o5 ε S) rfl by_X2_value ⟨rfl, rfl, by decide, by decide⟩ rfl rfl (Nat.le_of_ble_eq_true rfl) dX9_runStart_20 (fun r1 S2 eS2 => ?_)
  refine bs_lconst hC (0 : Int64) dX9_runStart_23 rfl ?_
  refine bs_lif_le hC 54 dX9_runStart_24 dX9_runStart_25 (by decide) (fun c13 => ?_) (fun c13 => ?_)
  · refine bs_iconst hC (0 : Int32) dX9_runStart_54 rfl ?_
    refine bs_istore hC [(5, .int (0 : Int32)), (0, .ref (bd_a ε 0)), (1, .int p1), (2, .int p2), (3, .int x3), (4, .int x4)] dX9_runStart_55 (by decide) rfl ?_
    refine bs_iload hC 0 dX9_runStart_57 rfl ?_
    refine bs_if_eqT hC 70 dX9_runStart_59 (by decide) (by decide) ?_
    refine bs_iload_n hC 4 dX9_runStart_70 rfl rfl ?_
    refine bs_iload hC 0 dX9_runStart_71 rfl ?_
    refine bs_if_eqT hC 80 dX9_runStart_73 (by decide) (by decide) ?_
    refine bs_iconst hC (0 : Int32) dX9_runStart_80 rfl ?_
    refine bs_iadd hC dX9_runStart_81 ?_
    refine bs_leti (fun z3 ez3 => ?_)
    refine bs_istore_n hC [(3, .int z3), (5, .int (0 : Int32)), (0, .ref (bd_a ε 0)), (1, .int p1), (2, .int p2), (4, .int x4)] dX9_runStart_82 rfl (by decide) rfl ?_
    refine bs_iinc hC 5 [(4, .int (x4 + 1)), (3, .int z3), (5, .int (0 : Int32)), (0, .ref (bd_a ε 0)), (1, .int p1), (2, .int p2)] dX9_runStart_83 rfl rfl (by decide) rfl ?_
    refine bs_goto hC 5 dX9_runStart_86 (by decide) ?_
    refine bs_some ?_
    refine bs_pick [3, 4, 5, 1, 0] rfl ?_
    exact hk z3 (x4 + 1) S2
  refine bs_iload hC 4 dX9_runStart_28 rfl ?_
  refine bs_if_eq hC 50 dX9_runStart_30 (by decide) (fun c12 => ?_) (fun c12 => ?_)
  · refine bs_iconst hC (1 : Int32) dX9_runStart_50 rfl ?_
    refine bs_goto hC 55 dX9_runStart_51 (by decide) ?_
    refine bs_istore hC [(5, .int (1 : Int32)), (0, .ref (bd_a ε 0)), (1, .int p1), (2, .int p2), (3, .int x3), (4, .int x4)] dX9_runStart_55 (by decide) rfl ?_
    refine bs_iload hC 0 dX9_runStart_57 rfl ?_
    refine bs_if_eqF hC 70 dX9_runStart_59 (by decide) (by decide) ?_
    refine bs_iload_n hC 4 dX9_runStart_62 rfl rfl ?_
    refine bs_iload_n hC 3 dX9_runStart_63 rfl rfl ?_
    refine bs_icmp_ne hC 70 dX9_runStart_64 (by decide) (fun c5 => ?_) (fun c5 => ?_)
    · refine bs_iload hC 5 dX9_runStart_67 rfl ?_
      exact bs_iret hC dX9_runStart_69 (hr _)
    refine bs_iload_n hC 4 dX9_runStart_70 rfl rfl ?_
    refine bs_iload hC 0 dX9_runStart_71 rfl ?_
    refine bs_if_eqF hC 80 dX9_runStart_73 (by decide) (by decide) ?_
    refine bs_iconst hC (1 : Int32) dX9_runStart_76 rfl ?_
    refine bs_goto hC 81 dX9_runStart_77 (by decide) ?_
    refine bs_iadd hC dX9_runStart_81 ?_
    refine bs_leti (fun z4 ez4 => ?_)
    refine bs_istore_n hC [(3, .int z4), (5, .int (1 : Int32)), (0, .ref (bd_a ε 0)), (1, .int p1), (2, .int p2), (4, .int x4)] dX9_runStart_82 rfl (by decide) rfl ?_
    refine bs_iinc hC 5 [(4, .int (x4 + 1)), (3, .int z4), (5, .int (1 : Int32)), (0, .ref (bd_a ε 0)), (1, .int p1), (2, .int p2)] dX9_runStart_83 rfl rfl (by decide) rfl ?_
    refine bs_goto hC 5 dX9_runStart_86 (by decide) ?_
    refine bs_some ?_
    refine bs_pick [3, 4, 5, 1, 0] rfl ?_
    exact hk z4 (x4 + 1) S2
  refine bs_aload_n hC 0 dX9_runStart_33 rfl rfl ?_
  refine bs_get hC (v := .ref (bd_a ε 5)) hin_X9 0 (cX_o0 ε S2) rfl 8 (by decide) mw_214 rfl dX9_runStart_34 ?_
  refine bs_iload_n hC 1 dX9_runStart_37 rfl rfl ?_
  refine bs_iload hC 4 dX9_runStart_38 rfl ?_
  refine bs_iconst hC (1 : Int32) dX9_runStart_40 rfl ?_
  refine bs_isub hC dX9_runStart_41 ?_
  refine bs_callVN_l hC (rm := ({ frames := 1, cells := 0, slots := 0, locals := 21 } : Room)) [.int p1, .int (x4 - (1 : Int32))] [] (fun h => c_X2_value (bd_l Γ) (bd_D Γ) ε p1 (x4 - (1 : Int32)) S2 h) mw_428 nm_46 mw_427 mw_78 mw_33 (cX_o5 ε S2) rfl by_X2_value ⟨rfl, rfl, by decide, by decide⟩ rfl rfl (Nat.le_of_ble_eq_true rfl) dX9_runStart_42 (fun r6 S7 eS7 => ?_)
  refine bs_lconst hC (0 : Int64) dX9_runStart_45 rfl ?_
  refine bs_lif_ne hC 54 dX9_runStart_46 dX9_runStart_47 (by decide) (fun c11 => ?_) (fun c11 => ?_)
  · refine bs_iconst hC (1 : Int32) dX9_runStart_50 rfl ?_
    refine bs_goto hC 55 dX9_runStart_51 (by decide) ?_
    refine bs_istore hC [(5, .int (1 : Int32)), (0, .ref (bd_a ε 0)), (1, .int p1), (2, .int p2), (3, .int x3), (4, .int x4)] dX9_runStart_55 (by decide) rfl ?_
    refine bs_iload hC 0 dX9_runStart_57 rfl ?_
    refine bs_if_eqF hC 70 dX9_runStart_59 (by decide) (by decide) ?_
    refine bs_iload_n hC 4 dX9_runStart_62 rfl rfl ?_
    refine bs_iload_n hC 3 dX9_runStart_63 rfl rfl ?_
    refine bs_icmp_ne hC 70 dX9_runStart_64 (by decide) (fun c9 => ?_) (fun c9 => ?_)
    · refine bs_iload hC 5 dX9_runStart_67 rfl ?_
      exact bs_iret hC dX9_runStart_69 (hr _)
    refine bs_iload_n hC 4 dX9_runStart_70 rfl rfl ?_
    refine bs_iload hC 0 dX9_runStart_71 rfl ?_
    refine bs_if_eqF hC 80 dX9_runStart_73 (by decide) (by decide) ?_
    refine bs_iconst hC (1 : Int32) dX9_runStart_76 rfl ?_
    refine bs_goto hC 81 dX9_runStart_77 (by decide) ?_
    refine bs_iadd hC dX9_runStart_81 ?_
    refine bs_leti (fun z8 ez8 => ?_)
    refine bs_istore_n hC [(3, .int z8), (5, .int (1 : Int32)), (0, .ref (bd_a ε 0)), (1, .int p1), (2, .int p2), (4, .int x4)] dX9_runStart_82 rfl (by decide) rfl ?_
    refine bs_iinc hC 5 [(4, .int (x4 + 1)), (3, .int z8), (5, .int (1 : Int32)), (0, .ref (bd_a ε 0)), (1, .int p1), (2, .int p2)] dX9_runStart_83 rfl rfl (by decide) rfl ?_
    refine bs_goto hC 5 dX9_runStart_86 (by decide) ?_
    refine bs_some ?_
    refine bs_pick [3, 4, 5, 1, 0] rfl ?_
    exact hk z8 (x4 + 1) S7
  refine bs_iconst hC (0 : Int32) dX9_runStart_54 rfl ?_
  refine bs_istore hC [(5, .int (0 : Int32)), (0, .ref (bd_a ε 0)), (1, .int p1), (2, .int p2), (3, .int x3), (4, .int x4)] dX9_runStart_55 (by decide) rfl ?_
  refine bs_iload hC 0 dX9_runStart_57 rfl ?_
  refine bs_if_eqT hC 70 dX9_runStart_59 (by decide) (by decide) ?_
  refine bs_iload_n hC 4 dX9_runStart_70 rfl rfl ?_
  refine bs_iload hC 0 dX9_runStart_71 rfl ?_
  refine bs_if_eqT hC 80 dX9_runStart_73 (by decide) (by decide) ?_
  refine bs_iconst hC (0 : Int32) dX9_runStart_80 rfl ?_
  refine bs_iadd hC dX9_runStart_81 ?_
  refine bs_leti (fun z10 ez10 => ?_)
  refine bs_istore_n hC [(3, .int z10), (5, .int (0 : Int32)), (0, .ref (bd_a ε 0)), (1, .int p1), (2, .int p2), (4, .int x4)] dX9_runStart_82 rfl (by decide) rfl ?_
  refine bs_iinc hC 5 [(4, .int (x4 + 1)), (3, .int z10), (5, .int (0 : Int32)), (0, .ref (bd_a ε 0)), (1, .int p1), (2, .int p2)] dX9_runStart_83 rfl rfl (by decide) rfl ?_
  refine bs_goto hC 5 dX9_runStart_86 (by decide) ?_
  refine bs_some ?_
  refine bs_pick [3, 4, 5, 1, 0] rfl ?_
  exact hk z10 (x4 + 1) S7
set_option maxRecDepth 100000 in
set_option maxHeartbeats 4000000 in
theorem b_X9_runStart {Γ : bd_G} {ε : bd_E} {t0 : Option (Int32 × bd_T)} (hC : bd_C Γ cX9_runStart 6 RX9 (some .int) ({ frames := 2, cells := 0, slots := 0, locals := 43 } : Room) ε (cX ε) bd_vi t0) (x1 : Int32) (x2 : Int32)  (S : bd_T) : bd_S Γ 6 t0 ((f_X9_runStart x1 x2 S).bind some) (cX ε S) 0 [(0, .ref (bd_a ε 0)), (1, .int x1), (2, .int x2)] [] := by
  unfold f_X9_runStart
  refine bs_iconst hC (0 : Int32) dX9_runStart_0 rfl ?_
  refine bs_istore_n hC [(3, .int (0 : Int32)), (0, .ref (bd_a ε 0)), (1, .int x1), (2, .int x2)] dX9_runStart_1 rfl (by decide) rfl ?_
  refine bs_iconst hC (0 : Int32) dX9_runStart_2 rfl ?_
  refine bs_istore hC [(4, .int (0 : Int32)), (3, .int (0 : Int32)), (0, .ref (bd_a ε 0)), (1, .int x1), (2, .int x2)] dX9_runStart_3 (by decide) rfl ?_
  refine bs_pick [2, 3, 4, 1, 0] rfl ?_
  refine bs_loopK (fun (q : Int32 × Int32 × bd_T) t => bd_S Γ 6 t0 t (cX ε (q.2.2)) 5 [(0, .ref (bd_a ε 0)), (1, .int x1), (2, .int x2), (3, .int (q.1)), (4, .int (q.2.1))] []) (fun (q : (Int32 × bd_T) ⊕ (bd_T)) t => Sum.elim (fun (z : Int32 × bd_T) => t = some z) (fun (q : bd_T) => bd_S Γ 6 t0 t (cX ε (q)) 89 [] []) q) (fun q => fb_X9_runStart_5 x1 x2 q.1 q.2.1 q.2.2) (fun _ => bs_none) (fun K hk hx q => lb_X9_runStart_5 hC   x1 x2 (fun a0 a1 S => hk (a0, a1, S)) (fun  S => hx (.inr (S))) (fun z => hx (.inl z)) (q.1) (q.2.1) (q.2.2)) (fun r => ?_) bd_K ((0 : Int32), (0 : Int32), S)
  rcases r with r | r
  · exact rfl
  obtain ⟨S15, rfl⟩ : ∃ z, z = r := ⟨_, rfl⟩
  show bd_S Γ 6 t0 (Option.bind _ _) (cX ε S15) 89 [] []
  try dsimp only [Sum.elim_inr]
  refine bs_bipush hC (-9 : Int32) dX9_runStart_89 rfl ?_
  exact bs_iret hC dX9_runStart_91 rfl
theorem c_X9_runStart (l : Launch) (D : va_G) (ε : bd_E) (x1 : Int32) (x2 : Int32)  (S : bd_T) (h0 : (f_X9_runStart x1 x2 S).isSome = true) : bd_Con l yX9_runStart (Cond.code yX9_runStart cX9_runStart 6 (some .int) :: bd_tbl) ({ frames := 2, cells := 0, slots := 0, locals := 43 } : Room) D ε (cX ε) bd_vi [.ref (bd_a ε 0), .int x1, .int x2] S (f_X9_runStart x1 x2 S) :=
  bd_con (by decide +kernel) (Nat.le_of_ble_eq_true rfl) ⟨rfl, rfl⟩ h0 (fun Γ _ _ hC => bs_eq bs_bs (b_X9_runStart hC x1 x2 S))
set_option maxRecDepth 100000 in
set_option maxHeartbeats 4000000 in
theorem lb_X9_runEnd_2 {Γ : bd_G} {ε : bd_E} {t0 : Option (Int32 × bd_T)} (hC : bd_C Γ cX9_runEnd 4 RX9 (some .int) ({ frames := 2, cells := 0, slots := 0, locals := 43 } : Room) ε (cX ε) bd_vi t0) (p1 : Int32) {K : (Int32 × bd_T) ⊕ (Int32 × bd_T) → Option (Int32 × bd_T)} (hk : ∀ (x3 : Int32) (S : bd_T), bd_S Γ 4 t0 (K (.inl (x3, S))) (cX ε S) 2 [(0, .ref (bd_a ε 0)), (1, .int p1), (3, .int x3)] []) (hx : ∀ (y3 : Int32) (S : bd_T), bd_S Γ 4 t0 (K (.inr (y3, S))) (cX ε S) 31 [(3, .int y3)] []) (x3 : Int32) (S : bd_T) : bd_S Γ 4 t0 ((fb_X9_runEnd_2 p1 x3 S).bind K) (cX ε S) 2 [(0, .ref (bd_a ε 0)), (1, .int p1), (3, .int x3)] [] := by
  unfold fb_X9_runEnd_2
  refine bs_iload_n hC 2 dX9_runEnd_2 rfl rfl ?_
  refine bs_sipush hC (299 : Int32) dX9_runEnd_3 rfl ?_
  refine bs_icmp_ge hC 31 dX9_runEnd_6 (by decide) (fun c4 => ?_) (fun c4 => ?_)
  · refine bs_some ?_
    refine bs_pick [2] rfl ?_
    exact hx x3 S
  refine bs_aload_n hC 0 dX9_runEnd_9 rfl rfl ?_
  refine bs_get hC (v := .ref (bd_a ε 5)) hin_X9 0 (cX_o0 ε S) rfl 8 (by decide) mw_214 rfl dX9_runEnd_10 ?_
  refine bs_iload_n hC 1 dX9_runEnd_13 rfl rfl ?_
  refine bs_iload_n hC 2 dX9_runEnd_14 rfl rfl ?_
  refine bs_iconst hC (1 : Int32) dX9_runEnd_15 rfl ?_
  refine bs_iadd hC dX9_runEnd_16 ?_
  refine bs_callVN_l hC (rm := ({ frames := 1, cells := 0, slots := 0, locals := 21 } : Room)) [.int p1, .int (x3 + (1 : Int32))] [] (fun h => c_X2_value (bd_l Γ) (bd_D Γ) ε p1 (x3 + (1 : Int32)) S h) mw_428 nm_46 mw_427 mw_78 mw_33 (cX_o5 ε S) rfl by_X2_value ⟨rfl, rfl, by decide, by decide⟩ rfl rfl (Nat.le_of_ble_eq_true rfl) dX9_runEnd_17 (fun r1 S2 eS2 => ?_)
  refine bs_lconst hC (0 : Int64) dX9_runEnd_20 rfl ?_
  refine bs_lif_le hC 31 dX9_runEnd_21 dX9_runEnd_22 (by decide) (fun c3 => ?_) (fun c3 => ?_)
  · refine bs_some ?_
    refine bs_pick [2] rfl ?_
    exact hx x3 S2
  refine bs_iinc hC 2 [(3, .int (x3 + 1)), (0, .ref (bd_a ε 0)), (1, .int p1)] dX9_runEnd_25 rfl rfl (by decide) rfl ?_
  refine bs_goto hC 2 dX9_runEnd_28 (by decide) ?_
  refine bs_some ?_
  refine bs_pick [1, 2, 0] rfl ?_
  exact hk (x3 + 1) S2
set_option maxRecDepth 100000 in
set_option maxHeartbeats 4000000 in
theorem b_X9_runEnd {Γ : bd_G} {ε : bd_E} {t0 : Option (Int32 × bd_T)} (hC : bd_C Γ cX9_runEnd 4 RX9 (some .int) ({ frames := 2, cells := 0, slots := 0, locals := 43 } : Room) ε (cX ε) bd_vi t0) (x1 : Int32) (x2 : Int32)  (S : bd_T) : bd_S Γ 4 t0 ((f_X9_runEnd x1 x2 S).bind some) (cX ε S) 0 [(0, .ref (bd_a ε 0)), (1, .int x1), (2, .int x2)] [] := by
  unfold f_X9_runEnd
  refine bs_iload_n hC 2 dX9_runEnd_0 rfl rfl ?_
  refine bs_istore_n hC [(3, .int x2), (0, .ref (bd_a ε 0)), (1, .int x1), (2, .int x2)] dX9_runEnd_1 rfl (by decide) rfl ?_
  refine bs_pick [1, 2, 0] rfl ?_
  refine bs_loopK (fun (q : Int32 × bd_T) t => bd_S Γ 4 t0 t (cX ε (q.2)) 2 [(0, .ref (bd_a ε 0)), (1, .int x1), (3, .int (q.1))] []) (fun (q : Int32 × bd_T) t => bd_S Γ 4 t0 t (cX ε (q.2)) 31 [(3, .int (q.1))] []) (fun q => fb_X9_runEnd_2 x1 q.1 q.2) (fun _ => bs_none) (fun K hk hx q => lb_X9_runEnd_2 hC   x1 (fun a0 S => hk (a0, S)) (fun b0 S => hx (b0, S))  (q.1) (q.2)) (fun r => ?_) bd_K (x2, S)
  obtain ⟨y5, S6⟩ := r
  show bd_S Γ 4 t0 (Option.bind _ _) (cX ε S6) 31 [(3, .int y5)] []
  try dsimp only
  refine bs_iload_n hC 0 dX9_runEnd_31 rfl rfl ?_
  exact bs_iret hC dX9_runEnd_32 rfl
theorem c_X9_runEnd (l : Launch) (D : va_G) (ε : bd_E) (x1 : Int32) (x2 : Int32)  (S : bd_T) (h0 : (f_X9_runEnd x1 x2 S).isSome = true) : bd_Con l yX9_runEnd (Cond.code yX9_runEnd cX9_runEnd 4 (some .int) :: bd_tbl) ({ frames := 2, cells := 0, slots := 0, locals := 43 } : Room) D ε (cX ε) bd_vi [.ref (bd_a ε 0), .int x1, .int x2] S (f_X9_runEnd x1 x2 S) :=
  bd_con (by decide +kernel) (Nat.le_of_ble_eq_true rfl) ⟨rfl, rfl⟩ h0 (fun Γ _ _ hC => bs_eq bs_bs (b_X9_runEnd hC x1 x2 S))
set_option maxRecDepth 100000 in
set_option maxHeartbeats 4000000 in
theorem b_X9_run {Γ : bd_G} {ε : bd_E} {t0 : Option (Int32 × bd_T)} (hC : bd_C Γ cX9_run 5 RX9 (some .int) ({ frames := 6, cells := 0, slots := 0, locals := 149 } : Room) ε (cX ε) bd_vi t0) (x1 : Int32) (x2 : Int32) (x3 : Int32)  (S : bd_T) : bd_S Γ 5 t0 ((f_X9_run x1 x2 x3 S).bind some) (cX ε S) 0 [(0, .ref (bd_a ε 0)), (1, .int x1), (2, .int x2), (3, .int x3)] [] := by
  unfold f_X9_run
  refine bs_aload_n hC 0 dX9_run_0 rfl rfl ?_
  refine bs_iload_n hC 1 dX9_run_1 rfl rfl ?_
  refine bs_callV_i hC (rm := ({ frames := 0, cells := 0, slots := 0, locals := 0 } : Room)) [.int x1] [] (fun h => c_X9_isThing (bd_l Γ) (bd_D Γ) ε x1 S h) mw_269 mw_267 mw_268 mw_72 mw_7 (cX_o0 ε S) rfl by_X9_isThing ⟨rfl, rfl, by decide, by decide⟩ rfl rfl (Nat.le_of_ble_eq_true rfl) dX9_run_2 (fun r1 S2 eS2 => ?_)
  refine bs_if_ne hC 14 dX9_run_5 (by decide) (fun c29 => ?_) (fun c29 => ?_)
  · refine bs_aload_n hC 0 dX9_run_8 rfl rfl ?_
    refine bs_iconst hC (-1 : Int32) dX9_run_9 rfl ?_
    refine bs_callV_i hC (rm := ({ frames := 1, cells := 0, slots := 0, locals := 22 } : Room)) [.int (-1 : Int32)] [] (fun h => c_X9_refuse (bd_l Γ) (bd_D Γ) ε (-1 : Int32) S2 h) mw_234 mw_232 mw_233 mw_72 mw_0 (cX_o0 ε S2) rfl by_X9_refuse ⟨rfl, rfl, by decide, by decide⟩ rfl rfl (Nat.le_of_ble_eq_true rfl) dX9_run_10 (fun r3 S4 eS4 => ?_)
    exact bs_iret hC dX9_run_13 rfl
  refine bs_iload_n hC 3 dX9_run_14 rfl rfl ?_
  refine bs_if_eq hC 30 dX9_run_15 (by decide) (fun c28 => ?_) (fun c28 => ?_)
  · refine bs_aload_n hC 0 dX9_run_30 rfl rfl ?_
    refine bs_get hC (v := .ref (bd_a ε 4)) hin_X9 0 (cX_o0 ε S2) rfl 7 (by decide) mw_213 rfl dX9_run_31 ?_
    refine bs_aload_n hC 0 dX9_run_34 rfl rfl ?_
    refine bs_get hC (v := .ref (bd_a ε 1)) hin_X9 0 (cX_o0 ε S2) rfl 0 (by decide) mw_206 rfl dX9_run_35 ?_
    refine bs_callVN_v hC (rm := ({ frames := 5, cells := 0, slots := 0, locals := 127 } : Room)) [.ref (bd_a ε 1)] [] (fun h => c_X0_learn (bd_l Γ) (bd_D Γ) ε S2 h) mw_339 nm_27 mw_338 mw_77 mw_19 (cX_o4 ε S2) rfl by_X0_learn ⟨rfl, rfl, by decide, by decide⟩ rfl rfl (Nat.le_of_ble_eq_true rfl) dX9_run_38 (fun r5 S6 eS6 => ?_)
    refine bs_aload_n hC 0 dX9_run_41 rfl rfl ?_
    refine bs_iload_n hC 1 dX9_run_42 rfl rfl ?_
    refine bs_callV_v hC (rm := ({ frames := 5, cells := 0, slots := 0, locals := 121 } : Room)) [.int x1] [] (fun h => c_X9_countWaysOf (bd_l Γ) (bd_D Γ) ε x1 S6 h) mw_451 mw_449 mw_450 mw_72 mw_36 (cX_o0 ε S6) rfl by_X9_countWaysOf ⟨rfl, rfl, by decide, by decide⟩ rfl rfl (Nat.le_of_ble_eq_true rfl) dX9_run_43 (fun r7 S8 eS8 => ?_)
    refine bs_aload_n hC 0 dX9_run_46 rfl rfl ?_
    refine bs_iload_n hC 1 dX9_run_47 rfl rfl ?_
    refine bs_iload_n hC 2 dX9_run_48 rfl rfl ?_
    refine bs_callV_i hC (rm := ({ frames := 2, cells := 0, slots := 0, locals := 43 } : Room)) [.int x1, .int x2] [] (fun h => c_X9_runStart (bd_l Γ) (bd_D Γ) ε x1 x2 S8 h) mw_458 mw_456 mw_457 mw_72 mw_37 (cX_o0 ε S8) rfl by_X9_runStart ⟨rfl, rfl, by decide, by decide⟩ rfl rfl (Nat.le_of_ble_eq_true rfl) dX9_run_49 (fun r9 S10 eS10 => ?_)
    refine bs_istore hC [(4, .int r9), (0, .ref (bd_a ε 0)), (1, .int x1), (2, .int x2), (3, .int x3)] dX9_run_52 (by decide) rfl ?_
    refine bs_iload hC 0 dX9_run_54 rfl ?_
    refine bs_bipush hC (-9 : Int32) dX9_run_56 rfl ?_
    refine bs_icmp_eq hC 65 dX9_run_58 (by decide) (fun c14 => ?_) (fun c14 => ?_)
    · refine bs_iload hC 0 dX9_run_65 rfl ?_
      exact bs_iret hC dX9_run_67 rfl
    refine bs_iload_n hC 4 dX9_run_61 rfl rfl ?_
    refine bs_if_ne hC 68 dX9_run_62 (by decide) (fun c13 => ?_) (fun c13 => ?_)
    · refine bs_iload hC 0 dX9_run_65 rfl ?_
      exact bs_iret hC dX9_run_67 rfl
    refine bs_aload_n hC 1 dX9_run_68 rfl rfl ?_
    refine bs_iload_n hC 2 dX9_run_69 rfl rfl ?_
    refine bs_iload hC 0 dX9_run_70 rfl ?_
    refine bs_callV_i hC (rm := ({ frames := 2, cells := 0, slots := 0, locals := 43 } : Room)) [.int x1, .int r9] [] (fun h => c_X9_runEnd (bd_l Γ) (bd_D Γ) ε x1 r9 S10 h) mw_461 mw_459 mw_460 mw_72 mw_38 (cX_o0 ε S10) rfl by_X9_runEnd ⟨rfl, rfl, by decide, by decide⟩ rfl rfl (Nat.le_of_ble_eq_true rfl) dX9_run_72 (fun r11 S12 eS12 => ?_)
    exact bs_iret hC dX9_run_75 rfl
  refine bs_iload_n hC 3 dX9_run_18 rfl rfl ?_
  refine bs_iconst hC (1 : Int32) dX9_run_19 rfl ?_
  refine bs_icmp_eq hC 30 dX9_run_20 (by decide) (fun c27 => ?_) (fun c27 => ?_)
  · refine bs_aload_n hC 0 dX9_run_30 rfl rfl ?_
    refine bs_get hC (v := .ref (bd_a ε 4)) hin_X9 0 (cX_o0 ε S2) rfl 7 (by decide) mw_213 rfl dX9_run_31 ?_
    refine bs_aload_n hC 0 dX9_run_34 rfl rfl ?_
    refine bs_get hC (v := .ref (bd_a ε 1)) hin_X9 0 (cX_o0 ε S2) rfl 0 (by decide) mw_206 rfl dX9_run_35 ?_
    refine bs_callVN_v hC (rm := ({ frames := 5, cells := 0, slots := 0, locals := 127 } : Room)) [.ref (bd_a ε 1)] [] (fun h => c_X0_learn (bd_l Γ) (bd_D Γ) ε S2 h) mw_339 nm_27 mw_338 mw_77 mw_19 (cX_o4 ε S2) rfl by_X0_learn ⟨rfl, rfl, by decide, by decide⟩ rfl rfl (Nat.le_of_ble_eq_true rfl) dX9_run_38 (fun r15 S16 eS16 => ?_)
    refine bs_aload_n hC 0 dX9_run_41 rfl rfl ?_
    refine bs_iload_n hC 1 dX9_run_42 rfl rfl ?_
    refine bs_callV_v hC (rm := ({ frames := 5, cells := 0, slots := 0, locals := 121 } : Room)) [.int x1] [] (fun h => c_X9_countWaysOf (bd_l Γ) (bd_D Γ) ε x1 S16 h) mw_451 mw_449 mw_450 mw_72 mw_36 (cX_o0 ε S16) rfl by_X9_countWaysOf ⟨rfl, rfl, by decide, by decide⟩ rfl rfl (Nat.le_of_ble_eq_true rfl) dX9_run_43 (fun r17 S18 eS18 => ?_)
    refine bs_aload_n hC 0 dX9_run_46 rfl rfl ?_
    refine bs_iload_n hC 1 dX9_run_47 rfl rfl ?_
    refine bs_iload_n hC 2 dX9_run_48 rfl rfl ?_
    refine bs_callV_i hC (rm := ({ frames := 2, cells := 0, slots := 0, locals := 43 } : Room)) [.int x1, .int x2] [] (fun h => c_X9_runStart (bd_l Γ) (bd_D Γ) ε x1 x2 S18 h) mw_458 mw_456 mw_457 mw_72 mw_37 (cX_o0 ε S18) rfl by_X9_runStart ⟨rfl, rfl, by decide, by decide⟩ rfl rfl (Nat.le_of_ble_eq_true rfl) dX9_run_49 (fun r19 S20 eS20 => ?_)
    refine bs_istore hC [(4, .int r19), (0, .ref (bd_a ε 0)), (1, .int x1), (2, .int x2), (3, .int x3)] dX9_run_52 (by decide) rfl ?_
    refine bs_iload hC 0 dX9_run_54 rfl ?_
    refine bs_bipush hC (-9 : Int32) dX9_run_56 rfl ?_
    refine bs_icmp_eq hC 65 dX9_run_58 (by decide) (fun c24 => ?_) (fun c24 => ?_)
    · refine bs_iload hC 0 dX9_run_65 rfl ?_
      exact bs_iret hC dX9_run_67 rfl
    refine bs_iload_n hC 4 dX9_run_61 rfl rfl ?_
    refine bs_if_ne hC 68 dX9_run_62 (by decide) (fun c23 => ?_) (fun c23 => ?_)
    · refine bs_iload hC 0 dX9_run_65 rfl ?_
      exact bs_iret hC dX9_run_67 rfl
    refine bs_aload_n hC 1 dX9_run_68 rfl rfl ?_
    refine bs_iload_n hC 2 dX9_run_69 rfl rfl ?_
    refine bs_iload hC 0 dX9_run_70 rfl ?_
    refine bs_callV_i hC (rm := ({ frames := 2, cells := 0, slots := 0, locals := 43 } : Room)) [.int x1, .int r19] [] (fun h => c_X9_runEnd (bd_l Γ) (bd_D Γ) ε x1 r19 S20 h) mw_461 mw_459 mw_460 mw_72 mw_38 (cX_o0 ε S20) rfl by_X9_runEnd ⟨rfl, rfl, by decide, by decide⟩ rfl rfl (Nat.le_of_ble_eq_true rfl) dX9_run_72 (fun r21 S22 eS22 => ?_)
    exact bs_iret hC dX9_run_75 rfl
  refine bs_aload_n hC 0 dX9_run_23 rfl rfl ?_
  refine bs_bipush hC (-2 : Int32) dX9_run_24 rfl ?_
  refine bs_callV_i hC (rm := ({ frames := 1, cells := 0, slots := 0, locals := 22 } : Room)) [.int (-2 : Int32)] [] (fun h => c_X9_refuse (bd_l Γ) (bd_D Γ) ε (-2 : Int32) S2 h) mw_234 mw_232 mw_233 mw_72 mw_0 (cX_o0 ε S2) rfl by_X9_refuse ⟨rfl, rfl, by decide, by decide⟩ rfl rfl (Nat.le_of_ble_eq_true rfl) dX9_run_26 (fun r25 S26 eS26 => ?_)
  exact bs_iret hC dX9_run_29 rfl
theorem c_X9_run (l : Launch) (D : va_G) (ε : bd_E) (x1 : Int32) (x2 : Int32) (x3 : Int32)  (S : bd_T) (h0 : (f_X9_run x1 x2 x3 S).isSome = true) : bd_Con l yX9_run (Cond.code yX9_run cX9_run 5 (some .int) :: bd_tbl) ({ frames := 6, cells := 0, slots := 0, locals := 149 } : Room) D ε (cX ε) bd_vi [.ref (bd_a ε 0), .int x1, .int x2, .int x3] S (f_X9_run x1 x2 x3 S) :=
  bd_con (by decide +kernel) (Nat.le_of_ble_eq_true rfl) ⟨rfl, rfl⟩ h0 (fun Γ _ _ hC => bs_eq bs_bs (b_X9_run hC x1 x2 x3 S))
set_option maxRecDepth 100000 in
set_option maxHeartbeats 4000000 in
theorem lb_X9_greatestDivisor_9 {Γ : bd_G} {ε : bd_E} {t0 : Option (Int64 × bd_T)} (hC : bd_C Γ cX9_greatestDivisor 11 RX9 (some .long) ({ frames := 0, cells := 0, slots := 0, locals := 0 } : Room) ε (cX ε) bd_vl t0)  {K : (Int64 × Int64 × Int32 × bd_T) ⊕ (Int64 × bd_T) → Option (Int64 × bd_T)} (hk : ∀ (x4 : Int64) (x6 : Int64) (x8 : Int32) (S : bd_T), bd_S Γ 11 t0 (K (.inl (x4, x6, x8, S))) (cX ε S) 9 [(4, .long x4), (6, .long x6), (8, .int x8)] []) (hx : ∀ (y4 : Int64) (S : bd_T), bd_S Γ 11 t0 (K (.inr (y4, S))) (cX ε S) 44 [(4, .long y4)] []) (x4 : Int64) (x6 : Int64) (x8 : Int32) (S : bd_T) : bd_S Γ 11 t0 ((fb_X9_greatestDivisor_9 x4 x6 x8 S).bind K) (cX ε S) 9 [(4, .long x4), (6, .long x6), (8, .int x8)] [] := by
  unfold fb_X9_greatestDivisor_9
  refine bs_iload hC 2 dX9_greatestDivisor_9 rfl ?_
  refine bs_bipush hC (100 : Int32) dX9_greatestDivisor_11 rfl ?_
  refine bs_icmp_ge hC 44 dX9_greatestDivisor_13 (by decide) (fun c3 => ?_) (fun c3 => ?_)
  · refine bs_some ?_
    refine bs_pick [0] rfl ?_
    exact hx x4 S
  refine bs_lload hC 1 dX9_greatestDivisor_16 rfl ?_
  refine bs_lconst hC (0 : Int64) dX9_greatestDivisor_18 rfl ?_
  refine bs_lif_eq hC 44 dX9_greatestDivisor_19 dX9_greatestDivisor_20 (by decide) (fun c2 => ?_) (fun c2 => ?_)
  · refine bs_some ?_
    refine bs_pick [0] rfl ?_
    exact hx x4 S
  refine bs_lload hC 0 dX9_greatestDivisor_23 rfl ?_
  refine bs_lload hC 1 dX9_greatestDivisor_25 rfl ?_
  refine bs_lrem hC dX9_greatestDivisor_27 (fun z1 ez1 => ?_)
  refine bs_lstore hC [(9, .long z1), (4, .long x4), (6, .long x6), (8, .int x8)] dX9_greatestDivisor_28 (by decide) rfl ?_
  refine bs_lload hC 2 dX9_greatestDivisor_30 rfl ?_
  refine bs_lstore hC [(4, .long x6), (9, .long z1), (6, .long x6), (8, .int x8)] dX9_greatestDivisor_32 (by decide) rfl ?_
  refine bs_lload hC 1 dX9_greatestDivisor_34 rfl ?_
  refine bs_lstore hC [(6, .long z1), (4, .long x6), (9, .long z1), (8, .int x8)] dX9_greatestDivisor_36 (by decide) rfl ?_
  refine bs_iinc hC 3 [(8, .int (x8 + 1)), (6, .long z1), (4, .long x6), (9, .long z1)] dX9_greatestDivisor_38 rfl rfl (by decide) rfl ?_
  refine bs_goto hC 9 dX9_greatestDivisor_41 (by decide) ?_
  refine bs_some ?_
  refine bs_pick [2, 1, 0] rfl ?_
  exact hk x6 z1 (x8 + 1) S
set_option maxRecDepth 100000 in
set_option maxHeartbeats 4000000 in
theorem b_X9_greatestDivisor {Γ : bd_G} {ε : bd_E} {t0 : Option (Int64 × bd_T)} (hC : bd_C Γ cX9_greatestDivisor 11 RX9 (some .long) ({ frames := 0, cells := 0, slots := 0, locals := 0 } : Room) ε (cX ε) bd_vl t0) (x0 : Int64) (x2 : Int64)  (S : bd_T) : bd_S Γ 11 t0 ((f_X9_greatestDivisor x0 x2 S).bind some) (cX ε S) 0 [(0, .long x0), (2, .long x2)] [] := by
  unfold f_X9_greatestDivisor
  refine bs_lload_n hC 0 dX9_greatestDivisor_0 rfl rfl ?_
  refine bs_lstore hC [(4, .long x0), (0, .long x0), (2, .long x2)] dX9_greatestDivisor_1 (by decide) rfl ?_
  refine bs_lload_n hC 2 dX9_greatestDivisor_3 rfl rfl ?_
  refine bs_lstore hC [(6, .long x2), (4, .long x0), (0, .long x0), (2, .long x2)] dX9_greatestDivisor_4 (by decide) rfl ?_
  refine bs_iconst hC (0 : Int32) dX9_greatestDivisor_6 rfl ?_
  refine bs_istore hC [(8, .int (0 : Int32)), (6, .long x2), (4, .long x0), (0, .long x0), (2, .long x2)] dX9_greatestDivisor_7 (by decide) rfl ?_
  refine bs_pick [2, 1, 0] rfl ?_
  refine bs_loopK (fun (q : Int64 × Int64 × Int32 × bd_T) t => bd_S Γ 11 t0 t (cX ε (q.2.2.2)) 9 [(4, .long (q.1)), (6, .long (q.2.1)), (8, .int (q.2.2.1))] []) (fun (q : Int64 × bd_T) t => bd_S Γ 11 t0 t (cX ε (q.2)) 44 [(4, .long (q.1))] []) (fun q => fb_X9_greatestDivisor_9 q.1 q.2.1 q.2.2.1 q.2.2.2) (fun _ => bs_none) (fun K hk hx q => lb_X9_greatestDivisor_9 hC    (fun a0 a1 a2 S => hk (a0, a1, a2, S)) (fun b0 S => hx (b0, S))  (q.1) (q.2.1) (q.2.2.1) (q.2.2.2)) (fun r => ?_) bd_K (x0, x2, (0 : Int32), S)
  obtain ⟨y4, S5⟩ := r
  show bd_S Γ 11 t0 (Option.bind _ _) (cX ε S5) 44 [(4, .long y4)] []
  try dsimp only
  refine bs_lload hC 0 dX9_greatestDivisor_44 rfl ?_
  exact bs_lret hC dX9_greatestDivisor_46 rfl
theorem c_X9_greatestDivisor (l : Launch) (D : va_G) (ε : bd_E) (x0 : Int64) (x2 : Int64)  (S : bd_T) (h0 : (f_X9_greatestDivisor x0 x2 S).isSome = true) : bd_Con l yX9_greatestDivisor (Cond.code yX9_greatestDivisor cX9_greatestDivisor 11 (some .long) :: bd_tbl) ({ frames := 0, cells := 0, slots := 0, locals := 0 } : Room) D ε (cX ε) bd_vl [.long x0, .long x2] S (f_X9_greatestDivisor x0 x2 S) :=
  bd_con (by decide +kernel) (Nat.le_of_ble_eq_true rfl) ⟨rfl, rfl⟩ h0 (fun Γ _ _ hC => bs_eq bs_bs (b_X9_greatestDivisor hC x0 x2 S))
set_option maxRecDepth 100000 in
set_option maxHeartbeats 4000000 in
theorem b_X9_chance {Γ : bd_G} {ε : bd_E} {t0 : Option (Int64 × bd_T)} (hC : bd_C Γ cX9_chance 11 RX9 (some .long) ({ frames := 6, cells := 0, slots := 0, locals := 149 } : Room) ε (cX ε) bd_vl t0) (x1 : Int32) (x2 : Int32) (x3 : Int32)  (S : bd_T) : bd_S Γ 11 t0 ((f_X9_chance x1 x2 x3 S).bind some) (cX ε S) 0 [(0, .ref (bd_a ε 0)), (1, .int x1), (2, .int x2), (3, .int x3)] [] := by
  unfold f_X9_chance
  refine bs_aload_n hC 0 dX9_chance_0 rfl rfl ?_
  refine bs_iload_n hC 1 dX9_chance_1 rfl rfl ?_
  refine bs_callV_i hC (rm := ({ frames := 0, cells := 0, slots := 0, locals := 0 } : Room)) [.int x1] [] (fun h => c_X9_isThing (bd_l Γ) (bd_D Γ) ε x1 S h) mw_269 mw_267 mw_268 mw_72 mw_7 (cX_o0 ε S) rfl by_X9_isThing ⟨rfl, rfl, by decide, by decide⟩ rfl rfl (Nat.le_of_ble_eq_true rfl) dX9_chance_2 (fun r1 S2 eS2 => ?_)
  refine bs_if_ne hC 15 dX9_chance_5 (by decide) (fun c47 => ?_) (fun c47 => ?_)
  · refine bs_aload_n hC 0 dX9_chance_8 rfl rfl ?_
    refine bs_iconst hC (-1 : Int32) dX9_chance_9 rfl ?_
    refine bs_callV_i hC (rm := ({ frames := 1, cells := 0, slots := 0, locals := 22 } : Room)) [.int (-1 : Int32)] [] (fun h => c_X9_refuse (bd_l Γ) (bd_D Γ) ε (-1 : Int32) S2 h) mw_234 mw_232 mw_233 mw_72 mw_0 (cX_o0 ε S2) rfl by_X9_refuse ⟨rfl, rfl, by decide, by decide⟩ rfl rfl (Nat.le_of_ble_eq_true rfl) dX9_chance_10 (fun r3 S4 eS4 => ?_)
    refine bs_i2l hC dX9_chance_13 ?_
    exact bs_lret hC dX9_chance_14 rfl
  refine bs_iload_n hC 3 dX9_chance_15 rfl rfl ?_
  refine bs_if_eq hC 32 dX9_chance_16 (by decide) (fun c46 => ?_) (fun c46 => ?_)
  · refine bs_iload_n hC 2 dX9_chance_32 rfl rfl ?_
    refine bs_callS_i hC (rm := ({ frames := 0, cells := 0, slots := 0, locals := 0 } : Room)) [.int x2] [] (fun h => c_X9_wrongMinute (bd_l Γ) (bd_D Γ) ε x2 S2 h) mw_333 mw_331 mw_332 mw_72 by_X9_wrongMinute ⟨rfl, rfl, by decide, by decide⟩ rfl rfl (Nat.le_of_ble_eq_true rfl) dX9_chance_33 (fun r5 S6 eS6 => ?_)
    refine bs_istore hC [(4, .int r5), (0, .ref (bd_a ε 0)), (1, .int x1), (2, .int x2), (3, .int x3)] dX9_chance_36 (by decide) rfl ?_
    refine bs_iload hC 0 dX9_chance_38 rfl ?_
    refine bs_if_ge hC 51 dX9_chance_40 (by decide) (fun c23 => ?_) (fun c23 => ?_)
    · refine bs_aload_n hC 1 dX9_chance_51 rfl rfl ?_
      refine bs_get hC (v := .ref (bd_a ε 4)) hin_X9 0 (cX_o0 ε S6) rfl 7 (by decide) mw_213 rfl dX9_chance_52 ?_
      refine bs_aload_n hC 1 dX9_chance_55 rfl rfl ?_
      refine bs_get hC (v := .ref (bd_a ε 1)) hin_X9 0 (cX_o0 ε S6) rfl 0 (by decide) mw_206 rfl dX9_chance_56 ?_
      refine bs_callVN_v hC (rm := ({ frames := 5, cells := 0, slots := 0, locals := 127 } : Room)) [.ref (bd_a ε 1)] [] (fun h => c_X0_learn (bd_l Γ) (bd_D Γ) ε S6 h) mw_339 nm_27 mw_338 mw_77 mw_19 (cX_o4 ε S6) rfl by_X0_learn ⟨rfl, rfl, by decide, by decide⟩ rfl rfl (Nat.le_of_ble_eq_true rfl) dX9_chance_59 (fun r7 S8 eS8 => ?_)
      refine bs_aload_n hC 1 dX9_chance_62 rfl rfl ?_
      refine bs_iload_n hC 2 dX9_chance_63 rfl rfl ?_
      refine bs_callV_v hC (rm := ({ frames := 5, cells := 0, slots := 0, locals := 121 } : Room)) [.int x1] [] (fun h => c_X9_countWaysOf (bd_l Γ) (bd_D Γ) ε x1 S8 h) mw_451 mw_449 mw_450 mw_72 mw_36 (cX_o0 ε S8) rfl by_X9_countWaysOf ⟨rfl, rfl, by decide, by decide⟩ rfl rfl (Nat.le_of_ble_eq_true rfl) dX9_chance_64 (fun r9 S10 eS10 => ?_)
      refine bs_aload_n hC 1 dX9_chance_67 rfl rfl ?_
      refine bs_get hC (v := .ref (bd_a ε 5)) hin_X9 0 (cX_o0 ε S10) rfl 8 (by decide) mw_214 rfl dX9_chance_68 ?_
      refine bs_iload_n hC 2 dX9_chance_71 rfl rfl ?_
      refine bs_iload_n hC 3 dX9_chance_72 rfl rfl ?_
      refine bs_callVN_l hC (rm := ({ frames := 1, cells := 0, slots := 0, locals := 21 } : Room)) [.int x1, .int x2] [] (fun h => c_X2_value (bd_l Γ) (bd_D Γ) ε x1 x2 S10 h) mw_428 nm_46 mw_427 mw_78 mw_33 (cX_o5 ε S10) rfl by_X2_value ⟨rfl, rfl, by decide, by decide⟩ rfl rfl (Nat.le_of_ble_eq_true rfl) dX9_chance_73 (fun r11 S12 eS12 => ?_)
      refine bs_lstore hC [(5, .long r11), (4, .int r5), (0, .ref (bd_a ε 0)), (1, .int x1), (2, .int x2), (3, .int x3)] dX9_chance_76 (by decide) rfl ?_
      refine bs_aload_n hC 2 dX9_chance_78 rfl rfl ?_
      refine bs_get hC (v := .ref (bd_a ε 5)) hin_X9 0 (cX_o0 ε S12) rfl 8 (by decide) mw_214 rfl dX9_chance_79 ?_
      refine bs_iload_n hC 3 dX9_chance_82 rfl rfl ?_
      refine bs_aload_n hC 2 dX9_chance_83 rfl rfl ?_
      refine bs_get hC (v := .ref (bd_a ε 6)) hin_X9 0 (cX_o0 ε S12) rfl 9 (by decide) mw_215 rfl dX9_chance_84 ?_
      refine bs_callVN_l hC (rm := ({ frames := 2, cells := 0, slots := 0, locals := 48 } : Room)) [.int x1, .ref (bd_a ε 6)] [] (fun h => c_X2_together (bd_l Γ) (bd_D Γ) ε x1 S12 h) mw_443 nm_45 mw_442 mw_78 mw_35 (cX_o5 ε S12) rfl by_X2_together ⟨rfl, rfl, by decide, by decide⟩ rfl rfl (Nat.le_of_ble_eq_true rfl) dX9_chance_87 (fun r13 S14 eS14 => ?_)
      refine bs_lstore hC [(7, .long r13), (5, .long r11), (4, .int r5), (0, .ref (bd_a ε 0)), (1, .int x1), (2, .int x2), (3, .int x3)] dX9_chance_90 (by decide) rfl ?_
      refine bs_lload hC 0 dX9_chance_92 rfl ?_
      refine bs_lload hC 1 dX9_chance_94 rfl ?_
      refine bs_callS_l hC (rm := ({ frames := 0, cells := 0, slots := 0, locals := 0 } : Room)) [.long r13, .long r11] [] (fun h => c_X9_greatestDivisor (bd_l Γ) (bd_D Γ) ε r13 r11 S14 h) mw_468 mw_466 mw_467 mw_72 by_X9_greatestDivisor ⟨rfl, rfl, by decide, by decide⟩ rfl rfl (Nat.le_of_ble_eq_true rfl) dX9_chance_96 (fun r15 S16 eS16 => ?_)
      refine bs_lstore hC [(9, .long r15), (7, .long r13), (5, .long r11), (4, .int r5), (0, .ref (bd_a ε 0)), (1, .int x1), (2, .int x2), (3, .int x3)] dX9_chance_99 (by decide) rfl ?_
      refine bs_lload hC 0 dX9_chance_101 rfl ?_
      refine bs_lconst hC (0 : Int64) dX9_chance_103 rfl ?_
      refine bs_lif_ne hC 111 dX9_chance_104 dX9_chance_105 (by decide) (fun c20 => ?_) (fun c20 => ?_)
      · refine bs_iload_n hC 7 dX9_chance_108 rfl rfl ?_
        refine bs_i2l hC dX9_chance_109 ?_
        exact bs_lret hC dX9_chance_110 rfl
      refine bs_iload_n hC 7 dX9_chance_111 rfl rfl ?_
      refine bs_if_ne hC 120 dX9_chance_112 (by decide) (fun c19 => ?_) (fun c19 => ?_)
      · refine bs_lload hC 2 dX9_chance_115 rfl ?_
        refine bs_goto hC 122 dX9_chance_117 (by decide) ?_
        refine bs_lload hC 0 dX9_chance_122 rfl ?_
        refine bs_ldiv hC dX9_chance_124 (fun z17 ez17 => ?_)
        exact bs_lret hC dX9_chance_125 rfl
      refine bs_lload hC 1 dX9_chance_120 rfl ?_
      refine bs_lload hC 0 dX9_chance_122 rfl ?_
      refine bs_ldiv hC dX9_chance_124 (fun z18 ez18 => ?_)
      exact bs_lret hC dX9_chance_125 rfl
    refine bs_aload_n hC 1 dX9_chance_43 rfl rfl ?_
    refine bs_iload hC 0 dX9_chance_44 rfl ?_
    refine bs_callV_i hC (rm := ({ frames := 1, cells := 0, slots := 0, locals := 22 } : Room)) [.int r5] [] (fun h => c_X9_refuse (bd_l Γ) (bd_D Γ) ε r5 S6 h) mw_234 mw_232 mw_233 mw_72 mw_0 (cX_o0 ε S6) rfl by_X9_refuse ⟨rfl, rfl, by decide, by decide⟩ rfl rfl (Nat.le_of_ble_eq_true rfl) dX9_chance_46 (fun r21 S22 eS22 => ?_)
    refine bs_i2l hC dX9_chance_49 ?_
    exact bs_lret hC dX9_chance_50 rfl
  refine bs_iload_n hC 3 dX9_chance_19 rfl rfl ?_
  refine bs_iconst hC (1 : Int32) dX9_chance_20 rfl ?_
  refine bs_icmp_eq hC 32 dX9_chance_21 (by decide) (fun c45 => ?_) (fun c45 => ?_)
  · refine bs_iload_n hC 2 dX9_chance_32 rfl rfl ?_
    refine bs_callS_i hC (rm := ({ frames := 0, cells := 0, slots := 0, locals := 0 } : Room)) [.int x2] [] (fun h => c_X9_wrongMinute (bd_l Γ) (bd_D Γ) ε x2 S2 h) mw_333 mw_331 mw_332 mw_72 by_X9_wrongMinute ⟨rfl, rfl, by decide, by decide⟩ rfl rfl (Nat.le_of_ble_eq_true rfl) dX9_chance_33 (fun r24 S25 eS25 => ?_)
    refine bs_istore hC [(4, .int r24), (0, .ref (bd_a ε 0)), (1, .int x1), (2, .int x2), (3, .int x3)] dX9_chance_36 (by decide) rfl ?_
    refine bs_iload hC 0 dX9_chance_38 rfl ?_
    refine bs_if_ge hC 51 dX9_chance_40 (by decide) (fun c42 => ?_) (fun c42 => ?_)
    · refine bs_aload_n hC 1 dX9_chance_51 rfl rfl ?_
      refine bs_get hC (v := .ref (bd_a ε 4)) hin_X9 0 (cX_o0 ε S25) rfl 7 (by decide) mw_213 rfl dX9_chance_52 ?_
      refine bs_aload_n hC 1 dX9_chance_55 rfl rfl ?_
      refine bs_get hC (v := .ref (bd_a ε 1)) hin_X9 0 (cX_o0 ε S25) rfl 0 (by decide) mw_206 rfl dX9_chance_56 ?_
      refine bs_callVN_v hC (rm := ({ frames := 5, cells := 0, slots := 0, locals := 127 } : Room)) [.ref (bd_a ε 1)] [] (fun h => c_X0_learn (bd_l Γ) (bd_D Γ) ε S25 h) mw_339 nm_27 mw_338 mw_77 mw_19 (cX_o4 ε S25) rfl by_X0_learn ⟨rfl, rfl, by decide, by decide⟩ rfl rfl (Nat.le_of_ble_eq_true rfl) dX9_chance_59 (fun r26 S27 eS27 => ?_)
      refine bs_aload_n hC 1 dX9_chance_62 rfl rfl ?_
      refine bs_iload_n hC 2 dX9_chance_63 rfl rfl ?_
      refine bs_callV_v hC (rm := ({ frames := 5, cells := 0, slots := 0, locals := 121 } : Room)) [.int x1] [] (fun h => c_X9_countWaysOf (bd_l Γ) (bd_D Γ) ε x1 S27 h) mw_451 mw_449 mw_450 mw_72 mw_36 (cX_o0 ε S27) rfl by_X9_countWaysOf ⟨rfl, rfl, by decide, by decide⟩ rfl rfl (Nat.le_of_ble_eq_true rfl) dX9_chance_64 (fun r28 S29 eS29 => ?_)
      refine bs_aload_n hC 1 dX9_chance_67 rfl rfl ?_
      refine bs_get hC (v := .ref (bd_a ε 5)) hin_X9 0 (cX_o0 ε S29) rfl 8 (by decide) mw_214 rfl dX9_chance_68 ?_
      refine bs_iload_n hC 2 dX9_chance_71 rfl rfl ?_
      refine bs_iload_n hC 3 dX9_chance_72 rfl rfl ?_
      refine bs_callVN_l hC (rm := ({ frames := 1, cells := 0, slots := 0, locals := 21 } : Room)) [.int x1, .int x2] [] (fun h => c_X2_value (bd_l Γ) (bd_D Γ) ε x1 x2 S29 h) mw_428 nm_46 mw_427 mw_78 mw_33 (cX_o5 ε S29) rfl by_X2_value ⟨rfl, rfl, by decide, by decide⟩ rfl rfl (Nat.le_of_ble_eq_true rfl) dX9_chance_73 (fun r30 S31 eS31 => ?_)
      refine bs_lstore hC [(5, .long r30), (4, .int r24), (0, .ref (bd_a ε 0)), (1, .int x1), (2, .int x2), (3, .int x3)] dX9_chance_76 (by decide) rfl ?_
      refine bs_aload_n hC 2 dX9_chance_78 rfl rfl ?_
      refine bs_get hC (v := .ref (bd_a ε 5)) hin_X9 0 (cX_o0 ε S31) rfl 8 (by decide) mw_214 rfl dX9_chance_79 ?_
      refine bs_iload_n hC 3 dX9_chance_82 rfl rfl ?_
      refine bs_aload_n hC 2 dX9_chance_83 rfl rfl ?_
      refine bs_get hC (v := .ref (bd_a ε 6)) hin_X9 0 (cX_o0 ε S31) rfl 9 (by decide) mw_215 rfl dX9_chance_84 ?_
      refine bs_callVN_l hC (rm := ({ frames := 2, cells := 0, slots := 0, locals := 48 } : Room)) [.int x1, .ref (bd_a ε 6)] [] (fun h => c_X2_together (bd_l Γ) (bd_D Γ) ε x1 S31 h) mw_443 nm_45 mw_442 mw_78 mw_35 (cX_o5 ε S31) rfl by_X2_together ⟨rfl, rfl, by decide, by decide⟩ rfl rfl (Nat.le_of_ble_eq_true rfl) dX9_chance_87 (fun r32 S33 eS33 => ?_)
      refine bs_lstore hC [(7, .long r32), (5, .long r30), (4, .int r24), (0, .ref (bd_a ε 0)), (1, .int x1), (2, .int x2), (3, .int x3)] dX9_chance_90 (by decide) rfl ?_
      refine bs_lload hC 0 dX9_chance_92 rfl ?_
      refine bs_lload hC 1 dX9_chance_94 rfl ?_
      refine bs_callS_l hC (rm := ({ frames := 0, cells := 0, slots := 0, locals := 0 } : Room)) [.long r32, .long r30] [] (fun h => c_X9_greatestDivisor (bd_l Γ) (bd_D Γ) ε r32 r30 S33 h) mw_468 mw_466 mw_467 mw_72 by_X9_greatestDivisor ⟨rfl, rfl, by decide, by decide⟩ rfl rfl (Nat.le_of_ble_eq_true rfl) dX9_chance_96 (fun r34 S35 eS35 => ?_)
      refine bs_lstore hC [(9, .long r34), (7, .long r32), (5, .long r30), (4, .int r24), (0, .ref (bd_a ε 0)), (1, .int x1), (2, .int x2), (3, .int x3)] dX9_chance_99 (by decide) rfl ?_
      refine bs_lload hC 0 dX9_chance_101 rfl ?_
      refine bs_lconst hC (0 : Int64) dX9_chance_103 rfl ?_
      refine bs_lif_ne hC 111 dX9_chance_104 dX9_chance_105 (by decide) (fun c39 => ?_) (fun c39 => ?_)
      · refine bs_iload_n hC 7 dX9_chance_108 rfl rfl ?_
        refine bs_i2l hC dX9_chance_109 ?_
        exact bs_lret hC dX9_chance_110 rfl
      refine bs_iload_n hC 7 dX9_chance_111 rfl rfl ?_
      refine bs_if_ne hC 120 dX9_chance_112 (by decide) (fun c38 => ?_) (fun c38 => ?_)
      · refine bs_lload hC 2 dX9_chance_115 rfl ?_
        refine bs_goto hC 122 dX9_chance_117 (by decide) ?_
        refine bs_lload hC 0 dX9_chance_122 rfl ?_
        refine bs_ldiv hC dX9_chance_124 (fun z36 ez36 => ?_)
        exact bs_lret hC dX9_chance_125 rfl
      refine bs_lload hC 1 dX9_chance_120 rfl ?_
      refine bs_lload hC 0 dX9_chance_122 rfl ?_
      refine bs_ldiv hC dX9_chance_124 (fun z37 ez37 => ?_)
      exact bs_lret hC dX9_chance_125 rfl
    refine bs_aload_n hC 1 dX9_chance_43 rfl rfl ?_
    refine bs_iload hC 0 dX9_chance_44 rfl ?_
    refine bs_callV_i hC (rm := ({ frames := 1, cells := 0, slots := 0, locals := 22 } : Room)) [.int r24] [] (fun h => c_X9_refuse (bd_l Γ) (bd_D Γ) ε r24 S25 h) mw_234 mw_232 mw_233 mw_72 mw_0 (cX_o0 ε S25) rfl by_X9_refuse ⟨rfl, rfl, by decide, by decide⟩ rfl rfl (Nat.le_of_ble_eq_true rfl) dX9_chance_46 (fun r40 S41 eS41 => ?_)
    refine bs_i2l hC dX9_chance_49 ?_
    exact bs_lret hC dX9_chance_50 rfl
  refine bs_aload_n hC 0 dX9_chance_24 rfl rfl ?_
  refine bs_bipush hC (-2 : Int32) dX9_chance_25 rfl ?_
  refine bs_callV_i hC (rm := ({ frames := 1, cells := 0, slots := 0, locals := 22 } : Room)) [.int (-2 : Int32)] [] (fun h => c_X9_refuse (bd_l Γ) (bd_D Γ) ε (-2 : Int32) S2 h) mw_234 mw_232 mw_233 mw_72 mw_0 (cX_o0 ε S2) rfl by_X9_refuse ⟨rfl, rfl, by decide, by decide⟩ rfl rfl (Nat.le_of_ble_eq_true rfl) dX9_chance_27 (fun r43 S44 eS44 => ?_)
  refine bs_i2l hC dX9_chance_30 ?_
  exact bs_lret hC dX9_chance_31 rfl
theorem c_X9_chance (l : Launch) (D : va_G) (ε : bd_E) (x1 : Int32) (x2 : Int32) (x3 : Int32)  (S : bd_T) (h0 : (f_X9_chance x1 x2 x3 S).isSome = true) : bd_Con l yX9_chance (Cond.code yX9_chance cX9_chance 11 (some .long) :: bd_tbl) ({ frames := 6, cells := 0, slots := 0, locals := 149 } : Room) D ε (cX ε) bd_vl [.ref (bd_a ε 0), .int x1, .int x2, .int x3] S (f_X9_chance x1 x2 x3 S) :=
  bd_con (by decide +kernel) (Nat.le_of_ble_eq_true rfl) ⟨rfl, rfl⟩ h0 (fun Γ _ _ hC => bs_eq bs_bs (b_X9_chance hC x1 x2 x3 S))
set_option maxRecDepth 100000 in
set_option maxHeartbeats 4000000 in
theorem b_X9_put {Γ : bd_G} {ε : bd_E} {t0 : Option (Int32 × bd_T)} (hC : bd_C Γ cX9_put 3 RX9 (some .int) ({ frames := 2, cells := 0, slots := 0, locals := 43 } : Room) ε (cX ε) bd_vi t0) (x1 : Int32)  (S : bd_T) : bd_S Γ 3 t0 ((f_X9_put x1 S).bind some) (cX ε S) 0 [(0, .ref (bd_a ε 0)), (1, .int x1)] [] := by
  unfold f_X9_put
  refine bs_iload_n hC 1 dX9_put_0 rfl rfl ?_
  refine bs_callS_i hC (rm := ({ frames := 0, cells := 0, slots := 0, locals := 0 } : Room)) [.int x1] [] (fun h => c_X9_wrongMinute (bd_l Γ) (bd_D Γ) ε x1 S h) mw_333 mw_331 mw_332 mw_72 by_X9_wrongMinute ⟨rfl, rfl, by decide, by decide⟩ rfl rfl (Nat.le_of_ble_eq_true rfl) dX9_put_1 (fun r1 S2 eS2 => ?_)
  refine bs_istore_n hC [(2, .int r1), (0, .ref (bd_a ε 0)), (1, .int x1)] dX9_put_4 rfl (by decide) rfl ?_
  refine bs_iload_n hC 0 dX9_put_5 rfl rfl ?_
  refine bs_if_ge hC 15 dX9_put_6 (by decide) (fun c11 => ?_) (fun c11 => ?_)
  · refine bs_aload_n hC 1 dX9_put_15 rfl rfl ?_
    refine bs_get hC (v := .int (bd_I S2 1)) hin_X9 0 (cX_o0 ε S2) rfl 5 (by decide) mw_211 rfl dX9_put_16 ?_
    refine bs_bipush hC (6 : Int32) dX9_put_19 rfl ?_
    refine bs_icmp_lt hC 31 dX9_put_21 (by decide) (fun c8 => ?_) (fun c8 => ?_)
    · refine bs_aload_n hC 1 dX9_put_31 rfl rfl ?_
      refine bs_get hC (v := .ref (bd_a ε (12 + 0))) hin_X9 0 (cX_o0 ε S2) rfl 4 (by decide) mw_210 rfl dX9_put_32 ?_
      refine bs_aload_n hC 1 dX9_put_35 rfl rfl ?_
      refine bs_get hC (v := .int (bd_I S2 1)) hin_X9 0 (cX_o0 ε S2) rfl 5 (by decide) mw_211 rfl dX9_put_36 ?_
      refine bs_iload_n hC 2 dX9_put_39 rfl rfl ?_
      refine bs_callS_v hC (rm := ({ frames := 0, cells := 0, slots := 0, locals := 0 } : Room)) [.ref (bd_a ε (12 + 0)), .int (bd_I S2 1), .int x1] [] (fun h => c_X9_lay (bd_l Γ) (bd_D Γ) ε 0 (bd_I S2 1) x1 (by decide) S2 h) mw_240 mw_238 mw_239 mw_72 by_X9_lay ⟨rfl, rfl, by decide, by decide⟩ rfl rfl (Nat.le_of_ble_eq_true rfl) dX9_put_40 (fun r3 S4 eS4 => ?_)
      refine bs_aload_n hC 1 dX9_put_43 rfl rfl ?_
      refine bs_dup hC dX9_put_44 rfl ?_
      refine bs_get hC (v := .int (bd_I S4 1)) hin_X9 0 (cX_o0 ε S4) rfl 5 (by decide) mw_211 rfl dX9_put_45 ?_
      refine bs_iconst hC (1 : Int32) dX9_put_48 rfl ?_
      refine bs_iadd hC dX9_put_49 ?_
      refine bs_put hC (kk := 1) hin_X9 tyX9 tyX9_ok nmX9 0 (cX_o0 ε S4) rfl 5 (by decide) mw_211 rfl rfl rfl (Nat.le_of_ble_eq_true rfl) (cX_p1 ε S4 _) dX9_put_50 (fun S5 eS5 => ?_)
      refine bs_aload_n hC 1 dX9_put_53 rfl rfl ?_
      refine bs_get hC (v := .int (bd_I S5 1)) hin_X9 0 (cX_o0 ε S5) rfl 5 (by decide) mw_211 rfl dX9_put_54 ?_
      exact bs_iret hC dX9_put_57 rfl
    refine bs_aload_n hC 1 dX9_put_24 rfl rfl ?_
    refine bs_bipush hC (-6 : Int32) dX9_put_25 rfl ?_
    refine bs_callV_i hC (rm := ({ frames := 1, cells := 0, slots := 0, locals := 22 } : Room)) [.int (-6 : Int32)] [] (fun h => c_X9_refuse (bd_l Γ) (bd_D Γ) ε (-6 : Int32) S2 h) mw_234 mw_232 mw_233 mw_72 mw_0 (cX_o0 ε S2) rfl by_X9_refuse ⟨rfl, rfl, by decide, by decide⟩ rfl rfl (Nat.le_of_ble_eq_true rfl) dX9_put_27 (fun r6 S7 eS7 => ?_)
    exact bs_iret hC dX9_put_30 rfl
  refine bs_aload_n hC 1 dX9_put_9 rfl rfl ?_
  refine bs_iload_n hC 0 dX9_put_10 rfl rfl ?_
  refine bs_callV_i hC (rm := ({ frames := 1, cells := 0, slots := 0, locals := 22 } : Room)) [.int r1] [] (fun h => c_X9_refuse (bd_l Γ) (bd_D Γ) ε r1 S2 h) mw_234 mw_232 mw_233 mw_72 mw_0 (cX_o0 ε S2) rfl by_X9_refuse ⟨rfl, rfl, by decide, by decide⟩ rfl rfl (Nat.le_of_ble_eq_true rfl) dX9_put_11 (fun r9 S10 eS10 => ?_)
  exact bs_iret hC dX9_put_14 rfl
theorem c_X9_put (l : Launch) (D : va_G) (ε : bd_E) (x1 : Int32)  (S : bd_T) (h0 : (f_X9_put x1 S).isSome = true) : bd_Con l yX9_put (Cond.code yX9_put cX9_put 3 (some .int) :: bd_tbl) ({ frames := 2, cells := 0, slots := 0, locals := 43 } : Room) D ε (cX ε) bd_vi [.ref (bd_a ε 0), .int x1] S (f_X9_put x1 S) :=
  bd_con (by decide +kernel) (Nat.le_of_ble_eq_true rfl) ⟨rfl, rfl⟩ h0 (fun Γ _ _ hC => bs_eq bs_bs (b_X9_put hC x1 S))
set_option maxRecDepth 100000 in
set_option maxHeartbeats 4000000 in
theorem b_J6_numberOfTrailingZeros_0f7a4 {Γ : bd_G} {ε : bd_E} {t0 : Option (Int32 × bd_T)} (hC : bd_C Γ cJ6_numberOfTrailingZeros_0f7a4 2 RJ6 (some .int) ({ frames := 0, cells := 0, slots := 0, locals := 0 } : Room) ε (cX ε) bd_vi t0) (x0 : Int32)  (S : bd_T) : bd_S Γ 2 t0 ((f_J6_numberOfTrailingZeros_0f7a4 x0 S).bind some) (cX ε S) 0 [(0, .int x0)] [] := by
  unfold f_J6_numberOfTrailingZeros_0f7a4
  refine bs_iload_n hC 0 dJ6_numberOfTrailingZeros_0f7a4_0 rfl rfl ?_
  refine bs_iconst hC (-1 : Int32) dJ6_numberOfTrailingZeros_0f7a4_1 rfl ?_
  refine bs_ixor hC dJ6_numberOfTrailingZeros_0f7a4_2 ?_
  refine bs_iload_n hC 0 dJ6_numberOfTrailingZeros_0f7a4_3 rfl rfl ?_
  refine bs_iconst hC (1 : Int32) dJ6_numberOfTrailingZeros_0f7a4_4 rfl ?_
  refine bs_isub hC dJ6_numberOfTrailingZeros_0f7a4_5 ?_
  refine bs_iand hC dJ6_numberOfTrailingZeros_0f7a4_6 ?_
  refine bs_leti (fun z1 ez1 => ?_)
  refine bs_istore_n hC [(0, .int z1)] dJ6_numberOfTrailingZeros_0f7a4_7 rfl (by decide) rfl ?_
  refine bs_iload_n hC 0 dJ6_numberOfTrailingZeros_0f7a4_8 rfl rfl ?_
  refine bs_if_gt hC 17 dJ6_numberOfTrailingZeros_0f7a4_9 (by decide) (fun c32 => ?_) (fun c32 => ?_)
  · refine bs_iconst hC (1 : Int32) dJ6_numberOfTrailingZeros_0f7a4_17 rfl ?_
    refine bs_istore_n hC [(1, .int (1 : Int32)), (0, .int z1)] dJ6_numberOfTrailingZeros_0f7a4_18 rfl (by decide) rfl ?_
    refine bs_iload_n hC 1 dJ6_numberOfTrailingZeros_0f7a4_19 rfl rfl ?_
    refine bs_ldcw hC (65536 : Int32) mw_425 dJ6_numberOfTrailingZeros_0f7a4_20 ?_
    refine bs_icmp_le hC 34 dJ6_numberOfTrailingZeros_0f7a4_23 (by decide) (fun c31 => ?_) (fun c31 => ?_)
    · refine bs_iload_n hC 1 dJ6_numberOfTrailingZeros_0f7a4_34 rfl rfl ?_
      refine bs_sipush hC (256 : Int32) dJ6_numberOfTrailingZeros_0f7a4_35 rfl ?_
      refine bs_icmp_le hC 49 dJ6_numberOfTrailingZeros_0f7a4_38 (by decide) (fun c15 => ?_) (fun c15 => ?_)
      · refine bs_iload_n hC 1 dJ6_numberOfTrailingZeros_0f7a4_49 rfl rfl ?_
        refine bs_bipush hC (16 : Int32) dJ6_numberOfTrailingZeros_0f7a4_50 rfl ?_
        refine bs_icmp_le hC 62 dJ6_numberOfTrailingZeros_0f7a4_52 (by decide) (fun c7 => ?_) (fun c7 => ?_)
        · refine bs_iload_n hC 1 dJ6_numberOfTrailingZeros_0f7a4_62 rfl rfl ?_
          refine bs_iconst hC (4 : Int32) dJ6_numberOfTrailingZeros_0f7a4_63 rfl ?_
          refine bs_icmp_le hC 74 dJ6_numberOfTrailingZeros_0f7a4_64 (by decide) (fun c3 => ?_) (fun c3 => ?_)
          · refine bs_iload_n hC 0 dJ6_numberOfTrailingZeros_0f7a4_74 rfl rfl ?_
            refine bs_iload_n hC 1 dJ6_numberOfTrailingZeros_0f7a4_75 rfl rfl ?_
            refine bs_iconst hC (1 : Int32) dJ6_numberOfTrailingZeros_0f7a4_76 rfl ?_
            refine bs_iushr hC dJ6_numberOfTrailingZeros_0f7a4_77 ?_
            refine bs_iadd hC dJ6_numberOfTrailingZeros_0f7a4_78 ?_
            exact bs_iret hC dJ6_numberOfTrailingZeros_0f7a4_79 rfl
          refine bs_iinc hC 0 [(1, .int ((1 : Int32) + 2)), (0, .int z1)] dJ6_numberOfTrailingZeros_0f7a4_67 rfl rfl (by decide) rfl ?_
          refine bs_iload_n hC 1 dJ6_numberOfTrailingZeros_0f7a4_70 rfl rfl ?_
          refine bs_iconst hC (2 : Int32) dJ6_numberOfTrailingZeros_0f7a4_71 rfl ?_
          refine bs_iushr hC dJ6_numberOfTrailingZeros_0f7a4_72 ?_
          refine bs_leti (fun z2 ez2 => ?_)
          refine bs_istore_n hC [(0, .int z2), (1, .int ((1 : Int32) + 2))] dJ6_numberOfTrailingZeros_0f7a4_73 rfl (by decide) rfl ?_
          refine bs_iload_n hC 1 dJ6_numberOfTrailingZeros_0f7a4_74 rfl rfl ?_
          refine bs_iload_n hC 0 dJ6_numberOfTrailingZeros_0f7a4_75 rfl rfl ?_
          refine bs_iconst hC (1 : Int32) dJ6_numberOfTrailingZeros_0f7a4_76 rfl ?_
          refine bs_iushr hC dJ6_numberOfTrailingZeros_0f7a4_77 ?_
          refine bs_iadd hC dJ6_numberOfTrailingZeros_0f7a4_78 ?_
          exact bs_iret hC dJ6_numberOfTrailingZeros_0f7a4_79 rfl
        refine bs_iinc hC 0 [(1, .int ((1 : Int32) + 4)), (0, .int z1)] dJ6_numberOfTrailingZeros_0f7a4_55 rfl rfl (by decide) rfl ?_
        refine bs_iload_n hC 1 dJ6_numberOfTrailingZeros_0f7a4_58 rfl rfl ?_
        refine bs_iconst hC (4 : Int32) dJ6_numberOfTrailingZeros_0f7a4_59 rfl ?_
        refine bs_iushr hC dJ6_numberOfTrailingZeros_0f7a4_60 ?_
        refine bs_leti (fun z4 ez4 => ?_)
        refine bs_istore_n hC [(0, .int z4), (1, .int ((1 : Int32) + 4))] dJ6_numberOfTrailingZeros_0f7a4_61 rfl (by decide) rfl ?_
        refine bs_iload_n hC 0 dJ6_numberOfTrailingZeros_0f7a4_62 rfl rfl ?_
        refine bs_iconst hC (4 : Int32) dJ6_numberOfTrailingZeros_0f7a4_63 rfl ?_
        refine bs_icmp_le hC 74 dJ6_numberOfTrailingZeros_0f7a4_64 (by decide) (fun c6 => ?_) (fun c6 => ?_)
        · refine bs_iload_n hC 1 dJ6_numberOfTrailingZeros_0f7a4_74 rfl rfl ?_
          refine bs_iload_n hC 0 dJ6_numberOfTrailingZeros_0f7a4_75 rfl rfl ?_
          refine bs_iconst hC (1 : Int32) dJ6_numberOfTrailingZeros_0f7a4_76 rfl ?_
          refine bs_iushr hC dJ6_numberOfTrailingZeros_0f7a4_77 ?_
          refine bs_iadd hC dJ6_numberOfTrailingZeros_0f7a4_78 ?_
          exact bs_iret hC dJ6_numberOfTrailingZeros_0f7a4_79 rfl
        refine bs_iinc hC 1 [(1, .int (((1 : Int32) + 4) + 2)), (0, .int z4)] dJ6_numberOfTrailingZeros_0f7a4_67 rfl rfl (by decide) rfl ?_
        refine bs_iload_n hC 1 dJ6_numberOfTrailingZeros_0f7a4_70 rfl rfl ?_
        refine bs_iconst hC (2 : Int32) dJ6_numberOfTrailingZeros_0f7a4_71 rfl ?_
        refine bs_iushr hC dJ6_numberOfTrailingZeros_0f7a4_72 ?_
        refine bs_leti (fun z5 ez5 => ?_)
        refine bs_istore_n hC [(0, .int z5), (1, .int (((1 : Int32) + 4) + 2))] dJ6_numberOfTrailingZeros_0f7a4_73 rfl (by decide) rfl ?_
        refine bs_iload_n hC 1 dJ6_numberOfTrailingZeros_0f7a4_74 rfl rfl ?_
        refine bs_iload_n hC 0 dJ6_numberOfTrailingZeros_0f7a4_75 rfl rfl ?_
        refine bs_iconst hC (1 : Int32) dJ6_numberOfTrailingZeros_0f7a4_76 rfl ?_
        refine bs_iushr hC dJ6_numberOfTrailingZeros_0f7a4_77 ?_
        refine bs_iadd hC dJ6_numberOfTrailingZeros_0f7a4_78 ?_
        exact bs_iret hC dJ6_numberOfTrailingZeros_0f7a4_79 rfl
      refine bs_iinc hC 0 [(1, .int ((1 : Int32) + 8)), (0, .int z1)] dJ6_numberOfTrailingZeros_0f7a4_41 rfl rfl (by decide) rfl ?_
      refine bs_iload_n hC 1 dJ6_numberOfTrailingZeros_0f7a4_44 rfl rfl ?_
      refine bs_bipush hC (8 : Int32) dJ6_numberOfTrailingZeros_0f7a4_45 rfl ?_
      refine bs_iushr hC dJ6_numberOfTrailingZeros_0f7a4_47 ?_
      refine bs_leti (fun z8 ez8 => ?_)
      refine bs_istore_n hC [(0, .int z8), (1, .int ((1 : Int32) + 8))] dJ6_numberOfTrailingZeros_0f7a4_48 rfl (by decide) rfl ?_
      refine bs_iload_n hC 0 dJ6_numberOfTrailingZeros_0f7a4_49 rfl rfl ?_
      refine bs_bipush hC (16 : Int32) dJ6_numberOfTrailingZeros_0f7a4_50 rfl ?_
      refine bs_icmp_le hC 62 dJ6_numberOfTrailingZeros_0f7a4_52 (by decide) (fun c14 => ?_) (fun c14 => ?_)
      · refine bs_iload_n hC 0 dJ6_numberOfTrailingZeros_0f7a4_62 rfl rfl ?_
        refine bs_iconst hC (4 : Int32) dJ6_numberOfTrailingZeros_0f7a4_63 rfl ?_
        refine bs_icmp_le hC 74 dJ6_numberOfTrailingZeros_0f7a4_64 (by decide) (fun c10 => ?_) (fun c10 => ?_)
        · refine bs_iload_n hC 1 dJ6_numberOfTrailingZeros_0f7a4_74 rfl rfl ?_
          refine bs_iload_n hC 0 dJ6_numberOfTrailingZeros_0f7a4_75 rfl rfl ?_
          refine bs_iconst hC (1 : Int32) dJ6_numberOfTrailingZeros_0f7a4_76 rfl ?_
          refine bs_iushr hC dJ6_numberOfTrailingZeros_0f7a4_77 ?_
          refine bs_iadd hC dJ6_numberOfTrailingZeros_0f7a4_78 ?_
          exact bs_iret hC dJ6_numberOfTrailingZeros_0f7a4_79 rfl
        refine bs_iinc hC 1 [(1, .int (((1 : Int32) + 8) + 2)), (0, .int z8)] dJ6_numberOfTrailingZeros_0f7a4_67 rfl rfl (by decide) rfl ?_
        refine bs_iload_n hC 1 dJ6_numberOfTrailingZeros_0f7a4_70 rfl rfl ?_
        refine bs_iconst hC (2 : Int32) dJ6_numberOfTrailingZeros_0f7a4_71 rfl ?_
        refine bs_iushr hC dJ6_numberOfTrailingZeros_0f7a4_72 ?_
        refine bs_leti (fun z9 ez9 => ?_)
        refine bs_istore_n hC [(0, .int z9), (1, .int (((1 : Int32) + 8) + 2))] dJ6_numberOfTrailingZeros_0f7a4_73 rfl (by decide) rfl ?_
        refine bs_iload_n hC 1 dJ6_numberOfTrailingZeros_0f7a4_74 rfl rfl ?_
        refine bs_iload_n hC 0 dJ6_numberOfTrailingZeros_0f7a4_75 rfl rfl ?_
        refine bs_iconst hC (1 : Int32) dJ6_numberOfTrailingZeros_0f7a4_76 rfl ?_
        refine bs_iushr hC dJ6_numberOfTrailingZeros_0f7a4_77 ?_
        refine bs_iadd hC dJ6_numberOfTrailingZeros_0f7a4_78 ?_
        exact bs_iret hC dJ6_numberOfTrailingZeros_0f7a4_79 rfl
      refine bs_iinc hC 1 [(1, .int (((1 : Int32) + 8) + 4)), (0, .int z8)] dJ6_numberOfTrailingZeros_0f7a4_55 rfl rfl (by decide) rfl ?_
      refine bs_iload_n hC 1 dJ6_numberOfTrailingZeros_0f7a4_58 rfl rfl ?_
      refine bs_iconst hC (4 : Int32) dJ6_numberOfTrailingZeros_0f7a4_59 rfl ?_
      refine bs_iushr hC dJ6_numberOfTrailingZeros_0f7a4_60 ?_
      refine bs_leti (fun z11 ez11 => ?_)
      refine bs_istore_n hC [(0, .int z11), (1, .int (((1 : Int32) + 8) + 4))] dJ6_numberOfTrailingZeros_0f7a4_61 rfl (by decide) rfl ?_
      refine bs_iload_n hC 0 dJ6_numberOfTrailingZeros_0f7a4_62 rfl rfl ?_
      refine bs_iconst hC (4 : Int32) dJ6_numberOfTrailingZeros_0f7a4_63 rfl ?_
      refine bs_icmp_le hC 74 dJ6_numberOfTrailingZeros_0f7a4_64 (by decide) (fun c13 => ?_) (fun c13 => ?_)
      · refine bs_iload_n hC 1 dJ6_numberOfTrailingZeros_0f7a4_74 rfl rfl ?_
        refine bs_iload_n hC 0 dJ6_numberOfTrailingZeros_0f7a4_75 rfl rfl ?_
        refine bs_iconst hC (1 : Int32) dJ6_numberOfTrailingZeros_0f7a4_76 rfl ?_
        refine bs_iushr hC dJ6_numberOfTrailingZeros_0f7a4_77 ?_
        refine bs_iadd hC dJ6_numberOfTrailingZeros_0f7a4_78 ?_
        exact bs_iret hC dJ6_numberOfTrailingZeros_0f7a4_79 rfl
      refine bs_iinc hC 1 [(1, .int ((((1 : Int32) + 8) + 4) + 2)), (0, .int z11)] dJ6_numberOfTrailingZeros_0f7a4_67 rfl rfl (by decide) rfl ?_
      refine bs_iload_n hC 1 dJ6_numberOfTrailingZeros_0f7a4_70 rfl rfl ?_
      refine bs_iconst hC (2 : Int32) dJ6_numberOfTrailingZeros_0f7a4_71 rfl ?_
      refine bs_iushr hC dJ6_numberOfTrailingZeros_0f7a4_72 ?_
      refine bs_leti (fun z12 ez12 => ?_)
      refine bs_istore_n hC [(0, .int z12), (1, .int ((((1 : Int32) + 8) + 4) + 2))] dJ6_numberOfTrailingZeros_0f7a4_73 rfl (by decide) rfl ?_
      refine bs_iload_n hC 1 dJ6_numberOfTrailingZeros_0f7a4_74 rfl rfl ?_
      refine bs_iload_n hC 0 dJ6_numberOfTrailingZeros_0f7a4_75 rfl rfl ?_
      refine bs_iconst hC (1 : Int32) dJ6_numberOfTrailingZeros_0f7a4_76 rfl ?_
      refine bs_iushr hC dJ6_numberOfTrailingZeros_0f7a4_77 ?_
      refine bs_iadd hC dJ6_numberOfTrailingZeros_0f7a4_78 ?_
      exact bs_iret hC dJ6_numberOfTrailingZeros_0f7a4_79 rfl
    refine bs_iinc hC 0 [(1, .int ((1 : Int32) + 16)), (0, .int z1)] dJ6_numberOfTrailingZeros_0f7a4_26 rfl rfl (by decide) rfl ?_
    refine bs_iload_n hC 1 dJ6_numberOfTrailingZeros_0f7a4_29 rfl rfl ?_
    refine bs_bipush hC (16 : Int32) dJ6_numberOfTrailingZeros_0f7a4_30 rfl ?_
    refine bs_iushr hC dJ6_numberOfTrailingZeros_0f7a4_32 ?_
    refine bs_leti (fun z16 ez16 => ?_)
    refine bs_istore_n hC [(0, .int z16), (1, .int ((1 : Int32) + 16))] dJ6_numberOfTrailingZeros_0f7a4_33 rfl (by decide) rfl ?_
    refine bs_iload_n hC 0 dJ6_numberOfTrailingZeros_0f7a4_34 rfl rfl ?_
    refine bs_sipush hC (256 : Int32) dJ6_numberOfTrailingZeros_0f7a4_35 rfl ?_
    refine bs_icmp_le hC 49 dJ6_numberOfTrailingZeros_0f7a4_38 (by decide) (fun c30 => ?_) (fun c30 => ?_)
    · refine bs_iload_n hC 0 dJ6_numberOfTrailingZeros_0f7a4_49 rfl rfl ?_
      refine bs_bipush hC (16 : Int32) dJ6_numberOfTrailingZeros_0f7a4_50 rfl ?_
      refine bs_icmp_le hC 62 dJ6_numberOfTrailingZeros_0f7a4_52 (by decide) (fun c22 => ?_) (fun c22 => ?_)
      · refine bs_iload_n hC 0 dJ6_numberOfTrailingZeros_0f7a4_62 rfl rfl ?_
        refine bs_iconst hC (4 : Int32) dJ6_numberOfTrailingZeros_0f7a4_63 rfl ?_
        refine bs_icmp_le hC 74 dJ6_numberOfTrailingZeros_0f7a4_64 (by decide) (fun c18 => ?_) (fun c18 => ?_)
        · refine bs_iload_n hC 1 dJ6_numberOfTrailingZeros_0f7a4_74 rfl rfl ?_
          refine bs_iload_n hC 0 dJ6_numberOfTrailingZeros_0f7a4_75 rfl rfl ?_
          refine bs_iconst hC (1 : Int32) dJ6_numberOfTrailingZeros_0f7a4_76 rfl ?_
          refine bs_iushr hC dJ6_numberOfTrailingZeros_0f7a4_77 ?_
          refine bs_iadd hC dJ6_numberOfTrailingZeros_0f7a4_78 ?_
          exact bs_iret hC dJ6_numberOfTrailingZeros_0f7a4_79 rfl
        refine bs_iinc hC 1 [(1, .int (((1 : Int32) + 16) + 2)), (0, .int z16)] dJ6_numberOfTrailingZeros_0f7a4_67 rfl rfl (by decide) rfl ?_
        refine bs_iload_n hC 1 dJ6_numberOfTrailingZeros_0f7a4_70 rfl rfl ?_
        refine bs_iconst hC (2 : Int32) dJ6_numberOfTrailingZeros_0f7a4_71 rfl ?_
        refine bs_iushr hC dJ6_numberOfTrailingZeros_0f7a4_72 ?_
        refine bs_leti (fun z17 ez17 => ?_)
        refine bs_istore_n hC [(0, .int z17), (1, .int (((1 : Int32) + 16) + 2))] dJ6_numberOfTrailingZeros_0f7a4_73 rfl (by decide) rfl ?_
        refine bs_iload_n hC 1 dJ6_numberOfTrailingZeros_0f7a4_74 rfl rfl ?_
        refine bs_iload_n hC 0 dJ6_numberOfTrailingZeros_0f7a4_75 rfl rfl ?_
        refine bs_iconst hC (1 : Int32) dJ6_numberOfTrailingZeros_0f7a4_76 rfl ?_
        refine bs_iushr hC dJ6_numberOfTrailingZeros_0f7a4_77 ?_
        refine bs_iadd hC dJ6_numberOfTrailingZeros_0f7a4_78 ?_
        exact bs_iret hC dJ6_numberOfTrailingZeros_0f7a4_79 rfl
      refine bs_iinc hC 1 [(1, .int (((1 : Int32) + 16) + 4)), (0, .int z16)] dJ6_numberOfTrailingZeros_0f7a4_55 rfl rfl (by decide) rfl ?_
      refine bs_iload_n hC 1 dJ6_numberOfTrailingZeros_0f7a4_58 rfl rfl ?_
      refine bs_iconst hC (4 : Int32) dJ6_numberOfTrailingZeros_0f7a4_59 rfl ?_
      refine bs_iushr hC dJ6_numberOfTrailingZeros_0f7a4_60 ?_
      refine bs_leti (fun z19 ez19 => ?_)
      refine bs_istore_n hC [(0, .int z19), (1, .int (((1 : Int32) + 16) + 4))] dJ6_numberOfTrailingZeros_0f7a4_61 rfl (by decide) rfl ?_
      refine bs_iload_n hC 0 dJ6_numberOfTrailingZeros_0f7a4_62 rfl rfl ?_
      refine bs_iconst hC (4 : Int32) dJ6_numberOfTrailingZeros_0f7a4_63 rfl ?_
      refine bs_icmp_le hC 74 dJ6_numberOfTrailingZeros_0f7a4_64 (by decide) (fun c21 => ?_) (fun c21 => ?_)
      · refine bs_iload_n hC 1 dJ6_numberOfTrailingZeros_0f7a4_74 rfl rfl ?_
        refine bs_iload_n hC 0 dJ6_numberOfTrailingZeros_0f7a4_75 rfl rfl ?_
        refine bs_iconst hC (1 : Int32) dJ6_numberOfTrailingZeros_0f7a4_76 rfl ?_
        refine bs_iushr hC dJ6_numberOfTrailingZeros_0f7a4_77 ?_
        refine bs_iadd hC dJ6_numberOfTrailingZeros_0f7a4_78 ?_
        exact bs_iret hC dJ6_numberOfTrailingZeros_0f7a4_79 rfl
      refine bs_iinc hC 1 [(1, .int ((((1 : Int32) + 16) + 4) + 2)), (0, .int z19)] dJ6_numberOfTrailingZeros_0f7a4_67 rfl rfl (by decide) rfl ?_
      refine bs_iload_n hC 1 dJ6_numberOfTrailingZeros_0f7a4_70 rfl rfl ?_
      refine bs_iconst hC (2 : Int32) dJ6_numberOfTrailingZeros_0f7a4_71 rfl ?_
      refine bs_iushr hC dJ6_numberOfTrailingZeros_0f7a4_72 ?_
      refine bs_leti (fun z20 ez20 => ?_)
      refine bs_istore_n hC [(0, .int z20), (1, .int ((((1 : Int32) + 16) + 4) + 2))] dJ6_numberOfTrailingZeros_0f7a4_73 rfl (by decide) rfl ?_
      refine bs_iload_n hC 1 dJ6_numberOfTrailingZeros_0f7a4_74 rfl rfl ?_
      refine bs_iload_n hC 0 dJ6_numberOfTrailingZeros_0f7a4_75 rfl rfl ?_
      refine bs_iconst hC (1 : Int32) dJ6_numberOfTrailingZeros_0f7a4_76 rfl ?_
      refine bs_iushr hC dJ6_numberOfTrailingZeros_0f7a4_77 ?_
      refine bs_iadd hC dJ6_numberOfTrailingZeros_0f7a4_78 ?_
      exact bs_iret hC dJ6_numberOfTrailingZeros_0f7a4_79 rfl
    refine bs_iinc hC 1 [(1, .int (((1 : Int32) + 16) + 8)), (0, .int z16)] dJ6_numberOfTrailingZeros_0f7a4_41 rfl rfl (by decide) rfl ?_
    refine bs_iload_n hC 1 dJ6_numberOfTrailingZeros_0f7a4_44 rfl rfl ?_
    refine bs_bipush hC (8 : Int32) dJ6_numberOfTrailingZeros_0f7a4_45 rfl ?_
    refine bs_iushr hC dJ6_numberOfTrailingZeros_0f7a4_47 ?_
    refine bs_leti (fun z23 ez23 => ?_)
    refine bs_istore_n hC [(0, .int z23), (1, .int (((1 : Int32) + 16) + 8))] dJ6_numberOfTrailingZeros_0f7a4_48 rfl (by decide) rfl ?_
    refine bs_iload_n hC 0 dJ6_numberOfTrailingZeros_0f7a4_49 rfl rfl ?_
    refine bs_bipush hC (16 : Int32) dJ6_numberOfTrailingZeros_0f7a4_50 rfl ?_
    refine bs_icmp_le hC 62 dJ6_numberOfTrailingZeros_0f7a4_52 (by decide) (fun c29 => ?_) (fun c29 => ?_)
    · refine bs_iload_n hC 0 dJ6_numberOfTrailingZeros_0f7a4_62 rfl rfl ?_
      refine bs_iconst hC (4 : Int32) dJ6_numberOfTrailingZeros_0f7a4_63 rfl ?_
      refine bs_icmp_le hC 74 dJ6_numberOfTrailingZeros_0f7a4_64 (by decide) (fun c25 => ?_) (fun c25 => ?_)
      · refine bs_iload_n hC 1 dJ6_numberOfTrailingZeros_0f7a4_74 rfl rfl ?_
        refine bs_iload_n hC 0 dJ6_numberOfTrailingZeros_0f7a4_75 rfl rfl ?_
        refine bs_iconst hC (1 : Int32) dJ6_numberOfTrailingZeros_0f7a4_76 rfl ?_
        refine bs_iushr hC dJ6_numberOfTrailingZeros_0f7a4_77 ?_
        refine bs_iadd hC dJ6_numberOfTrailingZeros_0f7a4_78 ?_
        exact bs_iret hC dJ6_numberOfTrailingZeros_0f7a4_79 rfl
      refine bs_iinc hC 1 [(1, .int ((((1 : Int32) + 16) + 8) + 2)), (0, .int z23)] dJ6_numberOfTrailingZeros_0f7a4_67 rfl rfl (by decide) rfl ?_
      refine bs_iload_n hC 1 dJ6_numberOfTrailingZeros_0f7a4_70 rfl rfl ?_
      refine bs_iconst hC (2 : Int32) dJ6_numberOfTrailingZeros_0f7a4_71 rfl ?_
      refine bs_iushr hC dJ6_numberOfTrailingZeros_0f7a4_72 ?_
      refine bs_leti (fun z24 ez24 => ?_)
      refine bs_istore_n hC [(0, .int z24), (1, .int ((((1 : Int32) + 16) + 8) + 2))] dJ6_numberOfTrailingZeros_0f7a4_73 rfl (by decide) rfl ?_
      refine bs_iload_n hC 1 dJ6_numberOfTrailingZeros_0f7a4_74 rfl rfl ?_
      refine bs_iload_n hC 0 dJ6_numberOfTrailingZeros_0f7a4_75 rfl rfl ?_
      refine bs_iconst hC (1 : Int32) dJ6_numberOfTrailingZeros_0f7a4_76 rfl ?_
      refine bs_iushr hC dJ6_numberOfTrailingZeros_0f7a4_77 ?_
      refine bs_iadd hC dJ6_numberOfTrailingZeros_0f7a4_78 ?_
      exact bs_iret hC dJ6_numberOfTrailingZeros_0f7a4_79 rfl
    refine bs_iinc hC 1 [(1, .int ((((1 : Int32) + 16) + 8) + 4)), (0, .int z23)] dJ6_numberOfTrailingZeros_0f7a4_55 rfl rfl (by decide) rfl ?_
    refine bs_iload_n hC 1 dJ6_numberOfTrailingZeros_0f7a4_58 rfl rfl ?_
    refine bs_iconst hC (4 : Int32) dJ6_numberOfTrailingZeros_0f7a4_59 rfl ?_
    refine bs_iushr hC dJ6_numberOfTrailingZeros_0f7a4_60 ?_
    refine bs_leti (fun z26 ez26 => ?_)
    refine bs_istore_n hC [(0, .int z26), (1, .int ((((1 : Int32) + 16) + 8) + 4))] dJ6_numberOfTrailingZeros_0f7a4_61 rfl (by decide) rfl ?_
    refine bs_iload_n hC 0 dJ6_numberOfTrailingZeros_0f7a4_62 rfl rfl ?_
    refine bs_iconst hC (4 : Int32) dJ6_numberOfTrailingZeros_0f7a4_63 rfl ?_
    refine bs_icmp_le hC 74 dJ6_numberOfTrailingZeros_0f7a4_64 (by decide) (fun c28 => ?_) (fun c28 => ?_)
    · refine bs_iload_n hC 1 dJ6_numberOfTrailingZeros_0f7a4_74 rfl rfl ?_
      refine bs_iload_n hC 0 dJ6_numberOfTrailingZeros_0f7a4_75 rfl rfl ?_
      refine bs_iconst hC (1 : Int32) dJ6_numberOfTrailingZeros_0f7a4_76 rfl ?_
      refine bs_iushr hC dJ6_numberOfTrailingZeros_0f7a4_77 ?_
      refine bs_iadd hC dJ6_numberOfTrailingZeros_0f7a4_78 ?_
      exact bs_iret hC dJ6_numberOfTrailingZeros_0f7a4_79 rfl
    refine bs_iinc hC 1 [(1, .int (((((1 : Int32) + 16) + 8) + 4) + 2)), (0, .int z26)] dJ6_numberOfTrailingZeros_0f7a4_67 rfl rfl (by decide) rfl ?_
    refine bs_iload_n hC 1 dJ6_numberOfTrailingZeros_0f7a4_70 rfl rfl ?_
    refine bs_iconst hC (2 : Int32) dJ6_numberOfTrailingZeros_0f7a4_71 rfl ?_
    refine bs_iushr hC dJ6_numberOfTrailingZeros_0f7a4_72 ?_
    refine bs_leti (fun z27 ez27 => ?_)
    refine bs_istore_n hC [(0, .int z27), (1, .int (((((1 : Int32) + 16) + 8) + 4) + 2))] dJ6_numberOfTrailingZeros_0f7a4_73 rfl (by decide) rfl ?_
    refine bs_iload_n hC 1 dJ6_numberOfTrailingZeros_0f7a4_74 rfl rfl ?_
    refine bs_iload_n hC 0 dJ6_numberOfTrailingZeros_0f7a4_75 rfl rfl ?_
    refine bs_iconst hC (1 : Int32) dJ6_numberOfTrailingZeros_0f7a4_76 rfl ?_
    refine bs_iushr hC dJ6_numberOfTrailingZeros_0f7a4_77 ?_
    refine bs_iadd hC dJ6_numberOfTrailingZeros_0f7a4_78 ?_
    exact bs_iret hC dJ6_numberOfTrailingZeros_0f7a4_79 rfl
  refine bs_iload_n hC 0 dJ6_numberOfTrailingZeros_0f7a4_12 rfl rfl ?_
  refine bs_bipush hC (32 : Int32) dJ6_numberOfTrailingZeros_0f7a4_13 rfl ?_
  refine bs_iand hC dJ6_numberOfTrailingZeros_0f7a4_15 ?_
  exact bs_iret hC dJ6_numberOfTrailingZeros_0f7a4_16 rfl
theorem c_J6_numberOfTrailingZeros_0f7a4 (l : Launch) (D : va_G) (ε : bd_E) (x0 : Int32)  (S : bd_T) (h0 : (f_J6_numberOfTrailingZeros_0f7a4 x0 S).isSome = true) : bd_Con l yJ6_numberOfTrailingZeros_0f7a4 (Cond.code yJ6_numberOfTrailingZeros_0f7a4 cJ6_numberOfTrailingZeros_0f7a4 2 (some .int) :: bd_tbl) ({ frames := 0, cells := 0, slots := 0, locals := 0 } : Room) D ε (cX ε) bd_vi [.int x0] S (f_J6_numberOfTrailingZeros_0f7a4 x0 S) :=
  bd_con (by decide +kernel) (Nat.le_of_ble_eq_true rfl) ⟨rfl, rfl⟩ h0 (fun Γ _ _ hC => bs_eq bs_bs (b_J6_numberOfTrailingZeros_0f7a4 hC x0 S))
set_option maxRecDepth 100000 in
set_option maxHeartbeats 4000000 in
theorem b_X9_wrongInRow {Γ : bd_G} {ε : bd_E} {t0 : Option (Int32 × bd_T)} (hC : bd_C Γ cX9_wrongInRow 7 RX9 (some .int) ({ frames := 2, cells := 0, slots := 0, locals := 45 } : Room) ε (cX ε) bd_vi t0) (x1 : Int32)  (S : bd_T) : bd_S Γ 7 t0 ((f_X9_wrongInRow x1 S).bind some) (cX ε S) 0 [(0, .ref (bd_a ε 0)), (1, .int x1)] [] := by
  unfold f_X9_wrongInRow
  refine bs_aload_n hC 0 dX9_wrongInRow_0 rfl rfl ?_
  refine bs_get hC (v := .ref (bd_a ε (12 + 0))) hin_X9 0 (cX_o0 ε S) rfl 4 (by decide) mw_210 rfl dX9_wrongInRow_1 ?_
  refine bs_iload_n hC 1 dX9_wrongInRow_4 rfl rfl ?_
  refine bs_callS_i hC (rm := ({ frames := 0, cells := 0, slots := 0, locals := 0 } : Room)) [.ref (bd_a ε (12 + 0)), .int x1] [] (fun h => c_X9_at (bd_l Γ) (bd_D Γ) ε 0 x1 (by decide) S h) mw_237 mw_235 mw_236 mw_72 by_X9_at ⟨rfl, rfl, by decide, by decide⟩ rfl rfl (Nat.le_of_ble_eq_true rfl) dX9_wrongInRow_5 (fun r1 S2 eS2 => ?_)
  refine bs_istore_n hC [(2, .int r1), (0, .ref (bd_a ε 0)), (1, .int x1)] dX9_wrongInRow_8 rfl (by decide) rfl ?_
  refine bs_aload_n hC 1 dX9_wrongInRow_9 rfl rfl ?_
  refine bs_get hC (v := .ref (bd_a ε 4)) hin_X9 0 (cX_o0 ε S2) rfl 7 (by decide) mw_213 rfl dX9_wrongInRow_10 ?_
  refine bs_aload_n hC 1 dX9_wrongInRow_13 rfl rfl ?_
  refine bs_get hC (v := .ref (bd_a ε 1)) hin_X9 0 (cX_o0 ε S2) rfl 0 (by decide) mw_206 rfl dX9_wrongInRow_14 ?_
  refine bs_iload_n hC 2 dX9_wrongInRow_17 rfl rfl ?_
  refine bs_iload_n hC 0 dX9_wrongInRow_18 rfl rfl ?_
  refine bs_callVN_i hC (rm := ({ frames := 1, cells := 0, slots := 0, locals := 21 } : Room)) [.ref (bd_a ε 1), .int x1, .int r1] [] (fun h => c_X0_speaking (bd_l Γ) (bd_D Γ) ε x1 r1 S2 h) mw_350 nm_31 mw_349 mw_77 mw_23 (cX_o4 ε S2) rfl by_X0_speaking ⟨rfl, rfl, by decide, by decide⟩ rfl rfl (Nat.le_of_ble_eq_true rfl) dX9_wrongInRow_19 (fun r3 S4 eS4 => ?_)
  refine bs_istore_n hC [(3, .int r3), (2, .int r1), (0, .ref (bd_a ε 0)), (1, .int x1)] dX9_wrongInRow_22 rfl (by decide) rfl ?_
  refine bs_iload_n hC 0 dX9_wrongInRow_23 rfl rfl ?_
  refine bs_if_eq hC 35 dX9_wrongInRow_24 (by decide) (fun c18 => ?_) (fun c18 => ?_)
  · refine bs_aload_n hC 2 dX9_wrongInRow_35 rfl rfl ?_
    refine bs_get hC (v := .ref (bd_a ε 1)) hin_X9 0 (cX_o0 ε S4) rfl 0 (by decide) mw_206 rfl dX9_wrongInRow_36 ?_
    refine bs_getN hC (v := .ref (bd_a ε 8)) hin_X8 1 (cX_o1 ε S4) rfl 0 (by decide) nf_18 rfl dX9_wrongInRow_39 ?_
    refine bs_getN hC (v := .ref (bd_a ε (12 + 14))) hin_X7 8 (cX_o8 ε S4) rfl 4 (by decide) nf_9 rfl dX9_wrongInRow_42 ?_
    refine bs_iload_n hC 3 dX9_wrongInRow_45 rfl rfl ?_
    refine bs_callS_i hC (rm := ({ frames := 0, cells := 0, slots := 0, locals := 0 } : Room)) [.ref (bd_a ε (12 + 14)), .int x1] [] (fun h => c_X9_at (bd_l Γ) (bd_D Γ) ε 14 x1 (by decide) S4 h) mw_237 mw_235 mw_236 mw_72 by_X9_at ⟨rfl, rfl, by decide, by decide⟩ rfl rfl (Nat.le_of_ble_eq_true rfl) dX9_wrongInRow_46 (fun r5 S6 eS6 => ?_)
    refine bs_istore hC [(4, .int r5), (3, .int r3), (2, .int r1), (0, .ref (bd_a ε 0)), (1, .int x1)] dX9_wrongInRow_49 (by decide) rfl ?_
    refine bs_iload hC 0 dX9_wrongInRow_51 rfl ?_
    refine bs_if_ge hC 59 dX9_wrongInRow_53 (by decide) (fun c15 => ?_) (fun c15 => ?_)
    · refine bs_aload_n hC 3 dX9_wrongInRow_59 rfl rfl ?_
      refine bs_get hC (v := .ref (bd_a ε (12 + 0))) hin_X9 0 (cX_o0 ε S6) rfl 4 (by decide) mw_210 rfl dX9_wrongInRow_60 ?_
      refine bs_iload hC 0 dX9_wrongInRow_63 rfl ?_
      refine bs_callS_i hC (rm := ({ frames := 0, cells := 0, slots := 0, locals := 0 } : Room)) [.ref (bd_a ε (12 + 0)), .int r5] [] (fun h => c_X9_at (bd_l Γ) (bd_D Γ) ε 0 r5 (by decide) S6 h) mw_237 mw_235 mw_236 mw_72 by_X9_at ⟨rfl, rfl, by decide, by decide⟩ rfl rfl (Nat.le_of_ble_eq_true rfl) dX9_wrongInRow_65 (fun r7 S8 eS8 => ?_)
      refine bs_istore hC [(5, .int r7), (4, .int r5), (3, .int r3), (2, .int r1), (0, .ref (bd_a ε 0)), (1, .int x1)] dX9_wrongInRow_68 (by decide) rfl ?_
      refine bs_iload_n hC 3 dX9_wrongInRow_70 rfl rfl ?_
      refine bs_aload_n hC 4 dX9_wrongInRow_71 rfl rfl ?_
      refine bs_get hC (v := .ref (bd_a ε 1)) hin_X9 0 (cX_o0 ε S8) rfl 0 (by decide) mw_206 rfl dX9_wrongInRow_72 ?_
      refine bs_getN hC (v := .ref (bd_a ε 8)) hin_X8 1 (cX_o1 ε S8) rfl 0 (by decide) nf_18 rfl dX9_wrongInRow_75 ?_
      refine bs_iload_n hC 5 dX9_wrongInRow_78 rfl rfl ?_
      refine bs_iload hC 0 dX9_wrongInRow_79 rfl ?_
      refine bs_iconst hC (1 : Int32) dX9_wrongInRow_81 rfl ?_
      refine bs_callVN_i hC (rm := ({ frames := 1, cells := 0, slots := 0, locals := 21 } : Room)) [.int x1, .int r7, .int (1 : Int32)] [.int r1] (fun h => c_X7_lowest (bd_l Γ) (bd_D Γ) ε x1 r7 (1 : Int32) S8 h) mw_394 nm_47 mw_393 mw_74 mw_31 (cX_o8 ε S8) rfl by_X7_lowest ⟨rfl, rfl, by decide, by decide⟩ rfl rfl (Nat.le_of_ble_eq_true rfl) dX9_wrongInRow_82 (fun r9 S10 eS10 => ?_)
      refine bs_icmp_lt hC 110 dX9_wrongInRow_85 (by decide) (fun c14 => ?_) (fun c14 => ?_)
      · refine bs_iconst hC (0 : Int32) dX9_wrongInRow_110 rfl ?_
        refine bs_istore hC [(6, .int (0 : Int32)), (5, .int r7), (4, .int r5), (3, .int r3), (2, .int r1), (0, .ref (bd_a ε 0)), (1, .int x1)] dX9_wrongInRow_111 (by decide) rfl ?_
        refine bs_iload hC 0 dX9_wrongInRow_113 rfl ?_
        refine bs_if_eqT hC 123 dX9_wrongInRow_115 (by decide) (by decide) ?_
        refine bs_iload_n hC 6 dX9_wrongInRow_123 rfl rfl ?_
        exact bs_iret hC dX9_wrongInRow_124 rfl
      refine bs_iload_n hC 3 dX9_wrongInRow_88 rfl rfl ?_
      refine bs_aload_n hC 4 dX9_wrongInRow_89 rfl rfl ?_
      refine bs_get hC (v := .ref (bd_a ε 1)) hin_X9 0 (cX_o0 ε S10) rfl 0 (by decide) mw_206 rfl dX9_wrongInRow_90 ?_
      refine bs_getN hC (v := .ref (bd_a ε 8)) hin_X8 1 (cX_o1 ε S10) rfl 0 (by decide) nf_18 rfl dX9_wrongInRow_93 ?_
      refine bs_iload_n hC 5 dX9_wrongInRow_96 rfl rfl ?_
      refine bs_iload hC 0 dX9_wrongInRow_97 rfl ?_
      refine bs_iconst hC (1 : Int32) dX9_wrongInRow_99 rfl ?_
      refine bs_callVN_i hC (rm := ({ frames := 1, cells := 0, slots := 0, locals := 21 } : Room)) [.int x1, .int r7, .int (1 : Int32)] [.int r1] (fun h => c_X7_highest (bd_l Γ) (bd_D Γ) ε x1 r7 (1 : Int32) S10 h) mw_396 nm_48 mw_395 mw_74 mw_32 (cX_o8 ε S10) rfl by_X7_highest ⟨rfl, rfl, by decide, by decide⟩ rfl rfl (Nat.le_of_ble_eq_true rfl) dX9_wrongInRow_100 (fun r11 S12 eS12 => ?_)
      refine bs_icmp_gt hC 110 dX9_wrongInRow_103 (by decide) (fun c13 => ?_) (fun c13 => ?_)
      · refine bs_iconst hC (0 : Int32) dX9_wrongInRow_110 rfl ?_
        refine bs_istore hC [(6, .int (0 : Int32)), (5, .int r7), (4, .int r5), (3, .int r3), (2, .int r1), (0, .ref (bd_a ε 0)), (1, .int x1)] dX9_wrongInRow_111 (by decide) rfl ?_
        refine bs_iload hC 0 dX9_wrongInRow_113 rfl ?_
        refine bs_if_eqT hC 123 dX9_wrongInRow_115 (by decide) (by decide) ?_
        refine bs_iload_n hC 6 dX9_wrongInRow_123 rfl rfl ?_
        exact bs_iret hC dX9_wrongInRow_124 rfl
      refine bs_iconst hC (1 : Int32) dX9_wrongInRow_106 rfl ?_
      refine bs_goto hC 111 dX9_wrongInRow_107 (by decide) ?_
      refine bs_istore hC [(6, .int (1 : Int32)), (5, .int r7), (4, .int r5), (3, .int r3), (2, .int r1), (0, .ref (bd_a ε 0)), (1, .int x1)] dX9_wrongInRow_111 (by decide) rfl ?_
      refine bs_iload hC 0 dX9_wrongInRow_113 rfl ?_
      refine bs_if_eqF hC 123 dX9_wrongInRow_115 (by decide) (by decide) ?_
      refine bs_bipush hC (-9 : Int32) dX9_wrongInRow_118 rfl ?_
      refine bs_goto hC 124 dX9_wrongInRow_120 (by decide) ?_
      exact bs_iret hC dX9_wrongInRow_124 rfl
    refine bs_bipush hC (-9 : Int32) dX9_wrongInRow_56 rfl ?_
    exact bs_iret hC dX9_wrongInRow_58 rfl
  refine bs_bipush hC (100 : Int32) dX9_wrongInRow_27 rfl ?_
  refine bs_iload_n hC 0 dX9_wrongInRow_29 rfl rfl ?_
  refine bs_callS_i hC (rm := ({ frames := 0, cells := 0, slots := 0, locals := 0 } : Room)) [.int r3] [.int (100 : Int32)] (fun h => c_J6_numberOfTrailingZeros_0f7a4 (bd_l Γ) (bd_D Γ) ε r3 S4 h) mw_482 mw_480 mw_481 mw_84 by_J6_numberOfTrailingZeros_0f7a4 ⟨rfl, rfl, by decide, by decide⟩ rfl rfl (Nat.le_of_ble_eq_true rfl) dX9_wrongInRow_30 (fun r16 S17 eS17 => ?_)
  refine bs_iadd hC dX9_wrongInRow_33 ?_
  exact bs_iret hC dX9_wrongInRow_34 rfl
theorem c_X9_wrongInRow (l : Launch) (D : va_G) (ε : bd_E) (x1 : Int32)  (S : bd_T) (h0 : (f_X9_wrongInRow x1 S).isSome = true) : bd_Con l yX9_wrongInRow (Cond.code yX9_wrongInRow cX9_wrongInRow 7 (some .int) :: bd_tbl) ({ frames := 2, cells := 0, slots := 0, locals := 45 } : Room) D ε (cX ε) bd_vi [.ref (bd_a ε 0), .int x1] S (f_X9_wrongInRow x1 S) :=
  bd_con (by decide +kernel) (Nat.le_of_ble_eq_true rfl) ⟨rfl, rfl⟩ h0 (fun Γ _ _ hC => bs_eq bs_bs (b_X9_wrongInRow hC x1 S))
set_option maxRecDepth 100000 in
set_option maxHeartbeats 4000000 in
theorem lb_X9_judge_59 {Γ : bd_G} {ε : bd_E} {t0 : Option (Int32 × bd_T)} (hC : bd_C Γ cX9_judge 4 RX9 (some .int) ({ frames := 6, cells := 0, slots := 0, locals := 149 } : Room) ε (cX ε) bd_vi t0)  {K : (Int32 × bd_T) ⊕ ((Int32 × bd_T) ⊕ (bd_T)) → Option (Int32 × bd_T)} (hk : ∀ (x2 : Int32) (S : bd_T), bd_S Γ 4 t0 (K (.inl (x2, S))) (cX ε S) 59 [(0, .ref (bd_a ε 0)), (2, .int x2)] []) (hx : ∀ (S : bd_T), bd_S Γ 4 t0 (K (.inr (.inr S))) (cX ε S) 93 [] []) (hr : ∀ z, K (.inr (.inl z)) = some z) (x2 : Int32) (S : bd_T) : bd_S Γ 4 t0 ((fb_X9_judge_59 x2 S).bind K) (cX ε S) 59 [(0, .ref (bd_a ε 0)), (2, .int x2)] [] := by
  unfold fb_X9_judge_59
  refine bs_iload_n hC 1 dX9_judge_59 rfl rfl ?_
  refine bs_aload_n hC 0 dX9_judge_60 rfl rfl ?_
  refine bs_get hC (v := .ref (bd_a ε 1)) hin_X9 0 (cX_o0 ε S) rfl 0 (by decide) mw_206 rfl dX9_judge_61 ?_
  refine bs_getN hC (v := .ref (bd_a ε 8)) hin_X8 1 (cX_o1 ε S) rfl 0 (by decide) nf_18 rfl dX9_judge_64 ?_
  refine bs_getN hC (v := .int (bd_I S 17)) hin_X7 8 (cX_o8 ε S) rfl 0 (by decide) nf_0 rfl dX9_judge_67 ?_
  refine bs_icmp_ge hC 93 dX9_judge_70 (by decide) (fun c8 => ?_) (fun c8 => ?_)
  · refine bs_some ?_
    refine bs_pick [] rfl ?_
    exact hx S
  refine bs_aload_n hC 0 dX9_judge_73 rfl rfl ?_
  refine bs_iload_n hC 1 dX9_judge_74 rfl rfl ?_
  refine bs_callV_i hC (rm := ({ frames := 2, cells := 0, slots := 0, locals := 45 } : Room)) [.int x2] [] (fun h => c_X9_wrongInRow (bd_l Γ) (bd_D Γ) ε x2 S h) mw_479 mw_477 mw_478 mw_72 mw_39 (cX_o0 ε S) rfl by_X9_wrongInRow ⟨rfl, rfl, by decide, by decide⟩ rfl rfl (Nat.le_of_ble_eq_true rfl) dX9_judge_75 (fun r5 S6 eS6 => ?_)
  refine bs_istore_n hC [(3, .int r5), (0, .ref (bd_a ε 0)), (2, .int x2)] dX9_judge_78 rfl (by decide) rfl ?_
  refine bs_iload_n hC 0 dX9_judge_79 rfl rfl ?_
  refine bs_bipush hC (-9 : Int32) dX9_judge_80 rfl ?_
  refine bs_icmp_eq hC 87 dX9_judge_82 (by decide) (fun c7 => ?_) (fun c7 => ?_)
  · refine bs_iinc hC 2 [(2, .int (x2 + 1)), (3, .int r5), (0, .ref (bd_a ε 0))] dX9_judge_87 rfl rfl (by decide) rfl ?_
    refine bs_goto hC 59 dX9_judge_90 (by decide) ?_
    refine bs_some ?_
    refine bs_pick [2, 0] rfl ?_
    exact hk (x2 + 1) S6
  refine bs_iload_n hC 0 dX9_judge_85 rfl rfl ?_
  exact bs_iret hC dX9_judge_86 (hr _)
set_option maxRecDepth 100000 in
set_option maxHeartbeats 4000000 in
theorem b_X9_judge {Γ : bd_G} {ε : bd_E} {t0 : Option (Int32 × bd_T)} (hC : bd_C Γ cX9_judge 4 RX9 (some .int) ({ frames := 6, cells := 0, slots := 0, locals := 149 } : Room) ε (cX ε) bd_vi t0)  (S : bd_T) : bd_S Γ 4 t0 ((f_X9_judge S).bind some) (cX ε S) 0 [(0, .ref (bd_a ε 0))] [] := by
  unfold f_X9_judge
  refine bs_aload_n hC 0 dX9_judge_0 rfl rfl ?_
  refine bs_get hC (v := .int (bd_I S 1)) hin_X9 0 (cX_o0 ε S) rfl 5 (by decide) mw_211 rfl dX9_judge_1 ?_
  refine bs_leti (fun z1 ez1 => ?_)
  refine bs_istore_n hC [(1, .int z1), (0, .ref (bd_a ε 0))] dX9_judge_4 rfl (by decide) rfl ?_
  refine bs_aload_n hC 1 dX9_judge_5 rfl rfl ?_
  refine bs_iconst hC (0 : Int32) dX9_judge_6 rfl ?_
  refine bs_put hC (kk := 1) hin_X9 tyX9 tyX9_ok nmX9 0 (cX_o0 ε S) rfl 5 (by decide) mw_211 rfl rfl rfl (Nat.le_of_ble_eq_true rfl) (cX_p1 ε S _) dX9_judge_7 (fun S2 eS2 => ?_)
  refine bs_iload_n hC 0 dX9_judge_10 rfl rfl ?_
  refine bs_aload_n hC 1 dX9_judge_11 rfl rfl ?_
  refine bs_get hC (v := .ref (bd_a ε 1)) hin_X9 0 (cX_o0 ε S2) rfl 0 (by decide) mw_206 rfl dX9_judge_12 ?_
  refine bs_getN hC (v := .ref (bd_a ε 8)) hin_X8 1 (cX_o1 ε S2) rfl 0 (by decide) nf_18 rfl dX9_judge_15 ?_
  refine bs_getN hC (v := .int (bd_I S2 17)) hin_X7 8 (cX_o8 ε S2) rfl 0 (by decide) nf_0 rfl dX9_judge_18 ?_
  refine bs_icmp_ge hC 28 dX9_judge_21 (by decide) (fun c11 => ?_) (fun c11 => ?_)
  · refine bs_iload_n hC 0 dX9_judge_28 rfl rfl ?_
    refine bs_aload_n hC 1 dX9_judge_29 rfl rfl ?_
    refine bs_get hC (v := .ref (bd_a ε 1)) hin_X9 0 (cX_o0 ε S2) rfl 0 (by decide) mw_206 rfl dX9_judge_30 ?_
    refine bs_getN hC (v := .ref (bd_a ε 8)) hin_X8 1 (cX_o1 ε S2) rfl 0 (by decide) nf_18 rfl dX9_judge_33 ?_
    refine bs_getN hC (v := .int (bd_I S2 17)) hin_X7 8 (cX_o8 ε S2) rfl 0 (by decide) nf_0 rfl dX9_judge_36 ?_
    refine bs_icmp_le hC 46 dX9_judge_39 (by decide) (fun c10 => ?_) (fun c10 => ?_)
    · refine bs_aload_n hC 1 dX9_judge_46 rfl rfl ?_
      refine bs_get hC (v := .ref (bd_a ε 4)) hin_X9 0 (cX_o0 ε S2) rfl 7 (by decide) mw_213 rfl dX9_judge_47 ?_
      refine bs_aload_n hC 1 dX9_judge_50 rfl rfl ?_
      refine bs_get hC (v := .ref (bd_a ε 1)) hin_X9 0 (cX_o0 ε S2) rfl 0 (by decide) mw_206 rfl dX9_judge_51 ?_
      refine bs_callVN_v hC (rm := ({ frames := 5, cells := 0, slots := 0, locals := 127 } : Room)) [.ref (bd_a ε 1)] [] (fun h => c_X0_learn (bd_l Γ) (bd_D Γ) ε S2 h) mw_339 nm_27 mw_338 mw_77 mw_19 (cX_o4 ε S2) rfl by_X0_learn ⟨rfl, rfl, by decide, by decide⟩ rfl rfl (Nat.le_of_ble_eq_true rfl) dX9_judge_54 (fun r3 S4 eS4 => ?_)
      refine bs_iconst hC (0 : Int32) dX9_judge_57 rfl ?_
      refine bs_istore_n hC [(2, .int (0 : Int32)), (1, .int z1), (0, .ref (bd_a ε 0))] dX9_judge_58 rfl (by decide) rfl ?_
      refine bs_pick [2, 0] rfl ?_
      refine bs_loopK (fun (q : Int32 × bd_T) t => bd_S Γ 4 t0 t (cX ε (q.2)) 59 [(0, .ref (bd_a ε 0)), (2, .int (q.1))] []) (fun (q : (Int32 × bd_T) ⊕ (bd_T)) t => Sum.elim (fun (z : Int32 × bd_T) => t = some z) (fun (q : bd_T) => bd_S Γ 4 t0 t (cX ε (q)) 93 [] []) q) (fun q => fb_X9_judge_59 q.1 q.2) (fun _ => bs_none) (fun K hk hx q => lb_X9_judge_59 hC    (fun a0 S => hk (a0, S)) (fun  S => hx (.inr (S))) (fun z => hx (.inl z)) (q.1) (q.2)) (fun r => ?_) bd_K ((0 : Int32), S4)
      rcases r with r | r
      · exact rfl
      obtain ⟨S9, rfl⟩ : ∃ z, z = r := ⟨_, rfl⟩
      show bd_S Γ 4 t0 (Option.bind _ _) (cX ε S9) 93 [] []
      try dsimp only [Sum.elim_inr]
      refine bs_bipush hC (-9 : Int32) dX9_judge_93 rfl ?_
      exact bs_iret hC dX9_judge_95 rfl
    refine bs_sipush hC (1001 : Int32) dX9_judge_42 rfl ?_
    exact bs_iret hC dX9_judge_45 rfl
  refine bs_sipush hC (1000 : Int32) dX9_judge_24 rfl ?_
  exact bs_iret hC dX9_judge_27 rfl
theorem c_X9_judge (l : Launch) (D : va_G) (ε : bd_E)  (S : bd_T) (h0 : (f_X9_judge S).isSome = true) : bd_Con l yX9_judge (Cond.code yX9_judge cX9_judge 4 (some .int) :: bd_tbl) ({ frames := 6, cells := 0, slots := 0, locals := 149 } : Room) D ε (cX ε) bd_vi [.ref (bd_a ε 0)] S (f_X9_judge S) :=
  bd_con (by decide +kernel) (Nat.le_of_ble_eq_true rfl) ⟨rfl, rfl⟩ h0 (fun Γ _ _ hC => bs_eq bs_bs (b_X9_judge hC S))
set_option maxRecDepth 100000 in
set_option maxHeartbeats 4000000 in
theorem b_J6_bitCount_0f7a4 {Γ : bd_G} {ε : bd_E} {t0 : Option (Int32 × bd_T)} (hC : bd_C Γ cJ6_bitCount_0f7a4 1 RJ6 (some .int) ({ frames := 0, cells := 0, slots := 0, locals := 0 } : Room) ε (cX ε) bd_vi t0) (x0 : Int32)  (S : bd_T) : bd_S Γ 1 t0 ((f_J6_bitCount_0f7a4 x0 S).bind some) (cX ε S) 0 [(0, .int x0)] [] := by
  unfold f_J6_bitCount_0f7a4
  refine bs_iload_n hC 0 dJ6_bitCount_0f7a4_0 rfl rfl ?_
  refine bs_iload_n hC 0 dJ6_bitCount_0f7a4_1 rfl rfl ?_
  refine bs_iconst hC (1 : Int32) dJ6_bitCount_0f7a4_2 rfl ?_
  refine bs_iushr hC dJ6_bitCount_0f7a4_3 ?_
  refine bs_ldcw hC (1431655765 : Int32) mw_493 dJ6_bitCount_0f7a4_4 ?_
  refine bs_iand hC dJ6_bitCount_0f7a4_7 ?_
  refine bs_isub hC dJ6_bitCount_0f7a4_8 ?_
  refine bs_leti (fun z1 ez1 => ?_)
  refine bs_istore_n hC [(0, .int z1)] dJ6_bitCount_0f7a4_9 rfl (by decide) rfl ?_
  refine bs_iload_n hC 0 dJ6_bitCount_0f7a4_10 rfl rfl ?_
  refine bs_ldcw hC (858993459 : Int32) mw_494 dJ6_bitCount_0f7a4_11 ?_
  refine bs_iand hC dJ6_bitCount_0f7a4_14 ?_
  refine bs_iload_n hC 0 dJ6_bitCount_0f7a4_15 rfl rfl ?_
  refine bs_iconst hC (2 : Int32) dJ6_bitCount_0f7a4_16 rfl ?_
  refine bs_iushr hC dJ6_bitCount_0f7a4_17 ?_
  refine bs_ldcw hC (858993459 : Int32) mw_494 dJ6_bitCount_0f7a4_18 ?_
  refine bs_iand hC dJ6_bitCount_0f7a4_21 ?_
  refine bs_iadd hC dJ6_bitCount_0f7a4_22 ?_
  refine bs_leti (fun z2 ez2 => ?_)
  refine bs_istore_n hC [(0, .int z2)] dJ6_bitCount_0f7a4_23 rfl (by decide) rfl ?_
  refine bs_iload_n hC 0 dJ6_bitCount_0f7a4_24 rfl rfl ?_
  refine bs_iload_n hC 0 dJ6_bitCount_0f7a4_25 rfl rfl ?_
  refine bs_iconst hC (4 : Int32) dJ6_bitCount_0f7a4_26 rfl ?_
  refine bs_iushr hC dJ6_bitCount_0f7a4_27 ?_
  refine bs_iadd hC dJ6_bitCount_0f7a4_28 ?_
  refine bs_ldcw hC (252645135 : Int32) mw_495 dJ6_bitCount_0f7a4_29 ?_
  refine bs_iand hC dJ6_bitCount_0f7a4_32 ?_
  refine bs_leti (fun z3 ez3 => ?_)
  refine bs_istore_n hC [(0, .int z3)] dJ6_bitCount_0f7a4_33 rfl (by decide) rfl ?_
  refine bs_iload_n hC 0 dJ6_bitCount_0f7a4_34 rfl rfl ?_
  refine bs_iload_n hC 0 dJ6_bitCount_0f7a4_35 rfl rfl ?_
  refine bs_bipush hC (8 : Int32) dJ6_bitCount_0f7a4_36 rfl ?_
  refine bs_iushr hC dJ6_bitCount_0f7a4_38 ?_
  refine bs_iadd hC dJ6_bitCount_0f7a4_39 ?_
  refine bs_leti (fun z4 ez4 => ?_)
  refine bs_istore_n hC [(0, .int z4)] dJ6_bitCount_0f7a4_40 rfl (by decide) rfl ?_
  refine bs_iload_n hC 0 dJ6_bitCount_0f7a4_41 rfl rfl ?_
  refine bs_iload_n hC 0 dJ6_bitCount_0f7a4_42 rfl rfl ?_
  refine bs_bipush hC (16 : Int32) dJ6_bitCount_0f7a4_43 rfl ?_
  refine bs_iushr hC dJ6_bitCount_0f7a4_45 ?_
  refine bs_iadd hC dJ6_bitCount_0f7a4_46 ?_
  refine bs_leti (fun z5 ez5 => ?_)
  refine bs_istore_n hC [(0, .int z5)] dJ6_bitCount_0f7a4_47 rfl (by decide) rfl ?_
  refine bs_iload_n hC 0 dJ6_bitCount_0f7a4_48 rfl rfl ?_
  refine bs_bipush hC (63 : Int32) dJ6_bitCount_0f7a4_49 rfl ?_
  refine bs_iand hC dJ6_bitCount_0f7a4_51 ?_
  exact bs_iret hC dJ6_bitCount_0f7a4_52 rfl
theorem c_J6_bitCount_0f7a4 (l : Launch) (D : va_G) (ε : bd_E) (x0 : Int32)  (S : bd_T) (h0 : (f_J6_bitCount_0f7a4 x0 S).isSome = true) : bd_Con l yJ6_bitCount_0f7a4 (Cond.code yJ6_bitCount_0f7a4 cJ6_bitCount_0f7a4 1 (some .int) :: bd_tbl) ({ frames := 0, cells := 0, slots := 0, locals := 0 } : Room) D ε (cX ε) bd_vi [.int x0] S (f_J6_bitCount_0f7a4 x0 S) :=
  bd_con (by decide +kernel) (Nat.le_of_ble_eq_true rfl) ⟨rfl, rfl⟩ h0 (fun Γ _ _ hC => bs_eq bs_bs (b_J6_bitCount_0f7a4 hC x0 S))
set_option maxRecDepth 100000 in
set_option maxHeartbeats 4000000 in
theorem b_X9_costOf {Γ : bd_G} {ε : bd_E} {t0 : Option (Int64 × bd_T)} (hC : bd_C Γ cX9_costOf 1 RX9 (some .long) ({ frames := 1, cells := 0, slots := 0, locals := 20 } : Room) ε (cX ε) bd_vl t0) (x0 : Int32)  (S : bd_T) : bd_S Γ 1 t0 ((f_X9_costOf x0 S).bind some) (cX ε S) 0 [(0, .int x0)] [] := by
  unfold f_X9_costOf
  refine bs_iload_n hC 0 dX9_costOf_0 rfl rfl ?_
  refine bs_callS_i hC (rm := ({ frames := 0, cells := 0, slots := 0, locals := 0 } : Room)) [.int x0] [] (fun h => c_J6_bitCount_0f7a4 (bd_l Γ) (bd_D Γ) ε x0 S h) mw_492 mw_490 mw_491 mw_84 by_J6_bitCount_0f7a4 ⟨rfl, rfl, by decide, by decide⟩ rfl rfl (Nat.le_of_ble_eq_true rfl) dX9_costOf_1 (fun r1 S2 eS2 => ?_)
  refine bs_i2l hC dX9_costOf_4 ?_
  refine bs_ldc2 hC (1024 : Int64) mw_496 dX9_costOf_5 ?_
  refine bs_lmul hC dX9_costOf_8 ?_
  refine bs_iload_n hC 0 dX9_costOf_9 rfl rfl ?_
  refine bs_i2l hC dX9_costOf_10 ?_
  refine bs_ladd hC dX9_costOf_11 ?_
  exact bs_lret hC dX9_costOf_12 rfl
theorem c_X9_costOf (l : Launch) (D : va_G) (ε : bd_E) (x0 : Int32)  (S : bd_T) (h0 : (f_X9_costOf x0 S).isSome = true) : bd_Con l yX9_costOf (Cond.code yX9_costOf cX9_costOf 1 (some .long) :: bd_tbl) ({ frames := 1, cells := 0, slots := 0, locals := 20 } : Room) D ε (cX ε) bd_vl [.int x0] S (f_X9_costOf x0 S) :=
  bd_con (by decide +kernel) (Nat.le_of_ble_eq_true rfl) ⟨rfl, rfl⟩ h0 (fun Γ _ _ hC => bs_eq bs_bs (b_X9_costOf hC x0 S))
set_option maxRecDepth 100000 in
set_option maxHeartbeats 4000000 in
theorem lb_X3_load_2 {Γ : bd_G} {ε : bd_E} {t0 : Option (Unit × bd_T)} (hC : bd_C Γ cX3_load 10 RX3 none ({ frames := 1, cells := 0, slots := 0, locals := 23 } : Room) ε (cX ε) bd_vv t0) (k1 : Nat) (hk1 : k1 < 3) (p2 : Int32) {K : (Int32 × bd_T) ⊕ (bd_T) → Option (Unit × bd_T)} (hk : ∀ (x3 : Int32) (S : bd_T), bd_S Γ 10 t0 (K (.inl (x3, S))) (cX ε S) 2 [(0, .ref (bd_a ε 7)), (1, .ref (bd_a ε (43 + k1))), (2, .int p2), (3, .int x3)] []) (hx : ∀ (S : bd_T), bd_S Γ 10 t0 (K (.inr S)) (cX ε S) 30 [(0, .ref (bd_a ε 7))] []) (x3 : Int32) (S : bd_T) : bd_S Γ 10 t0 ((fb_X3_load_2 k1 p2 x3 S).bind K) (cX ε S) 2 [(0, .ref (bd_a ε 7)), (1, .ref (bd_a ε (43 + k1))), (2, .int p2), (3, .int x3)] [] := by
  unfold fb_X3_load_2
  refine bs_iload_n hC 3 dX3_load_2 rfl rfl ?_
  refine bs_sipush hC (300 : Int32) dX3_load_3 rfl ?_
  refine bs_icmp_ge hC 30 dX3_load_6 (by decide) (fun c5 => ?_) (fun c5 => ?_)
  · refine bs_some ?_
    refine bs_pick [0] rfl ?_
    exact hx S
  refine bs_aload_n hC 0 dX3_load_9 rfl rfl ?_
  refine bs_get hC (v := .ref (bd_a ε (43 + 2))) hin_X3 7 (cX_o7 ε S) rfl 0 (by decide) mw_204 rfl dX3_load_10 ?_
  refine bs_iload_n hC 3 dX3_load_13 rfl rfl ?_
  refine bs_aload_n hC 1 dX3_load_14 rfl rfl ?_
  refine bs_iload_n hC 2 dX3_load_15 rfl rfl ?_
  refine bs_iload_n hC 3 dX3_load_16 rfl rfl ?_
  refine bs_iadd hC dX3_load_17 ?_
  refine bs_callSN_l hC (rm := ({ frames := 0, cells := 0, slots := 0, locals := 0 } : Room)) [.ref (bd_a ε (43 + k1)), .int (p2 + x3)] [.int x3, .ref (bd_a ε (43 + 2))] (fun h => c_X9_at_ (bd_l Γ) (bd_D Γ) ε k1 (p2 + x3) hk1 S h) mw_386 nm_39 mw_385 mw_72 by_X9_at_ ⟨rfl, rfl, by decide, by decide⟩ rfl rfl (Nat.le_of_ble_eq_true rfl) dX3_load_18 (fun r1 S2 eS2 => ?_)
  refine bs_callSN_v hC (rm := ({ frames := 0, cells := 0, slots := 0, locals := 0 } : Room)) [.ref (bd_a ε (43 + 2)), .int x3, .long r1] [] (fun h => c_X9_lay_ (bd_l Γ) (bd_D Γ) ε 2 x3 r1 (by decide) S2 h) mw_368 nm_40 mw_367 mw_72 by_X9_lay_ ⟨rfl, rfl, by decide, by decide⟩ rfl rfl (Nat.le_of_ble_eq_true rfl) dX3_load_21 (fun r3 S4 eS4 => ?_)
  refine bs_iinc hC 3 [(3, .int (x3 + 1)), (0, .ref (bd_a ε 7)), (1, .ref (bd_a ε (43 + k1))), (2, .int p2)] dX3_load_24 rfl rfl (by decide) rfl ?_
  refine bs_goto hC 2 dX3_load_27 (by decide) ?_
  refine bs_some ?_
  refine bs_pick [1, 2, 3, 0] rfl ?_
  exact hk (x3 + 1) S4
set_option maxRecDepth 100000 in
set_option maxHeartbeats 4000000 in
theorem lb_X3_load_34 {Γ : bd_G} {ε : bd_E} {t0 : Option (Unit × bd_T)} (hC : bd_C Γ cX3_load 10 RX3 none ({ frames := 1, cells := 0, slots := 0, locals := 23 } : Room) ε (cX ε) bd_vv t0) (k1 : Nat) (hk1 : k1 < 3) {K : (Int32 × bd_T) ⊕ (bd_T) → Option (Unit × bd_T)} (hk : ∀ (x3 : Int32) (S : bd_T), bd_S Γ 10 t0 (K (.inl (x3, S))) (cX ε S) 34 [(0, .ref (bd_a ε 7)), (3, .int x3)] []) (hx : ∀ (S : bd_T), bd_S Γ 10 t0 (K (.inr S)) (cX ε S) 125 [] []) (x3 : Int32) (S : bd_T) : bd_S Γ 10 t0 ((fb_X3_load_34 k1 x3 S).bind K) (cX ε S) 34 [(0, .ref (bd_a ε 7)), (3, .int x3)] [] := by
  unfold fb_X3_load_34
  refine bs_iload_n hC 1 dX3_load_34 rfl rfl ?_
  refine bs_aload_n hC 0 dX3_load_35 rfl rfl ?_
  refine bs_get hC (v := .ref (bd_a ε (43 + 2))) hin_X3 7 (cX_o7 ε S) rfl 0 (by decide) mw_204 rfl dX3_load_36 ?_
  refine bs_alenJ hC _ (cX_gj ε S 2 2700 (by decide) rfl) (v := (2700 : Int32)) rfl dX3_load_39 ?_
  refine bs_icmp_ge hC 125 dX3_load_40 (by decide) (fun c18 => ?_) (fun c18 => ?_)
  · refine bs_some ?_
    refine bs_pick [] rfl ?_
    exact hx S
  refine bs_iload_n hC 1 dX3_load_43 rfl rfl ?_
  refine bs_sipush hC (300 : Int32) dX3_load_44 rfl ?_
  refine bs_isub hC dX3_load_47 ?_
  refine bs_leti (fun z7 ez7 => ?_)
  refine bs_istore hC [(4, .int z7), (0, .ref (bd_a ε 7)), (3, .int x3)] dX3_load_48 (by decide) rfl ?_
  refine bs_iconst hC (1 : Int32) dX3_load_50 rfl ?_
  refine bs_iload hC 0 dX3_load_51 rfl ?_
  refine bs_sipush hC (300 : Int32) dX3_load_53 rfl ?_
  refine bs_idivc hC dX3_load_56 (by decide) ?_
  refine bs_ishl hC dX3_load_57 ?_
  refine bs_leti (fun z8 ez8 => ?_)
  refine bs_istore hC [(5, .int z8), (4, .int z7), (0, .ref (bd_a ε 7)), (3, .int x3)] dX3_load_58 (by decide) rfl ?_
  refine bs_aload_n hC 2 dX3_load_60 rfl rfl ?_
  refine bs_get hC (v := .ref (bd_a ε (43 + 2))) hin_X3 7 (cX_o7 ε S) rfl 0 (by decide) mw_204 rfl dX3_load_61 ?_
  refine bs_iload hC 1 dX3_load_64 rfl ?_
  refine bs_callSN_l hC (rm := ({ frames := 0, cells := 0, slots := 0, locals := 0 } : Room)) [.ref (bd_a ε (43 + 2)), .int z7] [] (fun h => c_X9_at_ (bd_l Γ) (bd_D Γ) ε 2 z7 (by decide) S h) mw_386 nm_39 mw_385 mw_72 by_X9_at_ ⟨rfl, rfl, by decide, by decide⟩ rfl rfl (Nat.le_of_ble_eq_true rfl) dX3_load_66 (fun r9 S10 eS10 => ?_)
  refine bs_lstore hC [(6, .long r9), (5, .int z8), (4, .int z7), (0, .ref (bd_a ε 7)), (3, .int x3)] dX3_load_69 (by decide) rfl ?_
  refine bs_iload_n hC 4 dX3_load_71 rfl rfl ?_
  refine bs_sipush hC (300 : Int32) dX3_load_72 rfl ?_
  refine bs_iremc hC dX3_load_75 (by decide) ?_
  refine bs_iload hC 1 dX3_load_76 rfl ?_
  refine bs_iadd hC dX3_load_78 ?_
  refine bs_sipush hC (300 : Int32) dX3_load_79 rfl ?_
  refine bs_icmp_ge hC 100 dX3_load_82 (by decide) (fun c17 => ?_) (fun c17 => ?_)
  · refine bs_lload hC 0 dX3_load_100 rfl ?_
    refine bs_lstore hC [(8, .long r9), (6, .long r9), (5, .int z8), (4, .int z7), (0, .ref (bd_a ε 7)), (3, .int x3)] dX3_load_102 (by decide) rfl ?_
    refine bs_aload_n hC 4 dX3_load_104 rfl rfl ?_
    refine bs_get hC (v := .ref (bd_a ε (43 + 2))) hin_X3 7 (cX_o7 ε S10) rfl 0 (by decide) mw_204 rfl dX3_load_105 ?_
    refine bs_iload_n hC 5 dX3_load_108 rfl rfl ?_
    refine bs_lload hC 1 dX3_load_109 rfl ?_
    refine bs_lload hC 0 dX3_load_111 rfl ?_
    refine bs_mminL hC mw_390 mw_391 mw_83 mw_392 (Nat.le_of_ble_eq_true rfl) (Nat.le_of_ble_eq_true rfl) dX3_load_113 ?_
    refine bs_callSN_v hC (rm := ({ frames := 0, cells := 0, slots := 0, locals := 0 } : Room)) [.ref (bd_a ε (43 + 2)), .int x3, .long (if r9 < r9 then r9 else r9)] [] (fun h => c_X9_lay_ (bd_l Γ) (bd_D Γ) ε 2 x3 (if r9 < r9 then r9 else r9) (by decide) S10 h) mw_368 nm_40 mw_367 mw_72 by_X9_lay_ ⟨rfl, rfl, by decide, by decide⟩ rfl rfl (Nat.le_of_ble_eq_true rfl) dX3_load_116 (fun r11 S12 eS12 => ?_)
    refine bs_iinc hC 5 [(3, .int (x3 + 1)), (8, .long r9), (6, .long r9), (5, .int z8), (4, .int z7), (0, .ref (bd_a ε 7))] dX3_load_119 rfl rfl (by decide) rfl ?_
    refine bs_goto hC 34 dX3_load_122 (by decide) ?_
    refine bs_some ?_
    refine bs_pick [5, 0] rfl ?_
    exact hk (x3 + 1) S12
  refine bs_aload_n hC 3 dX3_load_85 rfl rfl ?_
  refine bs_get hC (v := .ref (bd_a ε (43 + 2))) hin_X3 7 (cX_o7 ε S10) rfl 0 (by decide) mw_204 rfl dX3_load_86 ?_
  refine bs_iload hC 2 dX3_load_89 rfl ?_
  refine bs_iload hC 1 dX3_load_91 rfl ?_
  refine bs_iadd hC dX3_load_93 ?_
  refine bs_callSN_l hC (rm := ({ frames := 0, cells := 0, slots := 0, locals := 0 } : Room)) [.ref (bd_a ε (43 + 2)), .int (z7 + z8)] [] (fun h => c_X9_at_ (bd_l Γ) (bd_D Γ) ε 2 (z7 + z8) (by decide) S10 h) mw_386 nm_39 mw_385 mw_72 by_X9_at_ ⟨rfl, rfl, by decide, by decide⟩ rfl rfl (Nat.le_of_ble_eq_true rfl) dX3_load_94 (fun r13 S14 eS14 => ?_)
  refine bs_goto hC 102 dX3_load_97 (by decide) ?_
  refine bs_lstore hC [(8, .long r13), (6, .long r9), (5, .int z8), (4, .int z7), (0, .ref (bd_a ε 7)), (3, .int x3)] dX3_load_102 (by decide) rfl ?_
  refine bs_aload_n hC 4 dX3_load_104 rfl rfl ?_
  refine bs_get hC (v := .ref (bd_a ε (43 + 2))) hin_X3 7 (cX_o7 ε S14) rfl 0 (by decide) mw_204 rfl dX3_load_105 ?_
  refine bs_iload_n hC 5 dX3_load_108 rfl rfl ?_
  refine bs_lload hC 1 dX3_load_109 rfl ?_
  refine bs_lload hC 0 dX3_load_111 rfl ?_
  refine bs_mminL hC mw_390 mw_391 mw_83 mw_392 (Nat.le_of_ble_eq_true rfl) (Nat.le_of_ble_eq_true rfl) dX3_load_113 ?_
  refine bs_callSN_v hC (rm := ({ frames := 0, cells := 0, slots := 0, locals := 0 } : Room)) [.ref (bd_a ε (43 + 2)), .int x3, .long (if r13 < r9 then r13 else r9)] [] (fun h => c_X9_lay_ (bd_l Γ) (bd_D Γ) ε 2 x3 (if r13 < r9 then r13 else r9) (by decide) S14 h) mw_368 nm_40 mw_367 mw_72 by_X9_lay_ ⟨rfl, rfl, by decide, by decide⟩ rfl rfl (Nat.le_of_ble_eq_true rfl) dX3_load_116 (fun r15 S16 eS16 => ?_)
  refine bs_iinc hC 5 [(3, .int (x3 + 1)), (8, .long r13), (6, .long r9), (5, .int z8), (4, .int z7), (0, .ref (bd_a ε 7))] dX3_load_119 rfl rfl (by decide) rfl ?_
  refine bs_goto hC 34 dX3_load_122 (by decide) ?_
  refine bs_some ?_
  refine bs_pick [5, 0] rfl ?_
  exact hk (x3 + 1) S16
set_option maxRecDepth 100000 in
set_option maxHeartbeats 4000000 in
theorem b_X3_load {Γ : bd_G} {ε : bd_E} {t0 : Option (Unit × bd_T)} (hC : bd_C Γ cX3_load 10 RX3 none ({ frames := 1, cells := 0, slots := 0, locals := 23 } : Room) ε (cX ε) bd_vv t0) (k1 : Nat) (x2 : Int32) (hk1 : k1 < 3) (S : bd_T) : bd_S Γ 10 t0 ((f_X3_load k1 x2 S).bind some) (cX ε S) 0 [(0, .ref (bd_a ε 7)), (1, .ref (bd_a ε (43 + k1))), (2, .int x2)] [] := by
  unfold f_X3_load
  refine bs_iconst hC (0 : Int32) dX3_load_0 rfl ?_
  refine bs_istore_n hC [(3, .int (0 : Int32)), (0, .ref (bd_a ε 7)), (1, .ref (bd_a ε (43 + k1))), (2, .int x2)] dX3_load_1 rfl (by decide) rfl ?_
  refine bs_pick [1, 2, 3, 0] rfl ?_
  refine bs_loopK (fun (q : Int32 × bd_T) t => bd_S Γ 10 t0 t (cX ε (q.2)) 2 [(0, .ref (bd_a ε 7)), (1, .ref (bd_a ε (43 + k1))), (2, .int x2), (3, .int (q.1))] []) (fun (q : bd_T) t => bd_S Γ 10 t0 t (cX ε (q)) 30 [(0, .ref (bd_a ε 7))] []) (fun q => fb_X3_load_2 k1 x2 q.1 q.2) (fun _ => bs_none) (fun K hk hx q => lb_X3_load_2 hC k1 hk1 x2 (fun a0 S => hk (a0, S)) (fun  S => hx (S))  (q.1) (q.2)) (fun r => ?_) bd_K ((0 : Int32), S)
  obtain ⟨S6, rfl⟩ : ∃ z, z = r := ⟨_, rfl⟩
  show bd_S Γ 10 t0 (Option.bind _ _) (cX ε S6) 30 [(0, .ref (bd_a ε 7))] []
  try dsimp only
  refine bs_sipush hC (300 : Int32) dX3_load_30 rfl ?_
  refine bs_istore_n hC [(3, .int (300 : Int32)), (0, .ref (bd_a ε 7))] dX3_load_33 rfl (by decide) rfl ?_
  refine bs_pick [1, 0] rfl ?_
  refine bs_loopK (fun (q : Int32 × bd_T) t => bd_S Γ 10 t0 t (cX ε (q.2)) 34 [(0, .ref (bd_a ε 7)), (3, .int (q.1))] []) (fun (q : bd_T) t => bd_S Γ 10 t0 t (cX ε (q)) 125 [] []) (fun q => fb_X3_load_34 k1 q.1 q.2) (fun _ => bs_none) (fun K hk hx q => lb_X3_load_34 hC k1 hk1  (fun a0 S => hk (a0, S)) (fun  S => hx (S))  (q.1) (q.2)) (fun r => ?_) bd_K ((300 : Int32), S6)
  obtain ⟨S19, rfl⟩ : ∃ z, z = r := ⟨_, rfl⟩
  show bd_S Γ 10 t0 (Option.bind _ _) (cX ε S19) 125 [] []
  try dsimp only
  exact bs_vret hC dX3_load_125 rfl
theorem c_X3_load (l : Launch) (D : va_G) (ε : bd_E) (k1 : Nat) (x2 : Int32) (hk1 : k1 < 3) (S : bd_T) (h0 : (f_X3_load k1 x2 S).isSome = true) : bd_Con l yX3_load (Cond.code yX3_load cX3_load 10 none :: bd_tbl) ({ frames := 1, cells := 0, slots := 0, locals := 23 } : Room) D ε (cX ε) bd_vv [.ref (bd_a ε 7), .ref (bd_a ε (43 + k1)), .int x2] S (f_X3_load k1 x2 S) :=
  bd_con (by decide +kernel) (Nat.le_of_ble_eq_true rfl) ⟨rfl, rfl⟩ h0 (fun Γ _ _ hC => bs_eq bs_bs (b_X3_load hC k1 x2 hk1 S))
set_option maxRecDepth 100000 in
set_option maxHeartbeats 4000000 in
theorem b_J6_numberOfLeadingZeros_0f7a4 {Γ : bd_G} {ε : bd_E} {t0 : Option (Int32 × bd_T)} (hC : bd_C Γ cJ6_numberOfLeadingZeros_0f7a4 2 RJ6 (some .int) ({ frames := 0, cells := 0, slots := 0, locals := 0 } : Room) ε (cX ε) bd_vi t0) (x0 : Int32)  (S : bd_T) : bd_S Γ 2 t0 ((f_J6_numberOfLeadingZeros_0f7a4 x0 S).bind some) (cX ε S) 0 [(0, .int x0)] [] := by
  unfold f_J6_numberOfLeadingZeros_0f7a4
  refine bs_iload_n hC 0 dJ6_numberOfLeadingZeros_0f7a4_0 rfl rfl ?_
  refine bs_if_gt hC 15 dJ6_numberOfLeadingZeros_0f7a4_1 (by decide) (fun c32 => ?_) (fun c32 => ?_)
  · refine bs_bipush hC (31 : Int32) dJ6_numberOfLeadingZeros_0f7a4_15 rfl ?_
    refine bs_istore_n hC [(1, .int (31 : Int32)), (0, .int x0)] dJ6_numberOfLeadingZeros_0f7a4_17 rfl (by decide) rfl ?_
    refine bs_iload_n hC 1 dJ6_numberOfLeadingZeros_0f7a4_18 rfl rfl ?_
    refine bs_ldcw hC (65536 : Int32) mw_425 dJ6_numberOfLeadingZeros_0f7a4_19 ?_
    refine bs_icmp_lt hC 33 dJ6_numberOfLeadingZeros_0f7a4_22 (by decide) (fun c30 => ?_) (fun c30 => ?_)
    · refine bs_iload_n hC 1 dJ6_numberOfLeadingZeros_0f7a4_33 rfl rfl ?_
      refine bs_sipush hC (256 : Int32) dJ6_numberOfLeadingZeros_0f7a4_34 rfl ?_
      refine bs_icmp_lt hC 48 dJ6_numberOfLeadingZeros_0f7a4_37 (by decide) (fun c14 => ?_) (fun c14 => ?_)
      · refine bs_iload_n hC 1 dJ6_numberOfLeadingZeros_0f7a4_48 rfl rfl ?_
        refine bs_bipush hC (16 : Int32) dJ6_numberOfLeadingZeros_0f7a4_49 rfl ?_
        refine bs_icmp_lt hC 61 dJ6_numberOfLeadingZeros_0f7a4_51 (by decide) (fun c6 => ?_) (fun c6 => ?_)
        · refine bs_iload_n hC 1 dJ6_numberOfLeadingZeros_0f7a4_61 rfl rfl ?_
          refine bs_iconst hC (4 : Int32) dJ6_numberOfLeadingZeros_0f7a4_62 rfl ?_
          refine bs_icmp_lt hC 73 dJ6_numberOfLeadingZeros_0f7a4_63 (by decide) (fun c2 => ?_) (fun c2 => ?_)
          · refine bs_iload_n hC 0 dJ6_numberOfLeadingZeros_0f7a4_73 rfl rfl ?_
            refine bs_iload_n hC 1 dJ6_numberOfLeadingZeros_0f7a4_74 rfl rfl ?_
            refine bs_iconst hC (1 : Int32) dJ6_numberOfLeadingZeros_0f7a4_75 rfl ?_
            refine bs_iushr hC dJ6_numberOfLeadingZeros_0f7a4_76 ?_
            refine bs_isub hC dJ6_numberOfLeadingZeros_0f7a4_77 ?_
            exact bs_iret hC dJ6_numberOfLeadingZeros_0f7a4_78 rfl
          refine bs_iinc hC 0 [(1, .int ((31 : Int32) + (-2))), (0, .int x0)] dJ6_numberOfLeadingZeros_0f7a4_66 rfl rfl (by decide) rfl ?_
          refine bs_iload_n hC 1 dJ6_numberOfLeadingZeros_0f7a4_69 rfl rfl ?_
          refine bs_iconst hC (2 : Int32) dJ6_numberOfLeadingZeros_0f7a4_70 rfl ?_
          refine bs_iushr hC dJ6_numberOfLeadingZeros_0f7a4_71 ?_
          refine bs_leti (fun z1 ez1 => ?_)
          refine bs_istore_n hC [(0, .int z1), (1, .int ((31 : Int32) + (-2)))] dJ6_numberOfLeadingZeros_0f7a4_72 rfl (by decide) rfl ?_
          refine bs_iload_n hC 1 dJ6_numberOfLeadingZeros_0f7a4_73 rfl rfl ?_
          refine bs_iload_n hC 0 dJ6_numberOfLeadingZeros_0f7a4_74 rfl rfl ?_
          refine bs_iconst hC (1 : Int32) dJ6_numberOfLeadingZeros_0f7a4_75 rfl ?_
          refine bs_iushr hC dJ6_numberOfLeadingZeros_0f7a4_76 ?_
          refine bs_isub hC dJ6_numberOfLeadingZeros_0f7a4_77 ?_
          exact bs_iret hC dJ6_numberOfLeadingZeros_0f7a4_78 rfl
        refine bs_iinc hC 0 [(1, .int ((31 : Int32) + (-4))), (0, .int x0)] dJ6_numberOfLeadingZeros_0f7a4_54 rfl rfl (by decide) rfl ?_
        refine bs_iload_n hC 1 dJ6_numberOfLeadingZeros_0f7a4_57 rfl rfl ?_
        refine bs_iconst hC (4 : Int32) dJ6_numberOfLeadingZeros_0f7a4_58 rfl ?_
        refine bs_iushr hC dJ6_numberOfLeadingZeros_0f7a4_59 ?_
        refine bs_leti (fun z3 ez3 => ?_)
        refine bs_istore_n hC [(0, .int z3), (1, .int ((31 : Int32) + (-4)))] dJ6_numberOfLeadingZeros_0f7a4_60 rfl (by decide) rfl ?_
        refine bs_iload_n hC 0 dJ6_numberOfLeadingZeros_0f7a4_61 rfl rfl ?_
        refine bs_iconst hC (4 : Int32) dJ6_numberOfLeadingZeros_0f7a4_62 rfl ?_
        refine bs_icmp_lt hC 73 dJ6_numberOfLeadingZeros_0f7a4_63 (by decide) (fun c5 => ?_) (fun c5 => ?_)
        · refine bs_iload_n hC 1 dJ6_numberOfLeadingZeros_0f7a4_73 rfl rfl ?_
          refine bs_iload_n hC 0 dJ6_numberOfLeadingZeros_0f7a4_74 rfl rfl ?_
          refine bs_iconst hC (1 : Int32) dJ6_numberOfLeadingZeros_0f7a4_75 rfl ?_
          refine bs_iushr hC dJ6_numberOfLeadingZeros_0f7a4_76 ?_
          refine bs_isub hC dJ6_numberOfLeadingZeros_0f7a4_77 ?_
          exact bs_iret hC dJ6_numberOfLeadingZeros_0f7a4_78 rfl
        refine bs_iinc hC 1 [(1, .int (((31 : Int32) + (-4)) + (-2))), (0, .int z3)] dJ6_numberOfLeadingZeros_0f7a4_66 rfl rfl (by decide) rfl ?_
        refine bs_iload_n hC 1 dJ6_numberOfLeadingZeros_0f7a4_69 rfl rfl ?_
        refine bs_iconst hC (2 : Int32) dJ6_numberOfLeadingZeros_0f7a4_70 rfl ?_
        refine bs_iushr hC dJ6_numberOfLeadingZeros_0f7a4_71 ?_
        refine bs_leti (fun z4 ez4 => ?_)
        refine bs_istore_n hC [(0, .int z4), (1, .int (((31 : Int32) + (-4)) + (-2)))] dJ6_numberOfLeadingZeros_0f7a4_72 rfl (by decide) rfl ?_
        refine bs_iload_n hC 1 dJ6_numberOfLeadingZeros_0f7a4_73 rfl rfl ?_
        refine bs_iload_n hC 0 dJ6_numberOfLeadingZeros_0f7a4_74 rfl rfl ?_
        refine bs_iconst hC (1 : Int32) dJ6_numberOfLeadingZeros_0f7a4_75 rfl ?_
        refine bs_iushr hC dJ6_numberOfLeadingZeros_0f7a4_76 ?_
        refine bs_isub hC dJ6_numberOfLeadingZeros_0f7a4_77 ?_
        exact bs_iret hC dJ6_numberOfLeadingZeros_0f7a4_78 rfl
      refine bs_iinc hC 0 [(1, .int ((31 : Int32) + (-8))), (0, .int x0)] dJ6_numberOfLeadingZeros_0f7a4_40 rfl rfl (by decide) rfl ?_
      refine bs_iload_n hC 1 dJ6_numberOfLeadingZeros_0f7a4_43 rfl rfl ?_
      refine bs_bipush hC (8 : Int32) dJ6_numberOfLeadingZeros_0f7a4_44 rfl ?_
      refine bs_iushr hC dJ6_numberOfLeadingZeros_0f7a4_46 ?_
      refine bs_leti (fun z7 ez7 => ?_)
      refine bs_istore_n hC [(0, .int z7), (1, .int ((31 : Int32) + (-8)))] dJ6_numberOfLeadingZeros_0f7a4_47 rfl (by decide) rfl ?_
      refine bs_iload_n hC 0 dJ6_numberOfLeadingZeros_0f7a4_48 rfl rfl ?_
      refine bs_bipush hC (16 : Int32) dJ6_numberOfLeadingZeros_0f7a4_49 rfl ?_
      refine bs_icmp_lt hC 61 dJ6_numberOfLeadingZeros_0f7a4_51 (by decide) (fun c13 => ?_) (fun c13 => ?_)
      · refine bs_iload_n hC 0 dJ6_numberOfLeadingZeros_0f7a4_61 rfl rfl ?_
        refine bs_iconst hC (4 : Int32) dJ6_numberOfLeadingZeros_0f7a4_62 rfl ?_
        refine bs_icmp_lt hC 73 dJ6_numberOfLeadingZeros_0f7a4_63 (by decide) (fun c9 => ?_) (fun c9 => ?_)
        · refine bs_iload_n hC 1 dJ6_numberOfLeadingZeros_0f7a4_73 rfl rfl ?_
          refine bs_iload_n hC 0 dJ6_numberOfLeadingZeros_0f7a4_74 rfl rfl ?_
          refine bs_iconst hC (1 : Int32) dJ6_numberOfLeadingZeros_0f7a4_75 rfl ?_
          refine bs_iushr hC dJ6_numberOfLeadingZeros_0f7a4_76 ?_
          refine bs_isub hC dJ6_numberOfLeadingZeros_0f7a4_77 ?_
          exact bs_iret hC dJ6_numberOfLeadingZeros_0f7a4_78 rfl
        refine bs_iinc hC 1 [(1, .int (((31 : Int32) + (-8)) + (-2))), (0, .int z7)] dJ6_numberOfLeadingZeros_0f7a4_66 rfl rfl (by decide) rfl ?_
        refine bs_iload_n hC 1 dJ6_numberOfLeadingZeros_0f7a4_69 rfl rfl ?_
        refine bs_iconst hC (2 : Int32) dJ6_numberOfLeadingZeros_0f7a4_70 rfl ?_
        refine bs_iushr hC dJ6_numberOfLeadingZeros_0f7a4_71 ?_
        refine bs_leti (fun z8 ez8 => ?_)
        refine bs_istore_n hC [(0, .int z8), (1, .int (((31 : Int32) + (-8)) + (-2)))] dJ6_numberOfLeadingZeros_0f7a4_72 rfl (by decide) rfl ?_
        refine bs_iload_n hC 1 dJ6_numberOfLeadingZeros_0f7a4_73 rfl rfl ?_
        refine bs_iload_n hC 0 dJ6_numberOfLeadingZeros_0f7a4_74 rfl rfl ?_
        refine bs_iconst hC (1 : Int32) dJ6_numberOfLeadingZeros_0f7a4_75 rfl ?_
        refine bs_iushr hC dJ6_numberOfLeadingZeros_0f7a4_76 ?_
        refine bs_isub hC dJ6_numberOfLeadingZeros_0f7a4_77 ?_
        exact bs_iret hC dJ6_numberOfLeadingZeros_0f7a4_78 rfl
      refine bs_iinc hC 1 [(1, .int (((31 : Int32) + (-8)) + (-4))), (0, .int z7)] dJ6_numberOfLeadingZeros_0f7a4_54 rfl rfl (by decide) rfl ?_
      refine bs_iload_n hC 1 dJ6_numberOfLeadingZeros_0f7a4_57 rfl rfl ?_
      refine bs_iconst hC (4 : Int32) dJ6_numberOfLeadingZeros_0f7a4_58 rfl ?_
      refine bs_iushr hC dJ6_numberOfLeadingZeros_0f7a4_59 ?_
      refine bs_leti (fun z10 ez10 => ?_)
      refine bs_istore_n hC [(0, .int z10), (1, .int (((31 : Int32) + (-8)) + (-4)))] dJ6_numberOfLeadingZeros_0f7a4_60 rfl (by decide) rfl ?_
      refine bs_iload_n hC 0 dJ6_numberOfLeadingZeros_0f7a4_61 rfl rfl ?_
      refine bs_iconst hC (4 : Int32) dJ6_numberOfLeadingZeros_0f7a4_62 rfl ?_
      refine bs_icmp_lt hC 73 dJ6_numberOfLeadingZeros_0f7a4_63 (by decide) (fun c12 => ?_) (fun c12 => ?_)
      · refine bs_iload_n hC 1 dJ6_numberOfLeadingZeros_0f7a4_73 rfl rfl ?_
        refine bs_iload_n hC 0 dJ6_numberOfLeadingZeros_0f7a4_74 rfl rfl ?_
        refine bs_iconst hC (1 : Int32) dJ6_numberOfLeadingZeros_0f7a4_75 rfl ?_
        refine bs_iushr hC dJ6_numberOfLeadingZeros_0f7a4_76 ?_
        refine bs_isub hC dJ6_numberOfLeadingZeros_0f7a4_77 ?_
        exact bs_iret hC dJ6_numberOfLeadingZeros_0f7a4_78 rfl
      refine bs_iinc hC 1 [(1, .int ((((31 : Int32) + (-8)) + (-4)) + (-2))), (0, .int z10)] dJ6_numberOfLeadingZeros_0f7a4_66 rfl rfl (by decide) rfl ?_
      refine bs_iload_n hC 1 dJ6_numberOfLeadingZeros_0f7a4_69 rfl rfl ?_
      refine bs_iconst hC (2 : Int32) dJ6_numberOfLeadingZeros_0f7a4_70 rfl ?_
      refine bs_iushr hC dJ6_numberOfLeadingZeros_0f7a4_71 ?_
      refine bs_leti (fun z11 ez11 => ?_)
      refine bs_istore_n hC [(0, .int z11), (1, .int ((((31 : Int32) + (-8)) + (-4)) + (-2)))] dJ6_numberOfLeadingZeros_0f7a4_72 rfl (by decide) rfl ?_
      refine bs_iload_n hC 1 dJ6_numberOfLeadingZeros_0f7a4_73 rfl rfl ?_
      refine bs_iload_n hC 0 dJ6_numberOfLeadingZeros_0f7a4_74 rfl rfl ?_
      refine bs_iconst hC (1 : Int32) dJ6_numberOfLeadingZeros_0f7a4_75 rfl ?_
      refine bs_iushr hC dJ6_numberOfLeadingZeros_0f7a4_76 ?_
      refine bs_isub hC dJ6_numberOfLeadingZeros_0f7a4_77 ?_
      exact bs_iret hC dJ6_numberOfLeadingZeros_0f7a4_78 rfl
    refine bs_iinc hC 0 [(1, .int ((31 : Int32) + (-16))), (0, .int x0)] dJ6_numberOfLeadingZeros_0f7a4_25 rfl rfl (by decide) rfl ?_
    refine bs_iload_n hC 1 dJ6_numberOfLeadingZeros_0f7a4_28 rfl rfl ?_
    refine bs_bipush hC (16 : Int32) dJ6_numberOfLeadingZeros_0f7a4_29 rfl ?_
    refine bs_iushr hC dJ6_numberOfLeadingZeros_0f7a4_31 ?_
    refine bs_leti (fun z15 ez15 => ?_)
    refine bs_istore_n hC [(0, .int z15), (1, .int ((31 : Int32) + (-16)))] dJ6_numberOfLeadingZeros_0f7a4_32 rfl (by decide) rfl ?_
    refine bs_iload_n hC 0 dJ6_numberOfLeadingZeros_0f7a4_33 rfl rfl ?_
    refine bs_sipush hC (256 : Int32) dJ6_numberOfLeadingZeros_0f7a4_34 rfl ?_
    refine bs_icmp_lt hC 48 dJ6_numberOfLeadingZeros_0f7a4_37 (by decide) (fun c29 => ?_) (fun c29 => ?_)
    · refine bs_iload_n hC 0 dJ6_numberOfLeadingZeros_0f7a4_48 rfl rfl ?_
      refine bs_bipush hC (16 : Int32) dJ6_numberOfLeadingZeros_0f7a4_49 rfl ?_
      refine bs_icmp_lt hC 61 dJ6_numberOfLeadingZeros_0f7a4_51 (by decide) (fun c21 => ?_) (fun c21 => ?_)
      · refine bs_iload_n hC 0 dJ6_numberOfLeadingZeros_0f7a4_61 rfl rfl ?_
        refine bs_iconst hC (4 : Int32) dJ6_numberOfLeadingZeros_0f7a4_62 rfl ?_
        refine bs_icmp_lt hC 73 dJ6_numberOfLeadingZeros_0f7a4_63 (by decide) (fun c17 => ?_) (fun c17 => ?_)
        · refine bs_iload_n hC 1 dJ6_numberOfLeadingZeros_0f7a4_73 rfl rfl ?_
          refine bs_iload_n hC 0 dJ6_numberOfLeadingZeros_0f7a4_74 rfl rfl ?_
          refine bs_iconst hC (1 : Int32) dJ6_numberOfLeadingZeros_0f7a4_75 rfl ?_
          refine bs_iushr hC dJ6_numberOfLeadingZeros_0f7a4_76 ?_
          refine bs_isub hC dJ6_numberOfLeadingZeros_0f7a4_77 ?_
          exact bs_iret hC dJ6_numberOfLeadingZeros_0f7a4_78 rfl
        refine bs_iinc hC 1 [(1, .int (((31 : Int32) + (-16)) + (-2))), (0, .int z15)] dJ6_numberOfLeadingZeros_0f7a4_66 rfl rfl (by decide) rfl ?_
        refine bs_iload_n hC 1 dJ6_numberOfLeadingZeros_0f7a4_69 rfl rfl ?_
        refine bs_iconst hC (2 : Int32) dJ6_numberOfLeadingZeros_0f7a4_70 rfl ?_
        refine bs_iushr hC dJ6_numberOfLeadingZeros_0f7a4_71 ?_
        refine bs_leti (fun z16 ez16 => ?_)
        refine bs_istore_n hC [(0, .int z16), (1, .int (((31 : Int32) + (-16)) + (-2)))] dJ6_numberOfLeadingZeros_0f7a4_72 rfl (by decide) rfl ?_
        refine bs_iload_n hC 1 dJ6_numberOfLeadingZeros_0f7a4_73 rfl rfl ?_
        refine bs_iload_n hC 0 dJ6_numberOfLeadingZeros_0f7a4_74 rfl rfl ?_
        refine bs_iconst hC (1 : Int32) dJ6_numberOfLeadingZeros_0f7a4_75 rfl ?_
        refine bs_iushr hC dJ6_numberOfLeadingZeros_0f7a4_76 ?_
        refine bs_isub hC dJ6_numberOfLeadingZeros_0f7a4_77 ?_
        exact bs_iret hC dJ6_numberOfLeadingZeros_0f7a4_78 rfl
      refine bs_iinc hC 1 [(1, .int (((31 : Int32) + (-16)) + (-4))), (0, .int z15)] dJ6_numberOfLeadingZeros_0f7a4_54 rfl rfl (by decide) rfl ?_
      refine bs_iload_n hC 1 dJ6_numberOfLeadingZeros_0f7a4_57 rfl rfl ?_
      refine bs_iconst hC (4 : Int32) dJ6_numberOfLeadingZeros_0f7a4_58 rfl ?_
      refine bs_iushr hC dJ6_numberOfLeadingZeros_0f7a4_59 ?_
      refine bs_leti (fun z18 ez18 => ?_)
      refine bs_istore_n hC [(0, .int z18), (1, .int (((31 : Int32) + (-16)) + (-4)))] dJ6_numberOfLeadingZeros_0f7a4_60 rfl (by decide) rfl ?_
      refine bs_iload_n hC 0 dJ6_numberOfLeadingZeros_0f7a4_61 rfl rfl ?_
      refine bs_iconst hC (4 : Int32) dJ6_numberOfLeadingZeros_0f7a4_62 rfl ?_
      refine bs_icmp_lt hC 73 dJ6_numberOfLeadingZeros_0f7a4_63 (by decide) (fun c20 => ?_) (fun c20 => ?_)
      · refine bs_iload_n hC 1 dJ6_numberOfLeadingZeros_0f7a4_73 rfl rfl ?_
        refine bs_iload_n hC 0 dJ6_numberOfLeadingZeros_0f7a4_74 rfl rfl ?_
        refine bs_iconst hC (1 : Int32) dJ6_numberOfLeadingZeros_0f7a4_75 rfl ?_
        refine bs_iushr hC dJ6_numberOfLeadingZeros_0f7a4_76 ?_
        refine bs_isub hC dJ6_numberOfLeadingZeros_0f7a4_77 ?_
        exact bs_iret hC dJ6_numberOfLeadingZeros_0f7a4_78 rfl
      refine bs_iinc hC 1 [(1, .int ((((31 : Int32) + (-16)) + (-4)) + (-2))), (0, .int z18)] dJ6_numberOfLeadingZeros_0f7a4_66 rfl rfl (by decide) rfl ?_
      refine bs_iload_n hC 1 dJ6_numberOfLeadingZeros_0f7a4_69 rfl rfl ?_
      refine bs_iconst hC (2 : Int32) dJ6_numberOfLeadingZeros_0f7a4_70 rfl ?_
      refine bs_iushr hC dJ6_numberOfLeadingZeros_0f7a4_71 ?_
      refine bs_leti (fun z19 ez19 => ?_)
      refine bs_istore_n hC [(0, .int z19), (1, .int ((((31 : Int32) + (-16)) + (-4)) + (-2)))] dJ6_numberOfLeadingZeros_0f7a4_72 rfl (by decide) rfl ?_
      refine bs_iload_n hC 1 dJ6_numberOfLeadingZeros_0f7a4_73 rfl rfl ?_
      refine bs_iload_n hC 0 dJ6_numberOfLeadingZeros_0f7a4_74 rfl rfl ?_
      refine bs_iconst hC (1 : Int32) dJ6_numberOfLeadingZeros_0f7a4_75 rfl ?_
      refine bs_iushr hC dJ6_numberOfLeadingZeros_0f7a4_76 ?_
      refine bs_isub hC dJ6_numberOfLeadingZeros_0f7a4_77 ?_
      exact bs_iret hC dJ6_numberOfLeadingZeros_0f7a4_78 rfl
    refine bs_iinc hC 1 [(1, .int (((31 : Int32) + (-16)) + (-8))), (0, .int z15)] dJ6_numberOfLeadingZeros_0f7a4_40 rfl rfl (by decide) rfl ?_
    refine bs_iload_n hC 1 dJ6_numberOfLeadingZeros_0f7a4_43 rfl rfl ?_
    refine bs_bipush hC (8 : Int32) dJ6_numberOfLeadingZeros_0f7a4_44 rfl ?_
    refine bs_iushr hC dJ6_numberOfLeadingZeros_0f7a4_46 ?_
    refine bs_leti (fun z22 ez22 => ?_)
    refine bs_istore_n hC [(0, .int z22), (1, .int (((31 : Int32) + (-16)) + (-8)))] dJ6_numberOfLeadingZeros_0f7a4_47 rfl (by decide) rfl ?_
    refine bs_iload_n hC 0 dJ6_numberOfLeadingZeros_0f7a4_48 rfl rfl ?_
    refine bs_bipush hC (16 : Int32) dJ6_numberOfLeadingZeros_0f7a4_49 rfl ?_
    refine bs_icmp_lt hC 61 dJ6_numberOfLeadingZeros_0f7a4_51 (by decide) (fun c28 => ?_) (fun c28 => ?_)
    · refine bs_iload_n hC 0 dJ6_numberOfLeadingZeros_0f7a4_61 rfl rfl ?_
      refine bs_iconst hC (4 : Int32) dJ6_numberOfLeadingZeros_0f7a4_62 rfl ?_
      refine bs_icmp_lt hC 73 dJ6_numberOfLeadingZeros_0f7a4_63 (by decide) (fun c24 => ?_) (fun c24 => ?_)
      · refine bs_iload_n hC 1 dJ6_numberOfLeadingZeros_0f7a4_73 rfl rfl ?_
        refine bs_iload_n hC 0 dJ6_numberOfLeadingZeros_0f7a4_74 rfl rfl ?_
        refine bs_iconst hC (1 : Int32) dJ6_numberOfLeadingZeros_0f7a4_75 rfl ?_
        refine bs_iushr hC dJ6_numberOfLeadingZeros_0f7a4_76 ?_
        refine bs_isub hC dJ6_numberOfLeadingZeros_0f7a4_77 ?_
        exact bs_iret hC dJ6_numberOfLeadingZeros_0f7a4_78 rfl
      refine bs_iinc hC 1 [(1, .int ((((31 : Int32) + (-16)) + (-8)) + (-2))), (0, .int z22)] dJ6_numberOfLeadingZeros_0f7a4_66 rfl rfl (by decide) rfl ?_
      refine bs_iload_n hC 1 dJ6_numberOfLeadingZeros_0f7a4_69 rfl rfl ?_
      refine bs_iconst hC (2 : Int32) dJ6_numberOfLeadingZeros_0f7a4_70 rfl ?_
      refine bs_iushr hC dJ6_numberOfLeadingZeros_0f7a4_71 ?_
      refine bs_leti (fun z23 ez23 => ?_)
      refine bs_istore_n hC [(0, .int z23), (1, .int ((((31 : Int32) + (-16)) + (-8)) + (-2)))] dJ6_numberOfLeadingZeros_0f7a4_72 rfl (by decide) rfl ?_
      refine bs_iload_n hC 1 dJ6_numberOfLeadingZeros_0f7a4_73 rfl rfl ?_
      refine bs_iload_n hC 0 dJ6_numberOfLeadingZeros_0f7a4_74 rfl rfl ?_
      refine bs_iconst hC (1 : Int32) dJ6_numberOfLeadingZeros_0f7a4_75 rfl ?_
      refine bs_iushr hC dJ6_numberOfLeadingZeros_0f7a4_76 ?_
      refine bs_isub hC dJ6_numberOfLeadingZeros_0f7a4_77 ?_
      exact bs_iret hC dJ6_numberOfLeadingZeros_0f7a4_78 rfl
    refine bs_iinc hC 1 [(1, .int ((((31 : Int32) + (-16)) + (-8)) + (-4))), (0, .int z22)] dJ6_numberOfLeadingZeros_0f7a4_54 rfl rfl (by decide) rfl ?_
    refine bs_iload_n hC 1 dJ6_numberOfLeadingZeros_0f7a4_57 rfl rfl ?_
    refine bs_iconst hC (4 : Int32) dJ6_numberOfLeadingZeros_0f7a4_58 rfl ?_
    refine bs_iushr hC dJ6_numberOfLeadingZeros_0f7a4_59 ?_
    refine bs_leti (fun z25 ez25 => ?_)
    refine bs_istore_n hC [(0, .int z25), (1, .int ((((31 : Int32) + (-16)) + (-8)) + (-4)))] dJ6_numberOfLeadingZeros_0f7a4_60 rfl (by decide) rfl ?_
    refine bs_iload_n hC 0 dJ6_numberOfLeadingZeros_0f7a4_61 rfl rfl ?_
    refine bs_iconst hC (4 : Int32) dJ6_numberOfLeadingZeros_0f7a4_62 rfl ?_
    refine bs_icmp_lt hC 73 dJ6_numberOfLeadingZeros_0f7a4_63 (by decide) (fun c27 => ?_) (fun c27 => ?_)
    · refine bs_iload_n hC 1 dJ6_numberOfLeadingZeros_0f7a4_73 rfl rfl ?_
      refine bs_iload_n hC 0 dJ6_numberOfLeadingZeros_0f7a4_74 rfl rfl ?_
      refine bs_iconst hC (1 : Int32) dJ6_numberOfLeadingZeros_0f7a4_75 rfl ?_
      refine bs_iushr hC dJ6_numberOfLeadingZeros_0f7a4_76 ?_
      refine bs_isub hC dJ6_numberOfLeadingZeros_0f7a4_77 ?_
      exact bs_iret hC dJ6_numberOfLeadingZeros_0f7a4_78 rfl
    refine bs_iinc hC 1 [(1, .int (((((31 : Int32) + (-16)) + (-8)) + (-4)) + (-2))), (0, .int z25)] dJ6_numberOfLeadingZeros_0f7a4_66 rfl rfl (by decide) rfl ?_
    refine bs_iload_n hC 1 dJ6_numberOfLeadingZeros_0f7a4_69 rfl rfl ?_
    refine bs_iconst hC (2 : Int32) dJ6_numberOfLeadingZeros_0f7a4_70 rfl ?_
    refine bs_iushr hC dJ6_numberOfLeadingZeros_0f7a4_71 ?_
    refine bs_leti (fun z26 ez26 => ?_)
    refine bs_istore_n hC [(0, .int z26), (1, .int (((((31 : Int32) + (-16)) + (-8)) + (-4)) + (-2)))] dJ6_numberOfLeadingZeros_0f7a4_72 rfl (by decide) rfl ?_
    refine bs_iload_n hC 1 dJ6_numberOfLeadingZeros_0f7a4_73 rfl rfl ?_
    refine bs_iload_n hC 0 dJ6_numberOfLeadingZeros_0f7a4_74 rfl rfl ?_
    refine bs_iconst hC (1 : Int32) dJ6_numberOfLeadingZeros_0f7a4_75 rfl ?_
    refine bs_iushr hC dJ6_numberOfLeadingZeros_0f7a4_76 ?_
    refine bs_isub hC dJ6_numberOfLeadingZeros_0f7a4_77 ?_
    exact bs_iret hC dJ6_numberOfLeadingZeros_0f7a4_78 rfl
  refine bs_iload_n hC 0 dJ6_numberOfLeadingZeros_0f7a4_4 rfl rfl ?_
  refine bs_if_ne hC 13 dJ6_numberOfLeadingZeros_0f7a4_5 (by decide) (fun c31 => ?_) (fun c31 => ?_)
  · refine bs_bipush hC (32 : Int32) dJ6_numberOfLeadingZeros_0f7a4_8 rfl ?_
    refine bs_goto hC 14 dJ6_numberOfLeadingZeros_0f7a4_10 (by decide) ?_
    exact bs_iret hC dJ6_numberOfLeadingZeros_0f7a4_14 rfl
  refine bs_iconst hC (0 : Int32) dJ6_numberOfLeadingZeros_0f7a4_13 rfl ?_
  exact bs_iret hC dJ6_numberOfLeadingZeros_0f7a4_14 rfl
theorem c_J6_numberOfLeadingZeros_0f7a4 (l : Launch) (D : va_G) (ε : bd_E) (x0 : Int32)  (S : bd_T) (h0 : (f_J6_numberOfLeadingZeros_0f7a4 x0 S).isSome = true) : bd_Con l yJ6_numberOfLeadingZeros_0f7a4 (Cond.code yJ6_numberOfLeadingZeros_0f7a4 cJ6_numberOfLeadingZeros_0f7a4 2 (some .int) :: bd_tbl) ({ frames := 0, cells := 0, slots := 0, locals := 0 } : Room) D ε (cX ε) bd_vi [.int x0] S (f_J6_numberOfLeadingZeros_0f7a4 x0 S) :=
  bd_con (by decide +kernel) (Nat.le_of_ble_eq_true rfl) ⟨rfl, rfl⟩ h0 (fun Γ _ _ hC => bs_eq bs_bs (b_J6_numberOfLeadingZeros_0f7a4 hC x0 S))
set_option maxRecDepth 100000 in
set_option maxHeartbeats 4000000 in
theorem b_X3_over {Γ : bd_G} {ε : bd_E} {t0 : Option (Int64 × bd_T)} (hC : bd_C Γ cX3_over 5 RX3 (some .long) ({ frames := 1, cells := 0, slots := 0, locals := 21 } : Room) ε (cX ε) bd_vl t0) (x1 : Int32) (x2 : Int32)  (S : bd_T) : bd_S Γ 5 t0 ((f_X3_over x1 x2 S).bind some) (cX ε S) 0 [(0, .ref (bd_a ε 7)), (1, .int x1), (2, .int x2)] [] := by
  unfold f_X3_over
  refine bs_bipush hC (31 : Int32) dX3_over_0 rfl ?_
  refine bs_iload_n hC 2 dX3_over_2 rfl rfl ?_
  refine bs_iload_n hC 1 dX3_over_3 rfl rfl ?_
  refine bs_isub hC dX3_over_4 ?_
  refine bs_iconst hC (1 : Int32) dX3_over_5 rfl ?_
  refine bs_iadd hC dX3_over_6 ?_
  refine bs_callS_i hC (rm := ({ frames := 0, cells := 0, slots := 0, locals := 0 } : Room)) [.int ((x2 - x1) + (1 : Int32))] [.int (31 : Int32)] (fun h => c_J6_numberOfLeadingZeros_0f7a4 (bd_l Γ) (bd_D Γ) ε ((x2 - x1) + (1 : Int32)) S h) mw_424 mw_422 mw_423 mw_84 by_J6_numberOfLeadingZeros_0f7a4 ⟨rfl, rfl, by decide, by decide⟩ rfl rfl (Nat.le_of_ble_eq_true rfl) dX3_over_7 (fun r1 S2 eS2 => ?_)
  refine bs_isub hC dX3_over_10 ?_
  refine bs_leti (fun z3 ez3 => ?_)
  refine bs_istore_n hC [(3, .int z3), (0, .ref (bd_a ε 7)), (1, .int x1), (2, .int x2)] dX3_over_11 rfl (by decide) rfl ?_
  refine bs_iload_n hC 0 dX3_over_12 rfl rfl ?_
  refine bs_sipush hC (300 : Int32) dX3_over_13 rfl ?_
  refine bs_imul hC dX3_over_16 ?_
  refine bs_leti (fun z4 ez4 => ?_)
  refine bs_istore hC [(4, .int z4), (3, .int z3), (0, .ref (bd_a ε 7)), (1, .int x1), (2, .int x2)] dX3_over_17 (by decide) rfl ?_
  refine bs_aload_n hC 2 dX3_over_19 rfl rfl ?_
  refine bs_get hC (v := .ref (bd_a ε (43 + 2))) hin_X3 7 (cX_o7 ε S2) rfl 0 (by decide) mw_204 rfl dX3_over_20 ?_
  refine bs_iload hC 0 dX3_over_23 rfl ?_
  refine bs_iload_n hC 3 dX3_over_25 rfl rfl ?_
  refine bs_iadd hC dX3_over_26 ?_
  refine bs_callSN_l hC (rm := ({ frames := 0, cells := 0, slots := 0, locals := 0 } : Room)) [.ref (bd_a ε (43 + 2)), .int (z4 + x1)] [] (fun h => c_X9_at_ (bd_l Γ) (bd_D Γ) ε 2 (z4 + x1) (by decide) S2 h) mw_386 nm_39 mw_385 mw_72 by_X9_at_ ⟨rfl, rfl, by decide, by decide⟩ rfl rfl (Nat.le_of_ble_eq_true rfl) dX3_over_27 (fun r5 S6 eS6 => ?_)
  refine bs_aload_n hC 2 dX3_over_30 rfl rfl ?_
  refine bs_get hC (v := .ref (bd_a ε (43 + 2))) hin_X3 7 (cX_o7 ε S6) rfl 0 (by decide) mw_204 rfl dX3_over_31 ?_
  refine bs_iload hC 0 dX3_over_34 rfl ?_
  refine bs_iload_n hC 4 dX3_over_36 rfl rfl ?_
  refine bs_iadd hC dX3_over_37 ?_
  refine bs_iconst hC (1 : Int32) dX3_over_38 rfl ?_
  refine bs_iadd hC dX3_over_39 ?_
  refine bs_iconst hC (1 : Int32) dX3_over_40 rfl ?_
  refine bs_iload_n hC 1 dX3_over_41 rfl rfl ?_
  refine bs_ishl hC dX3_over_42 ?_
  refine bs_isub hC dX3_over_43 ?_
  refine bs_callSN_l hC (rm := ({ frames := 0, cells := 0, slots := 0, locals := 0 } : Room)) [.ref (bd_a ε (43 + 2)), .int (((z4 + x2) + (1 : Int32)) - ((1 : Int32) <<< (z3 &&& 31)))] [.long r5] (fun h => c_X9_at_ (bd_l Γ) (bd_D Γ) ε 2 (((z4 + x2) + (1 : Int32)) - ((1 : Int32) <<< (z3 &&& 31))) (by decide) S6 h) mw_386 nm_39 mw_385 mw_72 by_X9_at_ ⟨rfl, rfl, by decide, by decide⟩ rfl rfl (Nat.le_of_ble_eq_true rfl) dX3_over_44 (fun r7 S8 eS8 => ?_)
  refine bs_mminL hC mw_390 mw_391 mw_83 mw_392 (Nat.le_of_ble_eq_true rfl) (Nat.le_of_ble_eq_true rfl) dX3_over_47 ?_
  exact bs_lret hC dX3_over_50 rfl
theorem c_X3_over (l : Launch) (D : va_G) (ε : bd_E) (x1 : Int32) (x2 : Int32)  (S : bd_T) (h0 : (f_X3_over x1 x2 S).isSome = true) : bd_Con l yX3_over (Cond.code yX3_over cX3_over 5 (some .long) :: bd_tbl) ({ frames := 1, cells := 0, slots := 0, locals := 21 } : Room) D ε (cX ε) bd_vl [.ref (bd_a ε 7), .int x1, .int x2] S (f_X3_over x1 x2 S) :=
  bd_con (by decide +kernel) (Nat.le_of_ble_eq_true rfl) ⟨rfl, rfl⟩ h0 (fun Γ _ _ hC => bs_eq bs_bs (b_X3_over hC x1 x2 S))
set_option maxRecDepth 100000 in
set_option maxHeartbeats 4000000 in
theorem b_X3_none {Γ : bd_G} {ε : bd_E} {t0 : Option (Int64 × bd_T)} (hC : bd_C Γ cX3_none 1 RX3 (some .long) ({ frames := 0, cells := 0, slots := 0, locals := 0 } : Room) ε (cX ε) bd_vl t0)  (S : bd_T) : bd_S Γ 1 t0 ((f_X3_none S).bind some) (cX ε S) 0 [(0, .ref (bd_a ε 7))] [] := by
  unfold f_X3_none
  refine bs_ldc2 hC (1099511627776 : Int64) mw_413 dX3_none_0 ?_
  exact bs_lret hC dX3_none_3 rfl
theorem c_X3_none (l : Launch) (D : va_G) (ε : bd_E)  (S : bd_T) (h0 : (f_X3_none S).isSome = true) : bd_Con l yX3_none (Cond.code yX3_none cX3_none 1 (some .long) :: bd_tbl) ({ frames := 0, cells := 0, slots := 0, locals := 0 } : Room) D ε (cX ε) bd_vl [.ref (bd_a ε 7)] S (f_X3_none S) :=
  bd_con (by decide +kernel) (Nat.le_of_ble_eq_true rfl) ⟨rfl, rfl⟩ h0 (fun Γ _ _ hC => bs_eq bs_bs (b_X3_none hC S))
set_option maxRecDepth 100000 in
set_option maxHeartbeats 4000000 in
theorem b_X5_within_b1 {Γ : bd_G} {ε : bd_E} {t0 : Option (Int64 × bd_T)} (hC : bd_C Γ cX5_within 5 RX5 (some .long) ({ frames := 2, cells := 0, slots := 0, locals := 45 } : Room) ε (cX ε) bd_vl t0) (x1 : Int32) (x2 : Int32)  (S : bd_T) : bd_S Γ 5 t0 ((f_X5_within_b1 x1 x2 S).bind some) (cX ε S) 0 [(0, .ref (bd_a ε 7)), (1, .int x1), (2, .int x2)] [] := by
  unfold f_X5_within_b1
  refine bs_iconst hC (0 : Int32) dX5_within_0 rfl ?_
  refine bs_iload_n hC 1 dX5_within_1 rfl rfl ?_
  refine bs_mmax hC mw_403 mw_298 mw_83 mw_299 (Nat.le_of_ble_eq_true rfl) (Nat.le_of_ble_eq_true rfl) dX5_within_2 ?_
  refine bs_leti (fun z1 ez1 => ?_)
  refine bs_istore_n hC [(3, .int z1), (0, .ref (bd_a ε 7)), (1, .int x1), (2, .int x2)] dX5_within_5 rfl (by decide) rfl ?_
  refine bs_sipush hC (299 : Int32) dX5_within_6 rfl ?_
  refine bs_iload_n hC 3 dX5_within_9 rfl rfl ?_
  refine bs_mmin hC mw_404 mw_304 mw_83 mw_305 (Nat.le_of_ble_eq_true rfl) (Nat.le_of_ble_eq_true rfl) dX5_within_10 ?_
  refine bs_leti (fun z2 ez2 => ?_)
  refine bs_istore hC [(4, .int z2), (3, .int z1), (0, .ref (bd_a ε 7)), (1, .int x1), (2, .int x2)] dX5_within_13 (by decide) rfl ?_
  refine bs_iload_n hC 1 dX5_within_15 rfl rfl ?_
  refine bs_iload hC 0 dX5_within_16 rfl ?_
  refine bs_icmp_le hC 28 dX5_within_18 (by decide) (fun c7 => ?_) (fun c7 => ?_)
  · refine bs_aload_n hC 2 dX5_within_28 rfl rfl ?_
    refine bs_iload_n hC 1 dX5_within_29 rfl rfl ?_
    refine bs_iload hC 0 dX5_within_30 rfl ?_
    refine bs_callU_l hC (rm := ({ frames := 1, cells := 0, slots := 0, locals := 21 } : Room)) [.int z1, .int z2] [] (fun h => c_X3_over (bd_l Γ) (bd_D Γ) ε z1 z2 S h) mw_421 mw_414 mw_420 mw_81 mw_419 mw_415 (Or.inl (by decide +kernel)) ho_X5_over (cX_o7 ε S) rfl ⟨rfl, rfl, by decide, by decide⟩ rfl rfl (Nat.le_of_ble_eq_true rfl) dX5_within_32 (fun r3 S4 eS4 => ?_)
    exact bs_lret hC dX5_within_35 rfl
  refine bs_aload_n hC 2 dX5_within_21 rfl rfl ?_
  refine bs_callU_l hC (rm := ({ frames := 0, cells := 0, slots := 0, locals := 0 } : Room)) [] [] (fun h => c_X3_none (bd_l Γ) (bd_D Γ) ε S h) mw_412 mw_405 mw_411 mw_81 mw_410 mw_406 (Or.inl (by decide +kernel)) ho_X5_none (cX_o7 ε S) rfl ⟨rfl, rfl, by decide, by decide⟩ rfl rfl (Nat.le_of_ble_eq_true rfl) dX5_within_22 (fun r5 S6 eS6 => ?_)
  refine bs_goto hC 35 dX5_within_25 (by decide) ?_
  exact bs_lret hC dX5_within_35 rfl
theorem c_X5_within_b1 (l : Launch) (D : va_G) (ε : bd_E) (x1 : Int32) (x2 : Int32)  (S : bd_T) (h0 : (f_X5_within_b1 x1 x2 S).isSome = true) : bd_Con l yX5_within (Cond.code yX5_within cX5_within 5 (some .long) :: bd_tbl) ({ frames := 2, cells := 0, slots := 0, locals := 45 } : Room) D ε (cX ε) bd_vl [.ref (bd_a ε 7), .int x1, .int x2] S (f_X5_within_b1 x1 x2 S) :=
  bd_con (by decide +kernel) (Nat.le_of_ble_eq_true rfl) ⟨rfl, rfl⟩ h0 (fun Γ _ _ hC => bs_eq bs_bs (b_X5_within_b1 hC x1 x2 S))
set_option maxRecDepth 100000 in
set_option maxHeartbeats 4000000 in
theorem b_X3_both {Γ : bd_G} {ε : bd_E} {t0 : Option (Int64 × bd_T)} (hC : bd_C Γ cX3_both 5 RX3 (some .long) ({ frames := 1, cells := 0, slots := 0, locals := 15 } : Room) ε (cX ε) bd_vl t0) (x1 : Int64) (x3 : Int64)  (S : bd_T) : bd_S Γ 5 t0 ((f_X3_both x1 x3 S).bind some) (cX ε S) 0 [(0, .ref (bd_a ε 7)), (1, .long x1), (3, .long x3)] [] := by
  unfold f_X3_both
  refine bs_ldc2 hC (1099511627776 : Int64) mw_413 dX3_both_0 ?_
  refine bs_lload_n hC 1 dX3_both_3 rfl rfl ?_
  refine bs_lload_n hC 2 dX3_both_4 rfl rfl ?_
  refine bs_ladd hC dX3_both_5 ?_
  refine bs_mminL hC mw_390 mw_391 mw_83 mw_392 (Nat.le_of_ble_eq_true rfl) (Nat.le_of_ble_eq_true rfl) dX3_both_6 ?_
  exact bs_lret hC dX3_both_9 rfl
theorem c_X3_both (l : Launch) (D : va_G) (ε : bd_E) (x1 : Int64) (x3 : Int64)  (S : bd_T) (h0 : (f_X3_both x1 x3 S).isSome = true) : bd_Con l yX3_both (Cond.code yX3_both cX3_both 5 (some .long) :: bd_tbl) ({ frames := 1, cells := 0, slots := 0, locals := 15 } : Room) D ε (cX ε) bd_vl [.ref (bd_a ε 7), .long x1, .long x3] S (f_X3_both x1 x3 S) :=
  bd_con (by decide +kernel) (Nat.le_of_ble_eq_true rfl) ⟨rfl, rfl⟩ h0 (fun Γ _ _ hC => bs_eq bs_bs (b_X3_both hC x1 x3 S))
set_option maxRecDepth 100000 in
set_option maxHeartbeats 4000000 in
theorem lb_X2_bring_b1_48 {Γ : bd_G} {ε : bd_E} {t0 : Option (Unit × bd_T)} (hC : bd_C Γ cX2_bring 10 RX2 none ({ frames := 3, cells := 0, slots := 0, locals := 69 } : Room) ε (cX ε) bd_vv t0) (p2 : Int32) (p3 : Int32) (p6 : Int32) {K : (Int32 × bd_T) ⊕ (bd_T) → Option (Unit × bd_T)} (hk : ∀ (x7 : Int32) (S : bd_T), bd_S Γ 10 t0 (K (.inl (x7, S))) (cX ε S) 48 [(0, .ref (bd_a ε 5)), (1, .ref (bd_a ε 8)), (2, .int p2), (3, .int p3), (4, .ref (bd_a ε 7)), (6, .int p6), (7, .int x7)] []) (hx : ∀ (S : bd_T), bd_S Γ 10 t0 (K (.inr S)) (cX ε S) 108 [] []) (x7 : Int32) (S : bd_T) : bd_S Γ 10 t0 ((fb_X2_bring_b1_48 p2 p3 p6 x7 S).bind K) (cX ε S) 48 [(0, .ref (bd_a ε 5)), (1, .ref (bd_a ε 8)), (2, .int p2), (3, .int p3), (4, .ref (bd_a ε 7)), (6, .int p6), (7, .int x7)] [] := by
  unfold fb_X2_bring_b1_48
  refine bs_iload hC 6 dX2_bring_48 rfl ?_
  refine bs_sipush hC (300 : Int32) dX2_bring_50 rfl ?_
  refine bs_icmp_ge hC 108 dX2_bring_53 (by decide) (fun c17 => ?_) (fun c17 => ?_)
  · refine bs_some ?_
    refine bs_pick [] rfl ?_
    exact hx S
  refine bs_aload hC 4 dX2_bring_56 rfl ?_
  refine bs_aload_n hC 1 dX2_bring_58 rfl rfl ?_
  refine bs_iload_n hC 2 dX2_bring_59 rfl rfl ?_
  refine bs_iload hC 6 dX2_bring_60 rfl ?_
  refine bs_iload_n hC 3 dX2_bring_62 rfl rfl ?_
  refine bs_callVN_i hC (rm := ({ frames := 1, cells := 0, slots := 0, locals := 21 } : Room)) [.int p2, .int x7, .int p3] [.ref (bd_a ε 7)] (fun h => c_X7_lowest (bd_l Γ) (bd_D Γ) ε p2 x7 p3 S h) mw_394 nm_41 mw_393 mw_74 mw_31 (cX_o8 ε S) rfl by_X7_lowest ⟨rfl, rfl, by decide, by decide⟩ rfl rfl (Nat.le_of_ble_eq_true rfl) dX2_bring_63 (fun r5 S6 eS6 => ?_)
  refine bs_aload_n hC 1 dX2_bring_66 rfl rfl ?_
  refine bs_iload_n hC 2 dX2_bring_67 rfl rfl ?_
  refine bs_iload hC 6 dX2_bring_68 rfl ?_
  refine bs_iload_n hC 3 dX2_bring_70 rfl rfl ?_
  refine bs_callVN_i hC (rm := ({ frames := 1, cells := 0, slots := 0, locals := 21 } : Room)) [.int p2, .int x7, .int p3] [.int r5, .ref (bd_a ε 7)] (fun h => c_X7_highest (bd_l Γ) (bd_D Γ) ε p2 x7 p3 S6 h) mw_396 nm_43 mw_395 mw_74 mw_32 (cX_o8 ε S6) rfl by_X7_highest ⟨rfl, rfl, by decide, by decide⟩ rfl rfl (Nat.le_of_ble_eq_true rfl) dX2_bring_71 (fun r7 S8 eS8 => ?_)
  refine bs_callU_l hC (rm := ({ frames := 2, cells := 0, slots := 0, locals := 45 } : Room)) [.int r5, .int r7] [] (fun h => c_X5_within_b1 (bd_l Γ) (bd_D Γ) ε r5 r7 S8 h) mw_402 mw_397 mw_398 mw_79 mw_401 mw_399 (Or.inr rfl) ho_X5_within (cX_o7 ε S8) rfl ⟨rfl, rfl, by decide, by decide⟩ rfl rfl (Nat.le_of_ble_eq_true rfl) dX2_bring_74 (fun r9 S10 eS10 => ?_)
  refine bs_lstore hC [(8, .long r9), (0, .ref (bd_a ε 5)), (1, .ref (bd_a ε 8)), (2, .int p2), (3, .int p3), (4, .ref (bd_a ε 7)), (6, .int p6), (7, .int x7)] dX2_bring_77 (by decide) rfl ?_
  refine bs_aload_n hC 1 dX2_bring_79 rfl rfl ?_
  refine bs_iload hC 6 dX2_bring_80 rfl ?_
  refine bs_iload hC 7 dX2_bring_82 rfl ?_
  refine bs_aload hC 5 dX2_bring_84 rfl ?_
  refine bs_aload_n hC 1 dX2_bring_86 rfl rfl ?_
  refine bs_iload hC 6 dX2_bring_87 rfl ?_
  refine bs_iload hC 7 dX2_bring_89 rfl ?_
  refine bs_callV_l hC (rm := ({ frames := 1, cells := 0, slots := 0, locals := 21 } : Room)) [.int p6, .int x7] [.ref (bd_a ε 7), .int x7, .int p6, .ref (bd_a ε 5)] (fun h => c_X2_value (bd_l Γ) (bd_D Γ) ε p6 x7 S10 h) mw_428 mw_426 mw_427 mw_78 mw_33 (cX_o5 ε S10) rfl by_X2_value ⟨rfl, rfl, by decide, by decide⟩ rfl rfl (Nat.le_of_ble_eq_true rfl) dX2_bring_91 (fun r11 S12 eS12 => ?_)
  refine bs_lload hC 0 dX2_bring_94 rfl ?_
  refine bs_callU_l hC (rm := ({ frames := 1, cells := 0, slots := 0, locals := 15 } : Room)) [.long r11, .long r9] [.int x7, .int p6, .ref (bd_a ε 5)] (fun h => c_X3_both (bd_l Γ) (bd_D Γ) ε r11 r9 S12 h) mw_436 mw_429 mw_435 mw_81 mw_434 mw_430 (Or.inl (by decide +kernel)) ho_X5_both (cX_o7 ε S12) rfl ⟨rfl, rfl, by decide, by decide⟩ rfl rfl (Nat.le_of_ble_eq_true rfl) dX2_bring_96 (fun r13 S14 eS14 => ?_)
  refine bs_callV_v hC (rm := ({ frames := 1, cells := 0, slots := 0, locals := 23 } : Room)) [.int p6, .int x7, .long r13] [] (fun h => c_X2_set (bd_l Γ) (bd_D Γ) ε p6 x7 r13 S14 h) mw_366 mw_437 mw_365 mw_78 mw_26 (cX_o5 ε S14) rfl by_X2_set ⟨rfl, rfl, by decide, by decide⟩ rfl rfl (Nat.le_of_ble_eq_true rfl) dX2_bring_99 (fun r15 S16 eS16 => ?_)
  refine bs_iinc hC 7 [(7, .int (x7 + 1)), (8, .long r9), (0, .ref (bd_a ε 5)), (1, .ref (bd_a ε 8)), (2, .int p2), (3, .int p3), (4, .ref (bd_a ε 7)), (6, .int p6)] dX2_bring_102 rfl rfl (by decide) rfl ?_
  refine bs_goto hC 48 dX2_bring_105 (by decide) ?_
  refine bs_some ?_
  refine bs_pick [2, 3, 4, 5, 6, 7, 0] rfl ?_
  exact hk (x7 + 1) S16
set_option maxRecDepth 100000 in
set_option maxHeartbeats 4000000 in
theorem b_X2_bring_b1 {Γ : bd_G} {ε : bd_E} {t0 : Option (Unit × bd_T)} (hC : bd_C Γ cX2_bring 10 RX2 none ({ frames := 3, cells := 0, slots := 0, locals := 69 } : Room) ε (cX ε) bd_vv t0) (x2 : Int32) (x3 : Int32)  (S : bd_T) : bd_S Γ 10 t0 ((f_X2_bring_b1 x2 x3 S).bind some) (cX ε S) 0 [(0, .ref (bd_a ε 5)), (1, .ref (bd_a ε 8)), (2, .int x2), (3, .int x3), (4, .ref (bd_a ε 7))] [] := by
  unfold f_X2_bring_b1
  refine bs_aload_n hC 1 dX2_bring_0 rfl rfl ?_
  refine bs_getN hC (v := .ref (bd_a ε (12 + 14))) hin_X7 8 (cX_o8 ε S) rfl 4 (by decide) nf_8 rfl dX2_bring_1 ?_
  refine bs_iload_n hC 2 dX2_bring_4 rfl rfl ?_
  refine bs_callSN_i hC (rm := ({ frames := 0, cells := 0, slots := 0, locals := 0 } : Room)) [.ref (bd_a ε (12 + 14)), .int x2] [] (fun h => c_X9_at (bd_l Γ) (bd_D Γ) ε 14 x2 (by decide) S h) mw_237 nm_36 mw_236 mw_72 by_X9_at ⟨rfl, rfl, by decide, by decide⟩ rfl rfl (Nat.le_of_ble_eq_true rfl) dX2_bring_5 (fun r1 S2 eS2 => ?_)
  refine bs_istore hC [(5, .int r1), (0, .ref (bd_a ε 5)), (1, .ref (bd_a ε 8)), (2, .int x2), (3, .int x3), (4, .ref (bd_a ε 7))] dX2_bring_8 (by decide) rfl ?_
  refine bs_iload_n hC 4 dX2_bring_10 rfl rfl ?_
  refine bs_if_eq hC 19 dX2_bring_11 (by decide) (fun c30 => ?_) (fun c30 => ?_)
  · refine bs_iload_n hC 3 dX2_bring_19 rfl rfl ?_
    refine bs_istore hC [(6, .int x2), (5, .int r1), (0, .ref (bd_a ε 5)), (1, .ref (bd_a ε 8)), (2, .int x2), (3, .int x3), (4, .ref (bd_a ε 7))] dX2_bring_20 (by decide) rfl ?_
    refine bs_aload hC 6 dX2_bring_22 rfl ?_
    refine bs_aload_n hC 2 dX2_bring_24 rfl rfl ?_
    refine bs_get hC (v := .ref (bd_a ε (43 + 0))) hin_X2 5 (cX_o5 ε S2) rfl 0 (by decide) mw_184 rfl dX2_bring_25 ?_
    refine bs_iload_n hC 5 dX2_bring_28 rfl rfl ?_
    refine bs_if_eq hC 36 dX2_bring_29 (by decide) (fun c22 => ?_) (fun c22 => ?_)
    · refine bs_iload hC 1 dX2_bring_36 rfl ?_
      refine bs_sipush hC (300 : Int32) dX2_bring_38 rfl ?_
      refine bs_imul hC dX2_bring_41 ?_
      refine bs_callU_v hC (rm := ({ frames := 1, cells := 0, slots := 0, locals := 23 } : Room)) [.ref (bd_a ε (43 + 0)), .int (r1 * (300 : Int32))] [] (fun h => c_X3_load (bd_l Γ) (bd_D Γ) ε 0 (r1 * (300 : Int32)) (by decide) S2 h) mw_389 mw_380 mw_388 mw_81 mw_387 mw_381 (Or.inl (by decide +kernel)) ho_X5_load (cX_o7 ε S2) rfl ⟨rfl, rfl, by decide, by decide⟩ rfl rfl (Nat.le_of_ble_eq_true rfl) dX2_bring_42 (fun r3 S4 eS4 => ?_)
      refine bs_iconst hC (0 : Int32) dX2_bring_45 rfl ?_
      refine bs_istore hC [(7, .int (0 : Int32)), (6, .int x2), (5, .int r1), (0, .ref (bd_a ε 5)), (1, .ref (bd_a ε 8)), (2, .int x2), (3, .int x3), (4, .ref (bd_a ε 7))] dX2_bring_46 (by decide) rfl ?_
      refine bs_pick [3, 4, 5, 6, 7, 1, 0] rfl ?_
      refine bs_loopK (fun (q : Int32 × bd_T) t => bd_S Γ 10 t0 t (cX ε (q.2)) 48 [(0, .ref (bd_a ε 5)), (1, .ref (bd_a ε 8)), (2, .int x2), (3, .int x3), (4, .ref (bd_a ε 7)), (6, .int x2), (7, .int (q.1))] []) (fun (q : bd_T) t => bd_S Γ 10 t0 t (cX ε (q)) 108 [] []) (fun q => fb_X2_bring_b1_48 x2 x3 x2 q.1 q.2) (fun _ => bs_none) (fun K hk hx q => lb_X2_bring_b1_48 hC   x2 x3 x2 (fun a0 S => hk (a0, S)) (fun  S => hx (S))  (q.1) (q.2)) (fun r => ?_) bd_K ((0 : Int32), S4)
      obtain ⟨S18, rfl⟩ : ∃ z, z = r := ⟨_, rfl⟩
      show bd_S Γ 10 t0 (Option.bind _ _) (cX ε S18) 108 [] []
      try dsimp only
      exact bs_vret hC dX2_bring_108 rfl
    refine bs_iload_n hC 4 dX2_bring_32 rfl rfl ?_
    refine bs_goto hC 38 dX2_bring_33 (by decide) ?_
    refine bs_sipush hC (300 : Int32) dX2_bring_38 rfl ?_
    refine bs_imul hC dX2_bring_41 ?_
    refine bs_callU_v hC (rm := ({ frames := 1, cells := 0, slots := 0, locals := 23 } : Room)) [.ref (bd_a ε (43 + 0)), .int (x2 * (300 : Int32))] [] (fun h => c_X3_load (bd_l Γ) (bd_D Γ) ε 0 (x2 * (300 : Int32)) (by decide) S2 h) mw_389 mw_380 mw_388 mw_81 mw_387 mw_381 (Or.inl (by decide +kernel)) ho_X5_load (cX_o7 ε S2) rfl ⟨rfl, rfl, by decide, by decide⟩ rfl rfl (Nat.le_of_ble_eq_true rfl) dX2_bring_42 (fun r19 S20 eS20 => ?_)
    refine bs_iconst hC (0 : Int32) dX2_bring_45 rfl ?_
    refine bs_istore hC [(7, .int (0 : Int32)), (6, .int x2), (5, .int r1), (0, .ref (bd_a ε 5)), (1, .ref (bd_a ε 8)), (2, .int x2), (3, .int x3), (4, .ref (bd_a ε 7))] dX2_bring_46 (by decide) rfl ?_
    refine bs_pick [3, 4, 5, 6, 7, 1, 0] rfl ?_
    refine bs_loopK (fun (q : Int32 × bd_T) t => bd_S Γ 10 t0 t (cX ε (q.2)) 48 [(0, .ref (bd_a ε 5)), (1, .ref (bd_a ε 8)), (2, .int x2), (3, .int x3), (4, .ref (bd_a ε 7)), (6, .int x2), (7, .int (q.1))] []) (fun (q : bd_T) t => bd_S Γ 10 t0 t (cX ε (q)) 108 [] []) (fun q => fb_X2_bring_b1_48 x2 x3 x2 q.1 q.2) (fun _ => bs_none) (fun K hk hx q => lb_X2_bring_b1_48 hC   x2 x3 x2 (fun a0 S => hk (a0, S)) (fun  S => hx (S))  (q.1) (q.2)) (fun r => ?_) bd_K ((0 : Int32), S20)
    obtain ⟨S21, rfl⟩ : ∃ z, z = r := ⟨_, rfl⟩
    show bd_S Γ 10 t0 (Option.bind _ _) (cX ε S21) 108 [] []
    try dsimp only
    exact bs_vret hC dX2_bring_108 rfl
  refine bs_iload hC 0 dX2_bring_14 rfl ?_
  refine bs_goto hC 20 dX2_bring_16 (by decide) ?_
  refine bs_istore hC [(6, .int r1), (5, .int r1), (0, .ref (bd_a ε 5)), (1, .ref (bd_a ε 8)), (2, .int x2), (3, .int x3), (4, .ref (bd_a ε 7))] dX2_bring_20 (by decide) rfl ?_
  refine bs_aload hC 6 dX2_bring_22 rfl ?_
  refine bs_aload_n hC 2 dX2_bring_24 rfl rfl ?_
  refine bs_get hC (v := .ref (bd_a ε (43 + 0))) hin_X2 5 (cX_o5 ε S2) rfl 0 (by decide) mw_184 rfl dX2_bring_25 ?_
  refine bs_iload_n hC 5 dX2_bring_28 rfl rfl ?_
  refine bs_if_eq hC 36 dX2_bring_29 (by decide) (fun c29 => ?_) (fun c29 => ?_)
  · refine bs_iload hC 1 dX2_bring_36 rfl ?_
    refine bs_sipush hC (300 : Int32) dX2_bring_38 rfl ?_
    refine bs_imul hC dX2_bring_41 ?_
    refine bs_callU_v hC (rm := ({ frames := 1, cells := 0, slots := 0, locals := 23 } : Room)) [.ref (bd_a ε (43 + 0)), .int (r1 * (300 : Int32))] [] (fun h => c_X3_load (bd_l Γ) (bd_D Γ) ε 0 (r1 * (300 : Int32)) (by decide) S2 h) mw_389 mw_380 mw_388 mw_81 mw_387 mw_381 (Or.inl (by decide +kernel)) ho_X5_load (cX_o7 ε S2) rfl ⟨rfl, rfl, by decide, by decide⟩ rfl rfl (Nat.le_of_ble_eq_true rfl) dX2_bring_42 (fun r23 S24 eS24 => ?_)
    refine bs_iconst hC (0 : Int32) dX2_bring_45 rfl ?_
    refine bs_istore hC [(7, .int (0 : Int32)), (6, .int r1), (5, .int r1), (0, .ref (bd_a ε 5)), (1, .ref (bd_a ε 8)), (2, .int x2), (3, .int x3), (4, .ref (bd_a ε 7))] dX2_bring_46 (by decide) rfl ?_
    refine bs_pick [3, 4, 5, 6, 7, 1, 0] rfl ?_
    refine bs_loopK (fun (q : Int32 × bd_T) t => bd_S Γ 10 t0 t (cX ε (q.2)) 48 [(0, .ref (bd_a ε 5)), (1, .ref (bd_a ε 8)), (2, .int x2), (3, .int x3), (4, .ref (bd_a ε 7)), (6, .int r1), (7, .int (q.1))] []) (fun (q : bd_T) t => bd_S Γ 10 t0 t (cX ε (q)) 108 [] []) (fun q => fb_X2_bring_b1_48 x2 x3 r1 q.1 q.2) (fun _ => bs_none) (fun K hk hx q => lb_X2_bring_b1_48 hC   x2 x3 r1 (fun a0 S => hk (a0, S)) (fun  S => hx (S))  (q.1) (q.2)) (fun r => ?_) bd_K ((0 : Int32), S24)
    obtain ⟨S25, rfl⟩ : ∃ z, z = r := ⟨_, rfl⟩
    show bd_S Γ 10 t0 (Option.bind _ _) (cX ε S25) 108 [] []
    try dsimp only
    exact bs_vret hC dX2_bring_108 rfl
  refine bs_iload_n hC 4 dX2_bring_32 rfl rfl ?_
  refine bs_goto hC 38 dX2_bring_33 (by decide) ?_
  refine bs_sipush hC (300 : Int32) dX2_bring_38 rfl ?_
  refine bs_imul hC dX2_bring_41 ?_
  refine bs_callU_v hC (rm := ({ frames := 1, cells := 0, slots := 0, locals := 23 } : Room)) [.ref (bd_a ε (43 + 0)), .int (x2 * (300 : Int32))] [] (fun h => c_X3_load (bd_l Γ) (bd_D Γ) ε 0 (x2 * (300 : Int32)) (by decide) S2 h) mw_389 mw_380 mw_388 mw_81 mw_387 mw_381 (Or.inl (by decide +kernel)) ho_X5_load (cX_o7 ε S2) rfl ⟨rfl, rfl, by decide, by decide⟩ rfl rfl (Nat.le_of_ble_eq_true rfl) dX2_bring_42 (fun r26 S27 eS27 => ?_)
  refine bs_iconst hC (0 : Int32) dX2_bring_45 rfl ?_
  refine bs_istore hC [(7, .int (0 : Int32)), (6, .int r1), (5, .int r1), (0, .ref (bd_a ε 5)), (1, .ref (bd_a ε 8)), (2, .int x2), (3, .int x3), (4, .ref (bd_a ε 7))] dX2_bring_46 (by decide) rfl ?_
  refine bs_pick [3, 4, 5, 6, 7, 1, 0] rfl ?_
  refine bs_loopK (fun (q : Int32 × bd_T) t => bd_S Γ 10 t0 t (cX ε (q.2)) 48 [(0, .ref (bd_a ε 5)), (1, .ref (bd_a ε 8)), (2, .int x2), (3, .int x3), (4, .ref (bd_a ε 7)), (6, .int r1), (7, .int (q.1))] []) (fun (q : bd_T) t => bd_S Γ 10 t0 t (cX ε (q)) 108 [] []) (fun q => fb_X2_bring_b1_48 x2 x3 r1 q.1 q.2) (fun _ => bs_none) (fun K hk hx q => lb_X2_bring_b1_48 hC   x2 x3 r1 (fun a0 S => hk (a0, S)) (fun  S => hx (S))  (q.1) (q.2)) (fun r => ?_) bd_K ((0 : Int32), S27)
  obtain ⟨S28, rfl⟩ : ∃ z, z = r := ⟨_, rfl⟩
  show bd_S Γ 10 t0 (Option.bind _ _) (cX ε S28) 108 [] []
  try dsimp only
  exact bs_vret hC dX2_bring_108 rfl
theorem c_X2_bring_b1 (l : Launch) (D : va_G) (ε : bd_E) (x2 : Int32) (x3 : Int32)  (S : bd_T) (h0 : (f_X2_bring_b1 x2 x3 S).isSome = true) : bd_Con l yX2_bring (Cond.code yX2_bring cX2_bring 10 none :: bd_tbl) ({ frames := 3, cells := 0, slots := 0, locals := 69 } : Room) D ε (cX ε) bd_vv [.ref (bd_a ε 5), .ref (bd_a ε 8), .int x2, .int x3, .ref (bd_a ε 7)] S (f_X2_bring_b1 x2 x3 S) :=
  bd_con (by decide +kernel) (Nat.le_of_ble_eq_true rfl) ⟨rfl, rfl⟩ h0 (fun Γ _ _ hC => bs_eq bs_bs (b_X2_bring_b1 hC x2 x3 S))
set_option maxRecDepth 100000 in
set_option maxHeartbeats 4000000 in
theorem b_X2_together_b1 {Γ : bd_G} {ε : bd_E} {t0 : Option (Int64 × bd_T)} (hC : bd_C Γ cX2_together 3 RX2 (some .long) ({ frames := 2, cells := 0, slots := 0, locals := 52 } : Room) ε (cX ε) bd_vl t0) (x1 : Int32)  (S : bd_T) : bd_S Γ 3 t0 ((f_X2_together_b1 x1 S).bind some) (cX ε S) 0 [(0, .ref (bd_a ε 5)), (1, .int x1), (2, .ref (bd_a ε 7))] [] := by
  unfold f_X2_together_b1
  refine bs_aload_n hC 2 dX2_together_0 rfl rfl ?_
  refine bs_aload_n hC 0 dX2_together_1 rfl rfl ?_
  refine bs_get hC (v := .ref (bd_a ε (43 + 0))) hin_X2 5 (cX_o5 ε S) rfl 0 (by decide) mw_184 rfl dX2_together_2 ?_
  refine bs_iload_n hC 1 dX2_together_5 rfl rfl ?_
  refine bs_sipush hC (300 : Int32) dX2_together_6 rfl ?_
  refine bs_imul hC dX2_together_9 ?_
  refine bs_callU_v hC (rm := ({ frames := 1, cells := 0, slots := 0, locals := 23 } : Room)) [.ref (bd_a ε (43 + 0)), .int (x1 * (300 : Int32))] [] (fun h => c_X3_load (bd_l Γ) (bd_D Γ) ε 0 (x1 * (300 : Int32)) (by decide) S h) mw_389 mw_380 mw_388 mw_81 mw_387 mw_381 (Or.inl (by decide +kernel)) ho_X5_load (cX_o7 ε S) rfl ⟨rfl, rfl, by decide, by decide⟩ rfl rfl (Nat.le_of_ble_eq_true rfl) dX2_together_10 (fun r1 S2 eS2 => ?_)
  refine bs_aload_n hC 2 dX2_together_13 rfl rfl ?_
  refine bs_iconst hC (0 : Int32) dX2_together_14 rfl ?_
  refine bs_sipush hC (299 : Int32) dX2_together_15 rfl ?_
  refine bs_callU_l hC (rm := ({ frames := 1, cells := 0, slots := 0, locals := 21 } : Room)) [.int (0 : Int32), .int (299 : Int32)] [] (fun h => c_X3_over (bd_l Γ) (bd_D Γ) ε (0 : Int32) (299 : Int32) S2 h) mw_421 mw_444 mw_420 mw_81 mw_419 mw_415 (Or.inl (by decide +kernel)) ho_X5_over (cX_o7 ε S2) rfl ⟨rfl, rfl, by decide, by decide⟩ rfl rfl (Nat.le_of_ble_eq_true rfl) dX2_together_18 (fun r3 S4 eS4 => ?_)
  exact bs_lret hC dX2_together_21 rfl
theorem c_X2_together_b1 (l : Launch) (D : va_G) (ε : bd_E) (x1 : Int32)  (S : bd_T) (h0 : (f_X2_together_b1 x1 S).isSome = true) : bd_Con l yX2_together (Cond.code yX2_together cX2_together 3 (some .long) :: bd_tbl) ({ frames := 2, cells := 0, slots := 0, locals := 52 } : Room) D ε (cX ε) bd_vl [.ref (bd_a ε 5), .int x1, .ref (bd_a ε 7)] S (f_X2_together_b1 x1 S) :=
  bd_con (by decide +kernel) (Nat.le_of_ble_eq_true rfl) ⟨rfl, rfl⟩ h0 (fun Γ _ _ hC => bs_eq bs_bs (b_X2_together_b1 hC x1 S))
set_option maxRecDepth 100000 in
set_option maxHeartbeats 4000000 in
theorem lb_X2_bringAll_b1_11 {Γ : bd_G} {ε : bd_E} {t0 : Option (Unit × bd_T)} (hC : bd_C Γ cX2_bringAll 7 RX2 none ({ frames := 3, cells := 0, slots := 0, locals := 74 } : Room) ε (cX ε) bd_vv t0) (p2 : Int32) (p4 : Int64) {K : (Int32 × bd_T) ⊕ (bd_T) → Option (Unit × bd_T)} (hk : ∀ (x6 : Int32) (S : bd_T), bd_S Γ 7 t0 (K (.inl (x6, S))) (cX ε S) 11 [(0, .ref (bd_a ε 5)), (2, .int p2), (3, .ref (bd_a ε 7)), (4, .long p4), (6, .int x6)] []) (hx : ∀ (S : bd_T), bd_S Γ 7 t0 (K (.inr S)) (cX ε S) 45 [] []) (x6 : Int32) (S : bd_T) : bd_S Γ 7 t0 ((fb_X2_bringAll_b1_11 p2 p4 x6 S).bind K) (cX ε S) 11 [(0, .ref (bd_a ε 5)), (2, .int p2), (3, .ref (bd_a ε 7)), (4, .long p4), (6, .int x6)] [] := by
  unfold fb_X2_bringAll_b1_11
  refine bs_iload hC 4 dX2_bringAll_11 rfl ?_
  refine bs_sipush hC (300 : Int32) dX2_bringAll_13 rfl ?_
  refine bs_icmp_ge hC 45 dX2_bringAll_16 (by decide) (fun c9 => ?_) (fun c9 => ?_)
  · refine bs_some ?_
    refine bs_pick [] rfl ?_
    exact hx S
  refine bs_aload_n hC 0 dX2_bringAll_19 rfl rfl ?_
  refine bs_iload_n hC 1 dX2_bringAll_20 rfl rfl ?_
  refine bs_iload hC 4 dX2_bringAll_21 rfl ?_
  refine bs_aload_n hC 2 dX2_bringAll_23 rfl rfl ?_
  refine bs_aload_n hC 0 dX2_bringAll_24 rfl rfl ?_
  refine bs_iload_n hC 1 dX2_bringAll_25 rfl rfl ?_
  refine bs_iload hC 4 dX2_bringAll_26 rfl ?_
  refine bs_callV_l hC (rm := ({ frames := 1, cells := 0, slots := 0, locals := 21 } : Room)) [.int p2, .int x6] [.ref (bd_a ε 7), .int x6, .int p2, .ref (bd_a ε 5)] (fun h => c_X2_value (bd_l Γ) (bd_D Γ) ε p2 x6 S h) mw_428 mw_426 mw_427 mw_78 mw_33 (cX_o5 ε S) rfl by_X2_value ⟨rfl, rfl, by decide, by decide⟩ rfl rfl (Nat.le_of_ble_eq_true rfl) dX2_bringAll_28 (fun r3 S4 eS4 => ?_)
  refine bs_lload hC 3 dX2_bringAll_31 rfl ?_
  refine bs_callU_l hC (rm := ({ frames := 1, cells := 0, slots := 0, locals := 15 } : Room)) [.long r3, .long p4] [.int x6, .int p2, .ref (bd_a ε 5)] (fun h => c_X3_both (bd_l Γ) (bd_D Γ) ε r3 p4 S4 h) mw_436 mw_429 mw_435 mw_81 mw_434 mw_430 (Or.inl (by decide +kernel)) ho_X5_both (cX_o7 ε S4) rfl ⟨rfl, rfl, by decide, by decide⟩ rfl rfl (Nat.le_of_ble_eq_true rfl) dX2_bringAll_33 (fun r5 S6 eS6 => ?_)
  refine bs_callV_v hC (rm := ({ frames := 1, cells := 0, slots := 0, locals := 23 } : Room)) [.int p2, .int x6, .long r5] [] (fun h => c_X2_set (bd_l Γ) (bd_D Γ) ε p2 x6 r5 S6 h) mw_366 mw_437 mw_365 mw_78 mw_26 (cX_o5 ε S6) rfl by_X2_set ⟨rfl, rfl, by decide, by decide⟩ rfl rfl (Nat.le_of_ble_eq_true rfl) dX2_bringAll_36 (fun r7 S8 eS8 => ?_)
  refine bs_iinc hC 4 [(6, .int (x6 + 1)), (0, .ref (bd_a ε 5)), (2, .int p2), (3, .ref (bd_a ε 7)), (4, .long p4)] dX2_bringAll_39 rfl rfl (by decide) rfl ?_
  refine bs_goto hC 11 dX2_bringAll_42 (by decide) ?_
  refine bs_some ?_
  refine bs_pick [1, 2, 3, 4, 0] rfl ?_
  exact hk (x6 + 1) S8
set_option maxRecDepth 100000 in
set_option maxHeartbeats 4000000 in
theorem b_X2_bringAll_b1 {Γ : bd_G} {ε : bd_E} {t0 : Option (Unit × bd_T)} (hC : bd_C Γ cX2_bringAll 7 RX2 none ({ frames := 3, cells := 0, slots := 0, locals := 74 } : Room) ε (cX ε) bd_vv t0) (x1 : Int32) (x2 : Int32)  (S : bd_T) : bd_S Γ 7 t0 ((f_X2_bringAll_b1 x1 x2 S).bind some) (cX ε S) 0 [(0, .ref (bd_a ε 5)), (1, .int x1), (2, .int x2), (3, .ref (bd_a ε 7))] [] := by
  unfold f_X2_bringAll_b1
  refine bs_aload_n hC 0 dX2_bringAll_0 rfl rfl ?_
  refine bs_iload_n hC 1 dX2_bringAll_1 rfl rfl ?_
  refine bs_aload_n hC 3 dX2_bringAll_2 rfl rfl ?_
  refine bs_callV_l hC (rm := ({ frames := 2, cells := 0, slots := 0, locals := 52 } : Room)) [.int x1, .ref (bd_a ε 7)] [] (fun h => c_X2_together_b1 (bd_l Γ) (bd_D Γ) ε x1 S h) mw_443 mw_441 mw_442 mw_78 mw_35 (cX_o5 ε S) rfl by_X2_together ⟨rfl, rfl, by decide, by decide⟩ rfl rfl (Nat.le_of_ble_eq_true rfl) dX2_bringAll_3 (fun r1 S2 eS2 => ?_)
  refine bs_lstore hC [(4, .long r1), (0, .ref (bd_a ε 5)), (1, .int x1), (2, .int x2), (3, .ref (bd_a ε 7))] dX2_bringAll_6 (by decide) rfl ?_
  refine bs_iconst hC (0 : Int32) dX2_bringAll_8 rfl ?_
  refine bs_istore hC [(6, .int (0 : Int32)), (4, .long r1), (0, .ref (bd_a ε 5)), (1, .int x1), (2, .int x2), (3, .ref (bd_a ε 7))] dX2_bringAll_9 (by decide) rfl ?_
  refine bs_pick [2, 4, 5, 1, 0] rfl ?_
  refine bs_loopK (fun (q : Int32 × bd_T) t => bd_S Γ 7 t0 t (cX ε (q.2)) 11 [(0, .ref (bd_a ε 5)), (2, .int x2), (3, .ref (bd_a ε 7)), (4, .long r1), (6, .int (q.1))] []) (fun (q : bd_T) t => bd_S Γ 7 t0 t (cX ε (q)) 45 [] []) (fun q => fb_X2_bringAll_b1_11 x2 r1 q.1 q.2) (fun _ => bs_none) (fun K hk hx q => lb_X2_bringAll_b1_11 hC   x2 r1 (fun a0 S => hk (a0, S)) (fun  S => hx (S))  (q.1) (q.2)) (fun r => ?_) bd_K ((0 : Int32), S2)
  obtain ⟨S10, rfl⟩ : ∃ z, z = r := ⟨_, rfl⟩
  show bd_S Γ 7 t0 (Option.bind _ _) (cX ε S10) 45 [] []
  try dsimp only
  exact bs_vret hC dX2_bringAll_45 rfl
theorem c_X2_bringAll_b1 (l : Launch) (D : va_G) (ε : bd_E) (x1 : Int32) (x2 : Int32)  (S : bd_T) (h0 : (f_X2_bringAll_b1 x1 x2 S).isSome = true) : bd_Con l yX2_bringAll (Cond.code yX2_bringAll cX2_bringAll 7 none :: bd_tbl) ({ frames := 3, cells := 0, slots := 0, locals := 74 } : Room) D ε (cX ε) bd_vv [.ref (bd_a ε 5), .int x1, .int x2, .ref (bd_a ε 7)] S (f_X2_bringAll_b1 x1 x2 S) :=
  bd_con (by decide +kernel) (Nat.le_of_ble_eq_true rfl) ⟨rfl, rfl⟩ h0 (fun Γ _ _ hC => bs_eq bs_bs (b_X2_bringAll_b1 hC x1 x2 S))
set_option maxRecDepth 100000 in
set_option maxHeartbeats 4000000 in
theorem lb_X2_gather_b1_14 {Γ : bd_G} {ε : bd_E} {t0 : Option (Unit × bd_T)} (hC : bd_C Γ cX2_gather 6 RX2 none ({ frames := 4, cells := 0, slots := 0, locals := 100 } : Room) ε (cX ε) bd_vv t0) (p2 : Int32) {K : (Int32 × bd_T) ⊕ (bd_T) → Option (Unit × bd_T)} (hk : ∀ (x4 : Int32) (S : bd_T), bd_S Γ 6 t0 (K (.inl (x4, S))) (cX ε S) 14 [(0, .ref (bd_a ε 5)), (1, .ref (bd_a ε 8)), (2, .int p2), (3, .ref (bd_a ε 7)), (4, .int x4)] []) (hx : ∀ (S : bd_T), bd_S Γ 6 t0 (K (.inr S)) (cX ε S) 55 [(0, .ref (bd_a ε 5)), (1, .ref (bd_a ε 8)), (2, .int p2), (3, .ref (bd_a ε 7))] []) (x4 : Int32) (S : bd_T) : bd_S Γ 6 t0 ((fb_X2_gather_b1_14 p2 x4 S).bind K) (cX ε S) 14 [(0, .ref (bd_a ε 5)), (1, .ref (bd_a ε 8)), (2, .int p2), (3, .ref (bd_a ε 7)), (4, .int x4)] [] := by
  unfold fb_X2_gather_b1_14
  refine bs_iload hC 4 dX2_gather_14 rfl ?_
  refine bs_if_le hC 55 dX2_gather_16 (by decide) (fun c12 => ?_) (fun c12 => ?_)
  · refine bs_some ?_
    refine bs_pick [0, 1, 2, 3] rfl ?_
    exact hx S
  refine bs_aload_n hC 1 dX2_gather_19 rfl rfl ?_
  refine bs_getN hC (v := .ref (bd_a ε (12 + 14))) hin_X7 8 (cX_o8 ε S) rfl 4 (by decide) nf_8 rfl dX2_gather_20 ?_
  refine bs_iload hC 4 dX2_gather_23 rfl ?_
  refine bs_callSN_i hC (rm := ({ frames := 0, cells := 0, slots := 0, locals := 0 } : Room)) [.ref (bd_a ε (12 + 14)), .int x4] [] (fun h => c_X9_at (bd_l Γ) (bd_D Γ) ε 14 x4 (by decide) S h) mw_237 nm_36 mw_236 mw_72 by_X9_at ⟨rfl, rfl, by decide, by decide⟩ rfl rfl (Nat.le_of_ble_eq_true rfl) dX2_gather_25 (fun r4 S5 eS5 => ?_)
  refine bs_if_lt hC 49 dX2_gather_28 (by decide) (fun c11 => ?_) (fun c11 => ?_)
  · refine bs_iinc hC 4 [(4, .int (x4 + (-1))), (0, .ref (bd_a ε 5)), (1, .ref (bd_a ε 8)), (2, .int p2), (3, .ref (bd_a ε 7))] dX2_gather_49 rfl rfl (by decide) rfl ?_
    refine bs_goto hC 14 dX2_gather_52 (by decide) ?_
    refine bs_some ?_
    refine bs_pick [1, 2, 3, 4, 0] rfl ?_
    exact hk (x4 + (-1)) S5
  refine bs_aload_n hC 0 dX2_gather_31 rfl rfl ?_
  refine bs_iload hC 4 dX2_gather_32 rfl ?_
  refine bs_callV_i hC (rm := ({ frames := 1, cells := 0, slots := 0, locals := 21 } : Room)) [.int x4] [] (fun h => c_X2_onPath (bd_l Γ) (bd_D Γ) ε x4 S5 h) mw_376 mw_374 mw_375 mw_78 mw_29 (cX_o5 ε S5) rfl by_X2_onPath ⟨rfl, rfl, by decide, by decide⟩ rfl rfl (Nat.le_of_ble_eq_true rfl) dX2_gather_34 (fun r6 S7 eS7 => ?_)
  refine bs_if_ne hC 49 dX2_gather_37 (by decide) (fun c10 => ?_) (fun c10 => ?_)
  · refine bs_aload_n hC 0 dX2_gather_40 rfl rfl ?_
    refine bs_aload_n hC 1 dX2_gather_41 rfl rfl ?_
    refine bs_iload hC 4 dX2_gather_42 rfl ?_
    refine bs_iconst hC (1 : Int32) dX2_gather_44 rfl ?_
    refine bs_aload_n hC 3 dX2_gather_45 rfl rfl ?_
    refine bs_callV_v hC (rm := ({ frames := 3, cells := 0, slots := 0, locals := 69 } : Room)) [.ref (bd_a ε 8), .int x4, .int (1 : Int32), .ref (bd_a ε 7)] [] (fun h => c_X2_bring_b1 (bd_l Γ) (bd_D Γ) ε x4 (1 : Int32) S7 h) mw_379 mw_377 mw_378 mw_78 mw_30 (cX_o5 ε S7) rfl by_X2_bring ⟨rfl, rfl, by decide, by decide⟩ rfl rfl (Nat.le_of_ble_eq_true rfl) dX2_gather_46 (fun r8 S9 eS9 => ?_)
    refine bs_iinc hC 4 [(4, .int (x4 + (-1))), (0, .ref (bd_a ε 5)), (1, .ref (bd_a ε 8)), (2, .int p2), (3, .ref (bd_a ε 7))] dX2_gather_49 rfl rfl (by decide) rfl ?_
    refine bs_goto hC 14 dX2_gather_52 (by decide) ?_
    refine bs_some ?_
    refine bs_pick [1, 2, 3, 4, 0] rfl ?_
    exact hk (x4 + (-1)) S9
  refine bs_iinc hC 4 [(4, .int (x4 + (-1))), (0, .ref (bd_a ε 5)), (1, .ref (bd_a ε 8)), (2, .int p2), (3, .ref (bd_a ε 7))] dX2_gather_49 rfl rfl (by decide) rfl ?_
  refine bs_goto hC 14 dX2_gather_52 (by decide) ?_
  refine bs_some ?_
  refine bs_pick [1, 2, 3, 4, 0] rfl ?_
  exact hk (x4 + (-1)) S7
set_option maxRecDepth 100000 in
set_option maxHeartbeats 4000000 in
theorem lb_X2_gather_b1_63 {Γ : bd_G} {ε : bd_E} {t0 : Option (Unit × bd_T)} (hC : bd_C Γ cX2_gather 6 RX2 none ({ frames := 4, cells := 0, slots := 0, locals := 100 } : Room) ε (cX ε) bd_vv t0) (p2 : Int32) {K : (Int32 × bd_T) ⊕ (bd_T) → Option (Unit × bd_T)} (hk : ∀ (x4 : Int32) (S : bd_T), bd_S Γ 6 t0 (K (.inl (x4, S))) (cX ε S) 63 [(0, .ref (bd_a ε 5)), (1, .ref (bd_a ε 8)), (2, .int p2), (3, .ref (bd_a ε 7)), (4, .int x4)] []) (hx : ∀ (S : bd_T), bd_S Γ 6 t0 (K (.inr S)) (cX ε S) 92 [(0, .ref (bd_a ε 5)), (1, .ref (bd_a ε 8)), (2, .int p2), (3, .ref (bd_a ε 7))] []) (x4 : Int32) (S : bd_T) : bd_S Γ 6 t0 ((fb_X2_gather_b1_63 p2 x4 S).bind K) (cX ε S) 63 [(0, .ref (bd_a ε 5)), (1, .ref (bd_a ε 8)), (2, .int p2), (3, .ref (bd_a ε 7)), (4, .int x4)] [] := by
  unfold fb_X2_gather_b1_63
  refine bs_iload hC 4 dX2_gather_63 rfl ?_
  refine bs_if_le hC 92 dX2_gather_65 (by decide) (fun c19 => ?_) (fun c19 => ?_)
  · refine bs_some ?_
    refine bs_pick [0, 1, 2, 3] rfl ?_
    exact hx S
  refine bs_aload_n hC 0 dX2_gather_68 rfl rfl ?_
  refine bs_aload_n hC 1 dX2_gather_69 rfl rfl ?_
  refine bs_aload_n hC 0 dX2_gather_70 rfl rfl ?_
  refine bs_get hC (v := .ref (bd_a ε (12 + 10))) hin_X2 5 (cX_o5 ε S) rfl 1 (by decide) mw_185 rfl dX2_gather_71 ?_
  refine bs_iload hC 4 dX2_gather_74 rfl ?_
  refine bs_iconst hC (1 : Int32) dX2_gather_76 rfl ?_
  refine bs_isub hC dX2_gather_77 ?_
  refine bs_callSN_i hC (rm := ({ frames := 0, cells := 0, slots := 0, locals := 0 } : Room)) [.ref (bd_a ε (12 + 10)), .int (x4 - (1 : Int32))] [.ref (bd_a ε 8), .ref (bd_a ε 5)] (fun h => c_X9_at (bd_l Γ) (bd_D Γ) ε 10 (x4 - (1 : Int32)) (by decide) S h) mw_237 nm_36 mw_236 mw_72 by_X9_at ⟨rfl, rfl, by decide, by decide⟩ rfl rfl (Nat.le_of_ble_eq_true rfl) dX2_gather_78 (fun r15 S16 eS16 => ?_)
  refine bs_iconst hC (0 : Int32) dX2_gather_81 rfl ?_
  refine bs_aload_n hC 3 dX2_gather_82 rfl rfl ?_
  refine bs_callV_v hC (rm := ({ frames := 3, cells := 0, slots := 0, locals := 69 } : Room)) [.ref (bd_a ε 8), .int r15, .int (0 : Int32), .ref (bd_a ε 7)] [] (fun h => c_X2_bring_b1 (bd_l Γ) (bd_D Γ) ε r15 (0 : Int32) S16 h) mw_379 mw_377 mw_378 mw_78 mw_30 (cX_o5 ε S16) rfl by_X2_bring ⟨rfl, rfl, by decide, by decide⟩ rfl rfl (Nat.le_of_ble_eq_true rfl) dX2_gather_83 (fun r17 S18 eS18 => ?_)
  refine bs_iinc hC 4 [(4, .int (x4 + (-1))), (0, .ref (bd_a ε 5)), (1, .ref (bd_a ε 8)), (2, .int p2), (3, .ref (bd_a ε 7))] dX2_gather_86 rfl rfl (by decide) rfl ?_
  refine bs_goto hC 63 dX2_gather_89 (by decide) ?_
  refine bs_some ?_
  refine bs_pick [1, 2, 3, 4, 0] rfl ?_
  exact hk (x4 + (-1)) S18
set_option maxRecDepth 100000 in
set_option maxHeartbeats 4000000 in
theorem lb_X2_gather_b1_110 {Γ : bd_G} {ε : bd_E} {t0 : Option (Unit × bd_T)} (hC : bd_C Γ cX2_gather 6 RX2 none ({ frames := 4, cells := 0, slots := 0, locals := 100 } : Room) ε (cX ε) bd_vv t0) (p2 : Int32) (p4 : Int32) {K : (Int32 × bd_T) ⊕ (bd_T) → Option (Unit × bd_T)} (hk : ∀ (x5 : Int32) (S : bd_T), bd_S Γ 6 t0 (K (.inl (x5, S))) (cX ε S) 110 [(0, .ref (bd_a ε 5)), (1, .ref (bd_a ε 8)), (2, .int p2), (3, .ref (bd_a ε 7)), (4, .int p4), (5, .int x5)] []) (hx : ∀ (S : bd_T), bd_S Γ 6 t0 (K (.inr S)) (cX ε S) 152 [] []) (x5 : Int32) (S : bd_T) : bd_S Γ 6 t0 ((fb_X2_gather_b1_110 p2 p4 x5 S).bind K) (cX ε S) 110 [(0, .ref (bd_a ε 5)), (1, .ref (bd_a ε 8)), (2, .int p2), (3, .ref (bd_a ε 7)), (4, .int p4), (5, .int x5)] [] := by
  unfold fb_X2_gather_b1_110
  refine bs_iload hC 5 dX2_gather_110 rfl ?_
  refine bs_aload_n hC 1 dX2_gather_112 rfl rfl ?_
  refine bs_getN hC (v := .int (bd_I S 17)) hin_X7 8 (cX_o8 ε S) rfl 0 (by decide) nf_1 rfl dX2_gather_113 ?_
  refine bs_icmp_ge hC 152 dX2_gather_116 (by decide) (fun c29 => ?_) (fun c29 => ?_)
  · refine bs_some ?_
    refine bs_pick [] rfl ?_
    exact hx S
  refine bs_aload_n hC 1 dX2_gather_119 rfl rfl ?_
  refine bs_getN hC (v := .ref (bd_a ε (12 + 14))) hin_X7 8 (cX_o8 ε S) rfl 4 (by decide) nf_8 rfl dX2_gather_120 ?_
  refine bs_iload hC 5 dX2_gather_123 rfl ?_
  refine bs_callSN_i hC (rm := ({ frames := 0, cells := 0, slots := 0, locals := 0 } : Room)) [.ref (bd_a ε (12 + 14)), .int x5] [] (fun h => c_X9_at (bd_l Γ) (bd_D Γ) ε 14 x5 (by decide) S h) mw_237 nm_36 mw_236 mw_72 by_X9_at ⟨rfl, rfl, by decide, by decide⟩ rfl rfl (Nat.le_of_ble_eq_true rfl) dX2_gather_125 (fun r23 S24 eS24 => ?_)
  refine bs_if_ge hC 146 dX2_gather_128 (by decide) (fun c28 => ?_) (fun c28 => ?_)
  · refine bs_iinc hC 5 [(5, .int (x5 + 1)), (0, .ref (bd_a ε 5)), (1, .ref (bd_a ε 8)), (2, .int p2), (3, .ref (bd_a ε 7)), (4, .int p4)] dX2_gather_146 rfl rfl (by decide) rfl ?_
    refine bs_goto hC 110 dX2_gather_149 (by decide) ?_
    refine bs_some ?_
    refine bs_pick [1, 2, 3, 4, 5, 0] rfl ?_
    exact hk (x5 + 1) S24
  refine bs_iload hC 5 dX2_gather_131 rfl ?_
  refine bs_iload hC 4 dX2_gather_133 rfl ?_
  refine bs_icmp_eq hC 146 dX2_gather_135 (by decide) (fun c27 => ?_) (fun c27 => ?_)
  · refine bs_iinc hC 5 [(5, .int (x5 + 1)), (0, .ref (bd_a ε 5)), (1, .ref (bd_a ε 8)), (2, .int p2), (3, .ref (bd_a ε 7)), (4, .int p4)] dX2_gather_146 rfl rfl (by decide) rfl ?_
    refine bs_goto hC 110 dX2_gather_149 (by decide) ?_
    refine bs_some ?_
    refine bs_pick [1, 2, 3, 4, 5, 0] rfl ?_
    exact hk (x5 + 1) S24
  refine bs_aload_n hC 0 dX2_gather_138 rfl rfl ?_
  refine bs_iload hC 5 dX2_gather_139 rfl ?_
  refine bs_iload_n hC 2 dX2_gather_141 rfl rfl ?_
  refine bs_aload_n hC 3 dX2_gather_142 rfl rfl ?_
  refine bs_callV_v hC (rm := ({ frames := 3, cells := 0, slots := 0, locals := 74 } : Room)) [.int x5, .int p2, .ref (bd_a ε 7)] [] (fun h => c_X2_bringAll_b1 (bd_l Γ) (bd_D Γ) ε x5 p2 S24 h) mw_440 mw_438 mw_439 mw_78 mw_34 (cX_o5 ε S24) rfl by_X2_bringAll ⟨rfl, rfl, by decide, by decide⟩ rfl rfl (Nat.le_of_ble_eq_true rfl) dX2_gather_143 (fun r25 S26 eS26 => ?_)
  refine bs_iinc hC 5 [(5, .int (x5 + 1)), (0, .ref (bd_a ε 5)), (1, .ref (bd_a ε 8)), (2, .int p2), (3, .ref (bd_a ε 7)), (4, .int p4)] dX2_gather_146 rfl rfl (by decide) rfl ?_
  refine bs_goto hC 110 dX2_gather_149 (by decide) ?_
  refine bs_some ?_
  refine bs_pick [1, 2, 3, 4, 5, 0] rfl ?_
  exact hk (x5 + 1) S26
set_option maxRecDepth 100000 in
set_option maxHeartbeats 4000000 in
theorem b_X2_gather_b1 {Γ : bd_G} {ε : bd_E} {t0 : Option (Unit × bd_T)} (hC : bd_C Γ cX2_gather 6 RX2 none ({ frames := 4, cells := 0, slots := 0, locals := 100 } : Room) ε (cX ε) bd_vv t0) (x2 : Int32)  (S : bd_T) : bd_S Γ 6 t0 ((f_X2_gather_b1 x2 S).bind some) (cX ε S) 0 [(0, .ref (bd_a ε 5)), (1, .ref (bd_a ε 8)), (2, .int x2), (3, .ref (bd_a ε 7))] [] := by
  unfold f_X2_gather_b1
  refine bs_aload_n hC 0 dX2_gather_0 rfl rfl ?_
  refine bs_aload_n hC 1 dX2_gather_1 rfl rfl ?_
  refine bs_iload_n hC 2 dX2_gather_2 rfl rfl ?_
  refine bs_callV_v hC (rm := ({ frames := 1, cells := 0, slots := 0, locals := 22 } : Room)) [.ref (bd_a ε 8), .int x2] [] (fun h => c_X2_findPath (bd_l Γ) (bd_D Γ) ε x2 S h) mw_373 mw_371 mw_372 mw_78 mw_28 (cX_o5 ε S) rfl by_X2_findPath ⟨rfl, rfl, by decide, by decide⟩ rfl rfl (Nat.le_of_ble_eq_true rfl) dX2_gather_3 (fun r1 S2 eS2 => ?_)
  refine bs_aload_n hC 1 dX2_gather_6 rfl rfl ?_
  refine bs_getN hC (v := .int (bd_I S2 17)) hin_X7 8 (cX_o8 ε S2) rfl 0 (by decide) nf_1 rfl dX2_gather_7 ?_
  refine bs_iconst hC (1 : Int32) dX2_gather_10 rfl ?_
  refine bs_isub hC dX2_gather_11 ?_
  refine bs_leti (fun z3 ez3 => ?_)
  refine bs_istore hC [(4, .int z3), (0, .ref (bd_a ε 5)), (1, .ref (bd_a ε 8)), (2, .int x2), (3, .ref (bd_a ε 7))] dX2_gather_12 (by decide) rfl ?_
  refine bs_pick [1, 2, 3, 4, 0] rfl ?_
  refine bs_loopK (fun (q : Int32 × bd_T) t => bd_S Γ 6 t0 t (cX ε (q.2)) 14 [(0, .ref (bd_a ε 5)), (1, .ref (bd_a ε 8)), (2, .int x2), (3, .ref (bd_a ε 7)), (4, .int (q.1))] []) (fun (q : bd_T) t => bd_S Γ 6 t0 t (cX ε (q)) 55 [(0, .ref (bd_a ε 5)), (1, .ref (bd_a ε 8)), (2, .int x2), (3, .ref (bd_a ε 7))] []) (fun q => fb_X2_gather_b1_14 x2 q.1 q.2) (fun _ => bs_none) (fun K hk hx q => lb_X2_gather_b1_14 hC   x2 (fun a0 S => hk (a0, S)) (fun  S => hx (S))  (q.1) (q.2)) (fun r => ?_) bd_K (z3, S2)
  obtain ⟨S13, rfl⟩ : ∃ z, z = r := ⟨_, rfl⟩
  show bd_S Γ 6 t0 (Option.bind _ _) (cX ε S13) 55 [(0, .ref (bd_a ε 5)), (1, .ref (bd_a ε 8)), (2, .int x2), (3, .ref (bd_a ε 7))] []
  try dsimp only
  refine bs_aload_n hC 0 dX2_gather_55 rfl rfl ?_
  refine bs_get hC (v := .int (bd_I S13 16)) hin_X2 5 (cX_o5 ε S13) rfl 2 (by decide) mw_186 rfl dX2_gather_56 ?_
  refine bs_iconst hC (1 : Int32) dX2_gather_59 rfl ?_
  refine bs_isub hC dX2_gather_60 ?_
  refine bs_leti (fun z14 ez14 => ?_)
  refine bs_istore hC [(4, .int z14), (0, .ref (bd_a ε 5)), (1, .ref (bd_a ε 8)), (2, .int x2), (3, .ref (bd_a ε 7))] dX2_gather_61 (by decide) rfl ?_
  refine bs_pick [1, 2, 3, 4, 0] rfl ?_
  refine bs_loopK (fun (q : Int32 × bd_T) t => bd_S Γ 6 t0 t (cX ε (q.2)) 63 [(0, .ref (bd_a ε 5)), (1, .ref (bd_a ε 8)), (2, .int x2), (3, .ref (bd_a ε 7)), (4, .int (q.1))] []) (fun (q : bd_T) t => bd_S Γ 6 t0 t (cX ε (q)) 92 [(0, .ref (bd_a ε 5)), (1, .ref (bd_a ε 8)), (2, .int x2), (3, .ref (bd_a ε 7))] []) (fun q => fb_X2_gather_b1_63 x2 q.1 q.2) (fun _ => bs_none) (fun K hk hx q => lb_X2_gather_b1_63 hC   x2 (fun a0 S => hk (a0, S)) (fun  S => hx (S))  (q.1) (q.2)) (fun r => ?_) bd_K (z14, S13)
  obtain ⟨S20, rfl⟩ : ∃ z, z = r := ⟨_, rfl⟩
  show bd_S Γ 6 t0 (Option.bind _ _) (cX ε S20) 92 [(0, .ref (bd_a ε 5)), (1, .ref (bd_a ε 8)), (2, .int x2), (3, .ref (bd_a ε 7))] []
  try dsimp only
  refine bs_aload_n hC 0 dX2_gather_92 rfl rfl ?_
  refine bs_get hC (v := .ref (bd_a ε (12 + 10))) hin_X2 5 (cX_o5 ε S20) rfl 1 (by decide) mw_185 rfl dX2_gather_93 ?_
  refine bs_aload_n hC 0 dX2_gather_96 rfl rfl ?_
  refine bs_get hC (v := .int (bd_I S20 16)) hin_X2 5 (cX_o5 ε S20) rfl 2 (by decide) mw_186 rfl dX2_gather_97 ?_
  refine bs_iconst hC (1 : Int32) dX2_gather_100 rfl ?_
  refine bs_isub hC dX2_gather_101 ?_
  refine bs_callSN_i hC (rm := ({ frames := 0, cells := 0, slots := 0, locals := 0 } : Room)) [.ref (bd_a ε (12 + 10)), .int ((bd_I S20 16) - (1 : Int32))] [] (fun h => c_X9_at (bd_l Γ) (bd_D Γ) ε 10 ((bd_I S20 16) - (1 : Int32)) (by decide) S20 h) mw_237 nm_36 mw_236 mw_72 by_X9_at ⟨rfl, rfl, by decide, by decide⟩ rfl rfl (Nat.le_of_ble_eq_true rfl) dX2_gather_102 (fun r21 S22 eS22 => ?_)
  refine bs_istore hC [(4, .int r21), (0, .ref (bd_a ε 5)), (1, .ref (bd_a ε 8)), (2, .int x2), (3, .ref (bd_a ε 7))] dX2_gather_105 (by decide) rfl ?_
  refine bs_iconst hC (0 : Int32) dX2_gather_107 rfl ?_
  refine bs_istore hC [(5, .int (0 : Int32)), (4, .int r21), (0, .ref (bd_a ε 5)), (1, .ref (bd_a ε 8)), (2, .int x2), (3, .ref (bd_a ε 7))] dX2_gather_108 (by decide) rfl ?_
  refine bs_pick [2, 3, 4, 5, 1, 0] rfl ?_
  refine bs_loopK (fun (q : Int32 × bd_T) t => bd_S Γ 6 t0 t (cX ε (q.2)) 110 [(0, .ref (bd_a ε 5)), (1, .ref (bd_a ε 8)), (2, .int x2), (3, .ref (bd_a ε 7)), (4, .int r21), (5, .int (q.1))] []) (fun (q : bd_T) t => bd_S Γ 6 t0 t (cX ε (q)) 152 [] []) (fun q => fb_X2_gather_b1_110 x2 r21 q.1 q.2) (fun _ => bs_none) (fun K hk hx q => lb_X2_gather_b1_110 hC   x2 r21 (fun a0 S => hk (a0, S)) (fun  S => hx (S))  (q.1) (q.2)) (fun r => ?_) bd_K ((0 : Int32), S22)
  obtain ⟨S30, rfl⟩ : ∃ z, z = r := ⟨_, rfl⟩
  show bd_S Γ 6 t0 (Option.bind _ _) (cX ε S30) 152 [] []
  try dsimp only
  exact bs_vret hC dX2_gather_152 rfl
theorem c_X2_gather_b1 (l : Launch) (D : va_G) (ε : bd_E) (x2 : Int32)  (S : bd_T) (h0 : (f_X2_gather_b1 x2 S).isSome = true) : bd_Con l yX2_gather (Cond.code yX2_gather cX2_gather 6 none :: bd_tbl) ({ frames := 4, cells := 0, slots := 0, locals := 100 } : Room) D ε (cX ε) bd_vv [.ref (bd_a ε 5), .ref (bd_a ε 8), .int x2, .ref (bd_a ε 7)] S (f_X2_gather_b1 x2 S) :=
  bd_con (by decide +kernel) (Nat.le_of_ble_eq_true rfl) ⟨rfl, rfl⟩ h0 (fun Γ _ _ hC => bs_eq bs_bs (b_X2_gather_b1 hC x2 S))
set_option maxRecDepth 100000 in
set_option maxHeartbeats 4000000 in
theorem lb_X9_doubts_44 {Γ : bd_G} {ε : bd_E} {t0 : Option (Int32 × bd_T)} (hC : bd_C Γ cX9_doubts 3 RX9 (some .int) ({ frames := 6, cells := 0, slots := 0, locals := 149 } : Room) ε (cX ε) bd_vi t0) (p1 : Int32) {K : (Int32 × bd_T) ⊕ (bd_T) → Option (Int32 × bd_T)} (hk : ∀ (x2 : Int32) (S : bd_T), bd_S Γ 3 t0 (K (.inl (x2, S))) (cX ε S) 44 [(0, .ref (bd_a ε 0)), (1, .int p1), (2, .int x2)] []) (hx : ∀ (S : bd_T), bd_S Γ 3 t0 (K (.inr S)) (cX ε S) 82 [(0, .ref (bd_a ε 0)), (1, .int p1)] []) (x2 : Int32) (S : bd_T) : bd_S Γ 3 t0 ((fb_X9_doubts_44 p1 x2 S).bind K) (cX ε S) 44 [(0, .ref (bd_a ε 0)), (1, .int p1), (2, .int x2)] [] := by
  unfold fb_X9_doubts_44
  refine bs_iload_n hC 2 dX9_doubts_44 rfl rfl ?_
  refine bs_sipush hC (300 : Int32) dX9_doubts_45 rfl ?_
  refine bs_icmp_ge hC 82 dX9_doubts_48 (by decide) (fun c9 => ?_) (fun c9 => ?_)
  · refine bs_some ?_
    refine bs_pick [0, 1] rfl ?_
    exact hx S
  refine bs_aload_n hC 0 dX9_doubts_51 rfl rfl ?_
  refine bs_get hC (v := .ref (bd_a ε 5)) hin_X9 0 (cX_o0 ε S) rfl 8 (by decide) mw_214 rfl dX9_doubts_52 ?_
  refine bs_iload_n hC 1 dX9_doubts_55 rfl rfl ?_
  refine bs_iload_n hC 2 dX9_doubts_56 rfl rfl ?_
  refine bs_aload_n hC 0 dX9_doubts_57 rfl rfl ?_
  refine bs_get hC (v := .ref (bd_a ε 4)) hin_X9 0 (cX_o0 ε S) rfl 7 (by decide) mw_213 rfl dX9_doubts_58 ?_
  refine bs_aload_n hC 0 dX9_doubts_61 rfl rfl ?_
  refine bs_get hC (v := .ref (bd_a ε 1)) hin_X9 0 (cX_o0 ε S) rfl 0 (by decide) mw_206 rfl dX9_doubts_62 ?_
  refine bs_iload_n hC 1 dX9_doubts_65 rfl rfl ?_
  refine bs_iload_n hC 2 dX9_doubts_66 rfl rfl ?_
  refine bs_callVN_i hC (rm := ({ frames := 1, cells := 0, slots := 0, locals := 21 } : Room)) [.ref (bd_a ε 1), .int p1, .int x2] [.int x2, .int p1, .ref (bd_a ε 5)] (fun h => c_X0_speaking (bd_l Γ) (bd_D Γ) ε p1 x2 S h) mw_350 nm_31 mw_349 mw_77 mw_23 (cX_o4 ε S) rfl by_X0_speaking ⟨rfl, rfl, by decide, by decide⟩ rfl rfl (Nat.le_of_ble_eq_true rfl) dX9_doubts_67 (fun r3 S4 eS4 => ?_)
  refine bs_callS_l hC (rm := ({ frames := 1, cells := 0, slots := 0, locals := 20 } : Room)) [.int r3] [.int x2, .int p1, .ref (bd_a ε 5)] (fun h => c_X9_costOf (bd_l Γ) (bd_D Γ) ε r3 S4 h) mw_489 mw_487 mw_488 mw_72 by_X9_costOf ⟨rfl, rfl, by decide, by decide⟩ rfl rfl (Nat.le_of_ble_eq_true rfl) dX9_doubts_70 (fun r5 S6 eS6 => ?_)
  refine bs_callVN_v hC (rm := ({ frames := 1, cells := 0, slots := 0, locals := 23 } : Room)) [.int p1, .int x2, .long r5] [] (fun h => c_X2_set (bd_l Γ) (bd_D Γ) ε p1 x2 r5 S6 h) mw_366 nm_32 mw_365 mw_78 mw_26 (cX_o5 ε S6) rfl by_X2_set ⟨rfl, rfl, by decide, by decide⟩ rfl rfl (Nat.le_of_ble_eq_true rfl) dX9_doubts_73 (fun r7 S8 eS8 => ?_)
  refine bs_iinc hC 2 [(2, .int (x2 + 1)), (0, .ref (bd_a ε 0)), (1, .int p1)] dX9_doubts_76 rfl rfl (by decide) rfl ?_
  refine bs_goto hC 44 dX9_doubts_79 (by decide) ?_
  refine bs_some ?_
  refine bs_pick [1, 2, 0] rfl ?_
  exact hk (x2 + 1) S8
set_option maxRecDepth 100000 in
set_option maxHeartbeats 4000000 in
theorem lb_X9_doubts_28 {Γ : bd_G} {ε : bd_E} {t0 : Option (Int32 × bd_T)} (hC : bd_C Γ cX9_doubts 3 RX9 (some .int) ({ frames := 6, cells := 0, slots := 0, locals := 149 } : Room) ε (cX ε) bd_vi t0)  {K : (Int32 × bd_T) ⊕ (bd_T) → Option (Int32 × bd_T)} (hk : ∀ (x1 : Int32) (S : bd_T), bd_S Γ 3 t0 (K (.inl (x1, S))) (cX ε S) 28 [(0, .ref (bd_a ε 0)), (1, .int x1)] []) (hx : ∀ (S : bd_T), bd_S Γ 3 t0 (K (.inr S)) (cX ε S) 88 [(0, .ref (bd_a ε 0))] []) (x1 : Int32) (S : bd_T) : bd_S Γ 3 t0 ((fb_X9_doubts_28 x1 S).bind K) (cX ε S) 28 [(0, .ref (bd_a ε 0)), (1, .int x1)] [] := by
  unfold fb_X9_doubts_28
  refine bs_iload_n hC 1 dX9_doubts_28 rfl rfl ?_
  refine bs_aload_n hC 0 dX9_doubts_29 rfl rfl ?_
  refine bs_get hC (v := .ref (bd_a ε 1)) hin_X9 0 (cX_o0 ε S) rfl 0 (by decide) mw_206 rfl dX9_doubts_30 ?_
  refine bs_getN hC (v := .ref (bd_a ε 8)) hin_X8 1 (cX_o1 ε S) rfl 0 (by decide) nf_18 rfl dX9_doubts_33 ?_
  refine bs_getN hC (v := .int (bd_I S 17)) hin_X7 8 (cX_o8 ε S) rfl 0 (by decide) nf_0 rfl dX9_doubts_36 ?_
  refine bs_icmp_ge hC 88 dX9_doubts_39 (by decide) (fun c11 => ?_) (fun c11 => ?_)
  · refine bs_some ?_
    refine bs_pick [0] rfl ?_
    exact hx S
  refine bs_iconst hC (0 : Int32) dX9_doubts_42 rfl ?_
  refine bs_istore_n hC [(2, .int (0 : Int32)), (0, .ref (bd_a ε 0)), (1, .int x1)] dX9_doubts_43 rfl (by decide) rfl ?_
  refine bs_pick [1, 2, 0] rfl ?_
  refine bs_loopK (fun (q : Int32 × bd_T) t => bd_S Γ 3 t0 t (cX ε (q.2)) 44 [(0, .ref (bd_a ε 0)), (1, .int x1), (2, .int (q.1))] []) (fun (q : bd_T) t => bd_S Γ 3 t0 t (cX ε (q)) 82 [(0, .ref (bd_a ε 0)), (1, .int x1)] []) (fun q => fb_X9_doubts_44 x1 q.1 q.2) (fun _ => bs_none) (fun K hk hx q => lb_X9_doubts_44 hC   x1 (fun a0 S => hk (a0, S)) (fun  S => hx (S))  (q.1) (q.2)) (fun r => ?_) bd_K ((0 : Int32), S)
  obtain ⟨S10, rfl⟩ : ∃ z, z = r := ⟨_, rfl⟩
  show bd_S Γ 3 t0 (Option.bind _ _) (cX ε S10) 82 [(0, .ref (bd_a ε 0)), (1, .int x1)] []
  try dsimp only
  refine bs_iinc hC 1 [(1, .int (x1 + 1)), (0, .ref (bd_a ε 0))] dX9_doubts_82 rfl rfl (by decide) rfl ?_
  refine bs_goto hC 28 dX9_doubts_85 (by decide) ?_
  refine bs_some ?_
  refine bs_pick [1, 0] rfl ?_
  exact hk (x1 + 1) S10
set_option maxRecDepth 100000 in
set_option maxHeartbeats 4000000 in
theorem b_X9_doubts {Γ : bd_G} {ε : bd_E} {t0 : Option (Int32 × bd_T)} (hC : bd_C Γ cX9_doubts 3 RX9 (some .int) ({ frames := 6, cells := 0, slots := 0, locals := 149 } : Room) ε (cX ε) bd_vi t0)  (S : bd_T) : bd_S Γ 3 t0 ((f_X9_doubts S).bind some) (cX ε S) 0 [(0, .ref (bd_a ε 0))] [] := by
  unfold f_X9_doubts
  refine bs_aload_n hC 0 dX9_doubts_0 rfl rfl ?_
  refine bs_get hC (v := .ref (bd_a ε 1)) hin_X9 0 (cX_o0 ε S) rfl 0 (by decide) mw_206 rfl dX9_doubts_1 ?_
  refine bs_getN hC (v := .ref (bd_a ε 8)) hin_X8 1 (cX_o1 ε S) rfl 0 (by decide) nf_18 rfl dX9_doubts_4 ?_
  refine bs_getN hC (v := .int (bd_I S 17)) hin_X7 8 (cX_o8 ε S) rfl 0 (by decide) nf_0 rfl dX9_doubts_7 ?_
  refine bs_if_ne hC 15 dX9_doubts_10 (by decide) (fun c18 => ?_) (fun c18 => ?_)
  · refine bs_iconst hC (0 : Int32) dX9_doubts_13 rfl ?_
    exact bs_iret hC dX9_doubts_14 rfl
  refine bs_aload_n hC 0 dX9_doubts_15 rfl rfl ?_
  refine bs_get hC (v := .ref (bd_a ε 4)) hin_X9 0 (cX_o0 ε S) rfl 7 (by decide) mw_213 rfl dX9_doubts_16 ?_
  refine bs_aload_n hC 0 dX9_doubts_19 rfl rfl ?_
  refine bs_get hC (v := .ref (bd_a ε 1)) hin_X9 0 (cX_o0 ε S) rfl 0 (by decide) mw_206 rfl dX9_doubts_20 ?_
  refine bs_callVN_v hC (rm := ({ frames := 5, cells := 0, slots := 0, locals := 127 } : Room)) [.ref (bd_a ε 1)] [] (fun h => c_X0_learn (bd_l Γ) (bd_D Γ) ε S h) mw_339 nm_27 mw_338 mw_77 mw_19 (cX_o4 ε S) rfl by_X0_learn ⟨rfl, rfl, by decide, by decide⟩ rfl rfl (Nat.le_of_ble_eq_true rfl) dX9_doubts_23 (fun r1 S2 eS2 => ?_)
  refine bs_iconst hC (0 : Int32) dX9_doubts_26 rfl ?_
  refine bs_istore_n hC [(1, .int (0 : Int32)), (0, .ref (bd_a ε 0))] dX9_doubts_27 rfl (by decide) rfl ?_
  refine bs_pick [1, 0] rfl ?_
  refine bs_loopK (fun (q : Int32 × bd_T) t => bd_S Γ 3 t0 t (cX ε (q.2)) 28 [(0, .ref (bd_a ε 0)), (1, .int (q.1))] []) (fun (q : bd_T) t => bd_S Γ 3 t0 t (cX ε (q)) 88 [(0, .ref (bd_a ε 0))] []) (fun q => fb_X9_doubts_28 q.1 q.2) (fun _ => bs_none) (fun K hk hx q => lb_X9_doubts_28 hC    (fun a0 S => hk (a0, S)) (fun  S => hx (S))  (q.1) (q.2)) (fun r => ?_) bd_K ((0 : Int32), S2)
  obtain ⟨S12, rfl⟩ : ∃ z, z = r := ⟨_, rfl⟩
  show bd_S Γ 3 t0 (Option.bind _ _) (cX ε S12) 88 [(0, .ref (bd_a ε 0))] []
  try dsimp only
  refine bs_aload_n hC 0 dX9_doubts_88 rfl rfl ?_
  refine bs_get hC (v := .ref (bd_a ε 5)) hin_X9 0 (cX_o0 ε S12) rfl 8 (by decide) mw_214 rfl dX9_doubts_89 ?_
  refine bs_aload_n hC 0 dX9_doubts_92 rfl rfl ?_
  refine bs_get hC (v := .ref (bd_a ε 1)) hin_X9 0 (cX_o0 ε S12) rfl 0 (by decide) mw_206 rfl dX9_doubts_93 ?_
  refine bs_getN hC (v := .ref (bd_a ε 8)) hin_X8 1 (cX_o1 ε S12) rfl 0 (by decide) nf_18 rfl dX9_doubts_96 ?_
  refine bs_iconst hC (0 : Int32) dX9_doubts_99 rfl ?_
  refine bs_aload_n hC 0 dX9_doubts_100 rfl rfl ?_
  refine bs_get hC (v := .ref (bd_a ε 7)) hin_X9 0 (cX_o0 ε S12) rfl 10 (by decide) mw_216 rfl dX9_doubts_101 ?_
  refine bs_callVN_v hC (rm := ({ frames := 4, cells := 0, slots := 0, locals := 100 } : Room)) [.ref (bd_a ε 8), .int (0 : Int32), .ref (bd_a ε 7)] [] (fun h => c_X2_gather_b1 (bd_l Γ) (bd_D Γ) ε (0 : Int32) S12 h) mw_370 nm_34 mw_369 mw_78 mw_27 (cX_o5 ε S12) rfl by_X2_gather ⟨rfl, rfl, by decide, by decide⟩ rfl rfl (Nat.le_of_ble_eq_true rfl) dX9_doubts_104 (fun r13 S14 eS14 => ?_)
  refine bs_aload_n hC 0 dX9_doubts_107 rfl rfl ?_
  refine bs_get hC (v := .ref (bd_a ε 5)) hin_X9 0 (cX_o0 ε S14) rfl 8 (by decide) mw_214 rfl dX9_doubts_108 ?_
  refine bs_iconst hC (0 : Int32) dX9_doubts_111 rfl ?_
  refine bs_aload_n hC 0 dX9_doubts_112 rfl rfl ?_
  refine bs_get hC (v := .ref (bd_a ε 7)) hin_X9 0 (cX_o0 ε S14) rfl 10 (by decide) mw_216 rfl dX9_doubts_113 ?_
  refine bs_callVN_l hC (rm := ({ frames := 2, cells := 0, slots := 0, locals := 52 } : Room)) [.int (0 : Int32), .ref (bd_a ε 7)] [] (fun h => c_X2_together_b1 (bd_l Γ) (bd_D Γ) ε (0 : Int32) S14 h) mw_443 nm_45 mw_442 mw_78 mw_35 (cX_o5 ε S14) rfl by_X2_together ⟨rfl, rfl, by decide, by decide⟩ rfl rfl (Nat.le_of_ble_eq_true rfl) dX9_doubts_116 (fun r15 S16 eS16 => ?_)
  refine bs_lstore_n hC [(1, .long r15), (0, .ref (bd_a ε 0))] dX9_doubts_119 rfl (by decide) rfl ?_
  refine bs_lload_n hC 0 dX9_doubts_120 rfl rfl ?_
  refine bs_ldc2 hC (1099511627776 : Int64) mw_497 dX9_doubts_121 ?_
  refine bs_lif_lt hC 133 dX9_doubts_124 dX9_doubts_125 (by decide) (fun c17 => ?_) (fun c17 => ?_)
  · refine bs_lload_n hC 0 dX9_doubts_133 rfl rfl ?_
    refine bs_l2i hC dX9_doubts_134 ?_
    refine bs_sipush hC (1023 : Int32) dX9_doubts_135 rfl ?_
    refine bs_iand hC dX9_doubts_138 ?_
    exact bs_iret hC dX9_doubts_139 rfl
  refine bs_bipush hC (-9 : Int32) dX9_doubts_128 rfl ?_
  refine bs_goto hC 139 dX9_doubts_130 (by decide) ?_
  exact bs_iret hC dX9_doubts_139 rfl
theorem c_X9_doubts (l : Launch) (D : va_G) (ε : bd_E)  (S : bd_T) (h0 : (f_X9_doubts S).isSome = true) : bd_Con l yX9_doubts (Cond.code yX9_doubts cX9_doubts 3 (some .int) :: bd_tbl) ({ frames := 6, cells := 0, slots := 0, locals := 149 } : Room) D ε (cX ε) bd_vi [.ref (bd_a ε 0)] S (f_X9_doubts S) :=
  bd_con (by decide +kernel) (Nat.le_of_ble_eq_true rfl) ⟨rfl, rfl⟩ h0 (fun Γ _ _ hC => bs_eq bs_bs (b_X9_doubts hC S))
set_option maxRecDepth 100000 in
set_option maxHeartbeats 4000000 in
theorem lb_X9_opened_22 {Γ : bd_G} {ε : bd_E} {t0 : Option (Int32 × bd_T)} (hC : bd_C Γ cX9_opened 5 RX9 (some .int) ({ frames := 6, cells := 0, slots := 0, locals := 149 } : Room) ε (cX ε) bd_vi t0) (p1 : Int32) (p2 : Int32) {K : (Int32 × Int32 × bd_T) ⊕ (Int32 × bd_T) → Option (Int32 × bd_T)} (hk : ∀ (x3 : Int32) (x4 : Int32) (S : bd_T), bd_S Γ 5 t0 (K (.inl (x3, x4, S))) (cX ε S) 22 [(0, .ref (bd_a ε 0)), (1, .int p1), (2, .int p2), (3, .int x3), (4, .int x4)] []) (hx : ∀ (y3 : Int32) (S : bd_T), bd_S Γ 5 t0 (K (.inr (y3, S))) (cX ε S) 113 [(0, .ref (bd_a ε 0)), (1, .int p1), (2, .int p2), (3, .int y3)] []) (x3 : Int32) (x4 : Int32) (S : bd_T) : bd_S Γ 5 t0 ((fb_X9_opened_22 p1 p2 x3 x4 S).bind K) (cX ε S) 22 [(0, .ref (bd_a ε 0)), (1, .int p1), (2, .int p2), (3, .int x3), (4, .int x4)] [] := by
  unfold fb_X9_opened_22
  refine bs_iload hC 4 dX9_opened_22 rfl ?_
  refine bs_aload_n hC 0 dX9_opened_24 rfl rfl ?_
  refine bs_get hC (v := .ref (bd_a ε 1)) hin_X9 0 (cX_o0 ε S) rfl 0 (by decide) mw_206 rfl dX9_opened_25 ?_
  refine bs_getN hC (v := .int (bd_I S 5)) hin_X8 1 (cX_o1 ε S) rfl 5 (by decide) nf_24 rfl dX9_opened_28 ?_
  refine bs_icmp_ge hC 113 dX9_opened_31 (by decide) (fun c17 => ?_) (fun c17 => ?_)
  · refine bs_some ?_
    refine bs_pick [0, 1, 2, 3] rfl ?_
    exact hx x3 S
  refine bs_iload_n hC 3 dX9_opened_34 rfl rfl ?_
  refine bs_bipush hC (-9 : Int32) dX9_opened_35 rfl ?_
  refine bs_icmp_ne hC 113 dX9_opened_37 (by decide) (fun c16 => ?_) (fun c16 => ?_)
  · refine bs_aload_n hC 0 dX9_opened_40 rfl rfl ?_
    refine bs_get hC (v := .ref (bd_a ε 1)) hin_X9 0 (cX_o0 ε S) rfl 0 (by decide) mw_206 rfl dX9_opened_41 ?_
    refine bs_aload_n hC 0 dX9_opened_44 rfl rfl ?_
    refine bs_get hC (v := .ref (bd_a ε 1)) hin_X9 0 (cX_o0 ε S) rfl 0 (by decide) mw_206 rfl dX9_opened_45 ?_
    refine bs_getN hC (v := .ref (bd_a ε (12 + 2))) hin_X8 1 (cX_o1 ε S) rfl 6 (by decide) nf_25 rfl dX9_opened_48 ?_
    refine bs_iload hC 4 dX9_opened_51 rfl ?_
    refine bs_callS_i hC (rm := ({ frames := 0, cells := 0, slots := 0, locals := 0 } : Room)) [.ref (bd_a ε (12 + 2)), .int x4] [.ref (bd_a ε 1)] (fun h => c_X9_at (bd_l Γ) (bd_D Γ) ε 2 x4 (by decide) S h) mw_237 mw_235 mw_236 mw_72 by_X9_at ⟨rfl, rfl, by decide, by decide⟩ rfl rfl (Nat.le_of_ble_eq_true rfl) dX9_opened_53 (fun r3 S4 eS4 => ?_)
    refine bs_aload_n hC 0 dX9_opened_56 rfl rfl ?_
    refine bs_get hC (v := .ref (bd_a ε 1)) hin_X9 0 (cX_o0 ε S4) rfl 0 (by decide) mw_206 rfl dX9_opened_57 ?_
    refine bs_getN hC (v := .ref (bd_a ε (12 + 3))) hin_X8 1 (cX_o1 ε S4) rfl 7 (by decide) nf_26 rfl dX9_opened_60 ?_
    refine bs_iload hC 4 dX9_opened_63 rfl ?_
    refine bs_callS_i hC (rm := ({ frames := 0, cells := 0, slots := 0, locals := 0 } : Room)) [.ref (bd_a ε (12 + 3)), .int x4] [.int r3, .ref (bd_a ε 1)] (fun h => c_X9_at (bd_l Γ) (bd_D Γ) ε 3 x4 (by decide) S4 h) mw_237 mw_235 mw_236 mw_72 by_X9_at ⟨rfl, rfl, by decide, by decide⟩ rfl rfl (Nat.le_of_ble_eq_true rfl) dX9_opened_65 (fun r5 S6 eS6 => ?_)
    refine bs_callVN_v hC (rm := ({ frames := 0, cells := 0, slots := 0, locals := 0 } : Room)) [.int r3, .int r5] [] (fun h => c_X8_open (bd_l Γ) (bd_D Γ) ε r3 r5 S6 h) mw_284 nm_18 mw_283 mw_73 mw_10 (cX_o1 ε S6) rfl by_X8_open ⟨rfl, rfl, by decide, by decide⟩ rfl rfl (Nat.le_of_ble_eq_true rfl) dX9_opened_68 (fun r7 S8 eS8 => ?_)
    refine bs_aload_n hC 0 dX9_opened_71 rfl rfl ?_
    refine bs_get hC (v := .ref (bd_a ε 4)) hin_X9 0 (cX_o0 ε S8) rfl 7 (by decide) mw_213 rfl dX9_opened_72 ?_
    refine bs_callVN_v hC (rm := ({ frames := 0, cells := 0, slots := 0, locals := 0 } : Room)) [] [] (fun h => c_X0_forget (bd_l Γ) (bd_D Γ) ε S8 h) mw_275 nm_16 mw_274 mw_77 mw_8 (cX_o4 ε S8) rfl by_X0_forget ⟨rfl, rfl, by decide, by decide⟩ rfl rfl (Nat.le_of_ble_eq_true rfl) dX9_opened_75 (fun r9 S10 eS10 => ?_)
    refine bs_aload_n hC 0 dX9_opened_78 rfl rfl ?_
    refine bs_get hC (v := .ref (bd_a ε 4)) hin_X9 0 (cX_o0 ε S10) rfl 7 (by decide) mw_213 rfl dX9_opened_79 ?_
    refine bs_aload_n hC 0 dX9_opened_82 rfl rfl ?_
    refine bs_get hC (v := .ref (bd_a ε 1)) hin_X9 0 (cX_o0 ε S10) rfl 0 (by decide) mw_206 rfl dX9_opened_83 ?_
    refine bs_callVN_v hC (rm := ({ frames := 5, cells := 0, slots := 0, locals := 127 } : Room)) [.ref (bd_a ε 1)] [] (fun h => c_X0_learn (bd_l Γ) (bd_D Γ) ε S10 h) mw_339 nm_27 mw_338 mw_77 mw_19 (cX_o4 ε S10) rfl by_X0_learn ⟨rfl, rfl, by decide, by decide⟩ rfl rfl (Nat.le_of_ble_eq_true rfl) dX9_opened_86 (fun r11 S12 eS12 => ?_)
    refine bs_aload_n hC 0 dX9_opened_89 rfl rfl ?_
    refine bs_iconst hC (-1 : Int32) dX9_opened_90 rfl ?_
    refine bs_callV_l hC (rm := ({ frames := 5, cells := 0, slots := 0, locals := 121 } : Room)) [.int (-1 : Int32)] [] (fun h => c_X9_waysWithout (bd_l Γ) (bd_D Γ) ε (-1 : Int32) S12 h) mw_361 mw_359 mw_360 mw_72 mw_24 (cX_o0 ε S12) rfl by_X9_waysWithout ⟨rfl, rfl, by decide, by decide⟩ rfl rfl (Nat.le_of_ble_eq_true rfl) dX9_opened_91 (fun r13 S14 eS14 => ?_)
    refine bs_lconst hC (0 : Int64) dX9_opened_94 rfl ?_
    refine bs_lif_le hC 104 dX9_opened_95 dX9_opened_96 (by decide) (fun c15 => ?_) (fun c15 => ?_)
    · refine bs_bipush hC (-9 : Int32) dX9_opened_104 rfl ?_
      refine bs_istore_n hC [(3, .int (-9 : Int32)), (0, .ref (bd_a ε 0)), (1, .int p1), (2, .int p2), (4, .int x4)] dX9_opened_106 rfl (by decide) rfl ?_
      refine bs_iinc hC 4 [(4, .int (x4 + 1)), (3, .int (-9 : Int32)), (0, .ref (bd_a ε 0)), (1, .int p1), (2, .int p2)] dX9_opened_107 rfl rfl (by decide) rfl ?_
      refine bs_goto hC 22 dX9_opened_110 (by decide) ?_
      refine bs_some ?_
      refine bs_pick [2, 3, 4, 1, 0] rfl ?_
      exact hk (-9 : Int32) (x4 + 1) S14
    refine bs_iload hC 4 dX9_opened_99 rfl ?_
    refine bs_goto hC 106 dX9_opened_101 (by decide) ?_
    refine bs_istore_n hC [(3, .int x4), (0, .ref (bd_a ε 0)), (1, .int p1), (2, .int p2), (4, .int x4)] dX9_opened_106 rfl (by decide) rfl ?_
    refine bs_iinc hC 4 [(4, .int (x4 + 1)), (3, .int x4), (0, .ref (bd_a ε 0)), (1, .int p1), (2, .int p2)] dX9_opened_107 rfl rfl (by decide) rfl ?_
    refine bs_goto hC 22 dX9_opened_110 (by decide) ?_
    refine bs_some ?_
    refine bs_pick [2, 3, 4, 1, 0] rfl ?_
    exact hk x4 (x4 + 1) S14
  refine bs_some ?_
  refine bs_pick [0, 1, 2, 3] rfl ?_
  exact hx x3 S
set_option maxRecDepth 100000 in
set_option maxHeartbeats 4000000 in
theorem b_X9_opened {Γ : bd_G} {ε : bd_E} {t0 : Option (Int32 × bd_T)} (hC : bd_C Γ cX9_opened 5 RX9 (some .int) ({ frames := 6, cells := 0, slots := 0, locals := 149 } : Room) ε (cX ε) bd_vi t0)  (S : bd_T) : bd_S Γ 5 t0 ((f_X9_opened S).bind some) (cX ε S) 0 [(0, .ref (bd_a ε 0))] [] := by
  unfold f_X9_opened
  refine bs_aload_n hC 0 dX9_opened_0 rfl rfl ?_
  refine bs_get hC (v := .ref (bd_a ε 1)) hin_X9 0 (cX_o0 ε S) rfl 0 (by decide) mw_206 rfl dX9_opened_1 ?_
  refine bs_getN hC (v := .int (bd_I S 3)) hin_X8 1 (cX_o1 ε S) rfl 3 (by decide) nf_22 rfl dX9_opened_4 ?_
  refine bs_leti (fun z1 ez1 => ?_)
  refine bs_istore_n hC [(1, .int z1), (0, .ref (bd_a ε 0))] dX9_opened_7 rfl (by decide) rfl ?_
  refine bs_aload_n hC 1 dX9_opened_8 rfl rfl ?_
  refine bs_get hC (v := .ref (bd_a ε 1)) hin_X9 0 (cX_o0 ε S) rfl 0 (by decide) mw_206 rfl dX9_opened_9 ?_
  refine bs_getN hC (v := .int (bd_I S 4)) hin_X8 1 (cX_o1 ε S) rfl 4 (by decide) nf_23 rfl dX9_opened_12 ?_
  refine bs_leti (fun z2 ez2 => ?_)
  refine bs_istore_n hC [(2, .int z2), (1, .int z1), (0, .ref (bd_a ε 0))] dX9_opened_15 rfl (by decide) rfl ?_
  refine bs_bipush hC (-9 : Int32) dX9_opened_16 rfl ?_
  refine bs_istore_n hC [(3, .int (-9 : Int32)), (2, .int z2), (1, .int z1), (0, .ref (bd_a ε 0))] dX9_opened_18 rfl (by decide) rfl ?_
  refine bs_iconst hC (0 : Int32) dX9_opened_19 rfl ?_
  refine bs_istore hC [(4, .int (0 : Int32)), (3, .int (-9 : Int32)), (2, .int z2), (1, .int z1), (0, .ref (bd_a ε 0))] dX9_opened_20 (by decide) rfl ?_
  refine bs_pick [4, 3, 2, 1, 0] rfl ?_
  refine bs_loopK (fun (q : Int32 × Int32 × bd_T) t => bd_S Γ 5 t0 t (cX ε (q.2.2)) 22 [(0, .ref (bd_a ε 0)), (1, .int z1), (2, .int z2), (3, .int (q.1)), (4, .int (q.2.1))] []) (fun (q : Int32 × bd_T) t => bd_S Γ 5 t0 t (cX ε (q.2)) 113 [(0, .ref (bd_a ε 0)), (1, .int z1), (2, .int z2), (3, .int (q.1))] []) (fun q => fb_X9_opened_22 z1 z2 q.1 q.2.1 q.2.2) (fun _ => bs_none) (fun K hk hx q => lb_X9_opened_22 hC   z1 z2 (fun a0 a1 S => hk (a0, a1, S)) (fun b0 S => hx (b0, S))  (q.1) (q.2.1) (q.2.2)) (fun r => ?_) bd_K ((-9 : Int32), (0 : Int32), S)
  obtain ⟨y18, S19⟩ := r
  show bd_S Γ 5 t0 (Option.bind _ _) (cX ε S19) 113 [(0, .ref (bd_a ε 0)), (1, .int z1), (2, .int z2), (3, .int y18)] []
  try dsimp only
  refine bs_aload_n hC 0 dX9_opened_113 rfl rfl ?_
  refine bs_get hC (v := .ref (bd_a ε 1)) hin_X9 0 (cX_o0 ε S19) rfl 0 (by decide) mw_206 rfl dX9_opened_114 ?_
  refine bs_iload_n hC 1 dX9_opened_117 rfl rfl ?_
  refine bs_iload_n hC 2 dX9_opened_118 rfl rfl ?_
  refine bs_callVN_v hC (rm := ({ frames := 0, cells := 0, slots := 0, locals := 0 } : Room)) [.int z1, .int z2] [] (fun h => c_X8_open (bd_l Γ) (bd_D Γ) ε z1 z2 S19 h) mw_284 nm_18 mw_283 mw_73 mw_10 (cX_o1 ε S19) rfl by_X8_open ⟨rfl, rfl, by decide, by decide⟩ rfl rfl (Nat.le_of_ble_eq_true rfl) dX9_opened_119 (fun r20 S21 eS21 => ?_)
  refine bs_aload_n hC 0 dX9_opened_122 rfl rfl ?_
  refine bs_get hC (v := .ref (bd_a ε 4)) hin_X9 0 (cX_o0 ε S21) rfl 7 (by decide) mw_213 rfl dX9_opened_123 ?_
  refine bs_callVN_v hC (rm := ({ frames := 0, cells := 0, slots := 0, locals := 0 } : Room)) [] [] (fun h => c_X0_forget (bd_l Γ) (bd_D Γ) ε S21 h) mw_275 nm_16 mw_274 mw_77 mw_8 (cX_o4 ε S21) rfl by_X0_forget ⟨rfl, rfl, by decide, by decide⟩ rfl rfl (Nat.le_of_ble_eq_true rfl) dX9_opened_126 (fun r22 S23 eS23 => ?_)
  refine bs_iload_n hC 3 dX9_opened_129 rfl rfl ?_
  exact bs_iret hC dX9_opened_130 rfl
theorem c_X9_opened (l : Launch) (D : va_G) (ε : bd_E)  (S : bd_T) (h0 : (f_X9_opened S).isSome = true) : bd_Con l yX9_opened (Cond.code yX9_opened cX9_opened 5 (some .int) :: bd_tbl) ({ frames := 6, cells := 0, slots := 0, locals := 149 } : Room) D ε (cX ε) bd_vi [.ref (bd_a ε 0)] S (f_X9_opened S) :=
  bd_con (by decide +kernel) (Nat.le_of_ble_eq_true rfl) ⟨rfl, rfl⟩ h0 (fun Γ _ _ hC => bs_eq bs_bs (b_X9_opened hC S))
set_option maxRecDepth 100000 in
set_option maxHeartbeats 4000000 in
theorem lb_X9_hangs_23 {Γ : bd_G} {ε : bd_E} {t0 : Option (Int32 × bd_T)} (hC : bd_C Γ cX9_hangs 7 RX9 (some .int) ({ frames := 6, cells := 0, slots := 0, locals := 149 } : Room) ε (cX ε) bd_vi t0)  {K : (Int64 × Int32 × Int32 × bd_T) ⊕ (Int32 × bd_T) → Option (Int32 × bd_T)} (hk : ∀ (x1 : Int64) (x3 : Int32) (x4 : Int32) (S : bd_T), bd_S Γ 7 t0 (K (.inl (x1, x3, x4, S))) (cX ε S) 23 [(0, .ref (bd_a ε 0)), (1, .long x1), (3, .int x3), (4, .int x4)] []) (hx : ∀ (y3 : Int32) (S : bd_T), bd_S Γ 7 t0 (K (.inr (y3, S))) (cX ε S) 65 [(3, .int y3)] []) (x1 : Int64) (x3 : Int32) (x4 : Int32) (S : bd_T) : bd_S Γ 7 t0 ((fb_X9_hangs_23 x1 x3 x4 S).bind K) (cX ε S) 23 [(0, .ref (bd_a ε 0)), (1, .long x1), (3, .int x3), (4, .int x4)] [] := by
  unfold fb_X9_hangs_23
  refine bs_iload hC 3 dX9_hangs_23 rfl ?_
  refine bs_aload_n hC 0 dX9_hangs_25 rfl rfl ?_
  refine bs_get hC (v := .ref (bd_a ε 1)) hin_X9 0 (cX_o0 ε S) rfl 0 (by decide) mw_206 rfl dX9_hangs_26 ?_
  refine bs_getN hC (v := .ref (bd_a ε 8)) hin_X8 1 (cX_o1 ε S) rfl 0 (by decide) nf_18 rfl dX9_hangs_29 ?_
  refine bs_getN hC (v := .int (bd_I S 17)) hin_X7 8 (cX_o8 ε S) rfl 0 (by decide) nf_0 rfl dX9_hangs_32 ?_
  refine bs_icmp_ge hC 65 dX9_hangs_35 (by decide) (fun c8 => ?_) (fun c8 => ?_)
  · refine bs_some ?_
    refine bs_pick [2] rfl ?_
    exact hx x3 S
  refine bs_aload_n hC 0 dX9_hangs_38 rfl rfl ?_
  refine bs_iload hC 3 dX9_hangs_39 rfl ?_
  refine bs_callV_l hC (rm := ({ frames := 5, cells := 0, slots := 0, locals := 121 } : Room)) [.int x4] [] (fun h => c_X9_waysWithout (bd_l Γ) (bd_D Γ) ε x4 S h) mw_361 mw_359 mw_360 mw_72 mw_24 (cX_o0 ε S) rfl by_X9_waysWithout ⟨rfl, rfl, by decide, by decide⟩ rfl rfl (Nat.le_of_ble_eq_true rfl) dX9_hangs_41 (fun r5 S6 eS6 => ?_)
  refine bs_lstore hC [(5, .long r5), (0, .ref (bd_a ε 0)), (1, .long x1), (3, .int x3), (4, .int x4)] dX9_hangs_44 (by decide) rfl ?_
  refine bs_lload hC 0 dX9_hangs_46 rfl ?_
  refine bs_lload_n hC 2 dX9_hangs_48 rfl rfl ?_
  refine bs_lif_le hC 59 dX9_hangs_49 dX9_hangs_50 (by decide) (fun c7 => ?_) (fun c7 => ?_)
  · refine bs_iinc hC 4 [(4, .int (x4 + 1)), (5, .long r5), (0, .ref (bd_a ε 0)), (1, .long x1), (3, .int x3)] dX9_hangs_59 rfl rfl (by decide) rfl ?_
    refine bs_goto hC 23 dX9_hangs_62 (by decide) ?_
    refine bs_some ?_
    refine bs_pick [2, 3, 4, 0] rfl ?_
    exact hk x1 x3 (x4 + 1) S6
  refine bs_lload hC 0 dX9_hangs_53 rfl ?_
  refine bs_lstore_n hC [(1, .long r5), (5, .long r5), (0, .ref (bd_a ε 0)), (3, .int x3), (4, .int x4)] dX9_hangs_55 rfl (by decide) rfl ?_
  refine bs_iload hC 4 dX9_hangs_56 rfl ?_
  refine bs_istore_n hC [(3, .int x4), (1, .long r5), (5, .long r5), (0, .ref (bd_a ε 0)), (4, .int x4)] dX9_hangs_58 rfl (by decide) rfl ?_
  refine bs_iinc hC 4 [(4, .int (x4 + 1)), (3, .int x4), (1, .long r5), (5, .long r5), (0, .ref (bd_a ε 0))] dX9_hangs_59 rfl rfl (by decide) rfl ?_
  refine bs_goto hC 23 dX9_hangs_62 (by decide) ?_
  refine bs_some ?_
  refine bs_pick [4, 2, 1, 0] rfl ?_
  exact hk r5 x4 (x4 + 1) S6
set_option maxRecDepth 100000 in
set_option maxHeartbeats 4000000 in
theorem b_X9_hangs {Γ : bd_G} {ε : bd_E} {t0 : Option (Int32 × bd_T)} (hC : bd_C Γ cX9_hangs 7 RX9 (some .int) ({ frames := 6, cells := 0, slots := 0, locals := 149 } : Room) ε (cX ε) bd_vi t0)  (S : bd_T) : bd_S Γ 7 t0 ((f_X9_hangs S).bind some) (cX ε S) 0 [(0, .ref (bd_a ε 0))] [] := by
  unfold f_X9_hangs
  refine bs_aload_n hC 0 dX9_hangs_0 rfl rfl ?_
  refine bs_get hC (v := .ref (bd_a ε 4)) hin_X9 0 (cX_o0 ε S) rfl 7 (by decide) mw_213 rfl dX9_hangs_1 ?_
  refine bs_aload_n hC 0 dX9_hangs_4 rfl rfl ?_
  refine bs_get hC (v := .ref (bd_a ε 1)) hin_X9 0 (cX_o0 ε S) rfl 0 (by decide) mw_206 rfl dX9_hangs_5 ?_
  refine bs_callVN_v hC (rm := ({ frames := 5, cells := 0, slots := 0, locals := 127 } : Room)) [.ref (bd_a ε 1)] [] (fun h => c_X0_learn (bd_l Γ) (bd_D Γ) ε S h) mw_339 nm_27 mw_338 mw_77 mw_19 (cX_o4 ε S) rfl by_X0_learn ⟨rfl, rfl, by decide, by decide⟩ rfl rfl (Nat.le_of_ble_eq_true rfl) dX9_hangs_8 (fun r1 S2 eS2 => ?_)
  refine bs_aload_n hC 0 dX9_hangs_11 rfl rfl ?_
  refine bs_iconst hC (-1 : Int32) dX9_hangs_12 rfl ?_
  refine bs_callV_l hC (rm := ({ frames := 5, cells := 0, slots := 0, locals := 121 } : Room)) [.int (-1 : Int32)] [] (fun h => c_X9_waysWithout (bd_l Γ) (bd_D Γ) ε (-1 : Int32) S2 h) mw_361 mw_359 mw_360 mw_72 mw_24 (cX_o0 ε S2) rfl by_X9_waysWithout ⟨rfl, rfl, by decide, by decide⟩ rfl rfl (Nat.le_of_ble_eq_true rfl) dX9_hangs_13 (fun r3 S4 eS4 => ?_)
  refine bs_lstore_n hC [(1, .long r3), (0, .ref (bd_a ε 0))] dX9_hangs_16 rfl (by decide) rfl ?_
  refine bs_bipush hC (-9 : Int32) dX9_hangs_17 rfl ?_
  refine bs_istore_n hC [(3, .int (-9 : Int32)), (1, .long r3), (0, .ref (bd_a ε 0))] dX9_hangs_19 rfl (by decide) rfl ?_
  refine bs_iconst hC (0 : Int32) dX9_hangs_20 rfl ?_
  refine bs_istore hC [(4, .int (0 : Int32)), (3, .int (-9 : Int32)), (1, .long r3), (0, .ref (bd_a ε 0))] dX9_hangs_21 (by decide) rfl ?_
  refine bs_pick [3, 2, 1, 0] rfl ?_
  refine bs_loopK (fun (q : Int64 × Int32 × Int32 × bd_T) t => bd_S Γ 7 t0 t (cX ε (q.2.2.2)) 23 [(0, .ref (bd_a ε 0)), (1, .long (q.1)), (3, .int (q.2.1)), (4, .int (q.2.2.1))] []) (fun (q : Int32 × bd_T) t => bd_S Γ 7 t0 t (cX ε (q.2)) 65 [(3, .int (q.1))] []) (fun q => fb_X9_hangs_23 q.1 q.2.1 q.2.2.1 q.2.2.2) (fun _ => bs_none) (fun K hk hx q => lb_X9_hangs_23 hC    (fun a0 a1 a2 S => hk (a0, a1, a2, S)) (fun b0 S => hx (b0, S))  (q.1) (q.2.1) (q.2.2.1) (q.2.2.2)) (fun r => ?_) bd_K (r3, (-9 : Int32), (0 : Int32), S4)
  obtain ⟨y9, S10⟩ := r
  show bd_S Γ 7 t0 (Option.bind _ _) (cX ε S10) 65 [(3, .int y9)] []
  try dsimp only
  refine bs_iload_n hC 0 dX9_hangs_65 rfl rfl ?_
  exact bs_iret hC dX9_hangs_66 rfl
theorem c_X9_hangs (l : Launch) (D : va_G) (ε : bd_E)  (S : bd_T) (h0 : (f_X9_hangs S).isSome = true) : bd_Con l yX9_hangs (Cond.code yX9_hangs cX9_hangs 7 (some .int) :: bd_tbl) ({ frames := 6, cells := 0, slots := 0, locals := 149 } : Room) D ε (cX ε) bd_vi [.ref (bd_a ε 0)] S (f_X9_hangs S) :=
  bd_con (by decide +kernel) (Nat.le_of_ble_eq_true rfl) ⟨rfl, rfl⟩ h0 (fun Γ _ _ hC => bs_eq bs_bs (b_X9_hangs hC S))
set_option maxRecDepth 100000 in
set_option maxHeartbeats 4000000 in
theorem lb_X9_setMinutes_19 {Γ : bd_G} {ε : bd_E} {t0 : Option (Unit × bd_T)} (hC : bd_C Γ cX9_setMinutes 7 RX9 none ({ frames := 2, cells := 0, slots := 0, locals := 47 } : Room) ε (cX ε) bd_vv t0) (p1 : Int32) (p2 : Int32) (p3 : Int32) {K : (Int32 × bd_T) ⊕ (bd_T) → Option (Unit × bd_T)} (hk : ∀ (x4 : Int32) (S : bd_T), bd_S Γ 7 t0 (K (.inl (x4, S))) (cX ε S) 19 [(0, .ref (bd_a ε 0)), (1, .int p1), (2, .int p2), (3, .int p3), (4, .int x4)] []) (hx : ∀ (S : bd_T), bd_S Γ 7 t0 (K (.inr S)) (cX ε S) 97 [(0, .ref (bd_a ε 0)), (1, .int p1), (2, .int p2), (3, .int p3)] []) (x4 : Int32) (S : bd_T) : bd_S Γ 7 t0 ((fb_X9_setMinutes_19 p1 p2 p3 x4 S).bind K) (cX ε S) 19 [(0, .ref (bd_a ε 0)), (1, .int p1), (2, .int p2), (3, .int p3), (4, .int x4)] [] := by
  unfold fb_X9_setMinutes_19
  refine bs_iload hC 4 dX9_setMinutes_19 rfl ?_
  refine bs_sipush hC (300 : Int32) dX9_setMinutes_21 rfl ?_
  refine bs_icmp_ge hC 97 dX9_setMinutes_24 (by decide) (fun c24 => ?_) (fun c24 => ?_)
  · refine bs_some ?_
    refine bs_pick [0, 1, 2, 3] rfl ?_
    exact hx S
  refine bs_iload_n hC 2 dX9_setMinutes_27 rfl rfl ?_
  refine bs_if_eq hC 41 dX9_setMinutes_28 (by decide) (fun c23 => ?_) (fun c23 => ?_)
  · refine bs_iload hC 4 dX9_setMinutes_41 rfl ?_
    refine bs_i2l hC dX9_setMinutes_43 ?_
    refine bs_letl (fun z1 ez1 => ?_)
    refine bs_lstore hC [(5, .long z1), (0, .ref (bd_a ε 0)), (1, .int p1), (2, .int p2), (3, .int p3), (4, .int x4)] dX9_setMinutes_44 (by decide) rfl ?_
    refine bs_aload_n hC 1 dX9_setMinutes_46 rfl rfl ?_
    refine bs_get hC (v := .ref (bd_a ε 4)) hin_X9 0 (cX_o0 ε S) rfl 7 (by decide) mw_213 rfl dX9_setMinutes_47 ?_
    refine bs_aload_n hC 1 dX9_setMinutes_50 rfl rfl ?_
    refine bs_get hC (v := .ref (bd_a ε 1)) hin_X9 0 (cX_o0 ε S) rfl 0 (by decide) mw_206 rfl dX9_setMinutes_51 ?_
    refine bs_iload_n hC 4 dX9_setMinutes_54 rfl rfl ?_
    refine bs_iload hC 5 dX9_setMinutes_55 rfl ?_
    refine bs_callVN_i hC (rm := ({ frames := 1, cells := 0, slots := 0, locals := 21 } : Room)) [.ref (bd_a ε 1), .int p3, .int x4] [] (fun h => c_X0_speaking (bd_l Γ) (bd_D Γ) ε p3 x4 S h) mw_350 nm_31 mw_349 mw_77 mw_23 (cX_o4 ε S) rfl by_X0_speaking ⟨rfl, rfl, by decide, by decide⟩ rfl rfl (Nat.le_of_ble_eq_true rfl) dX9_setMinutes_57 (fun r2 S3 eS3 => ?_)
    refine bs_if_eq hC 71 dX9_setMinutes_60 (by decide) (fun c11 => ?_) (fun c11 => ?_)
    · refine bs_iload_n hC 4 dX9_setMinutes_71 rfl rfl ?_
      refine bs_iload_n hC 2 dX9_setMinutes_72 rfl rfl ?_
      refine bs_icmp_eq hC 79 dX9_setMinutes_73 (by decide) (fun c8 => ?_) (fun c8 => ?_)
      · refine bs_aload_n hC 1 dX9_setMinutes_79 rfl rfl ?_
        refine bs_get hC (v := .ref (bd_a ε 5)) hin_X9 0 (cX_o0 ε S3) rfl 8 (by decide) mw_214 rfl dX9_setMinutes_80 ?_
        refine bs_iload_n hC 4 dX9_setMinutes_83 rfl rfl ?_
        refine bs_iload hC 5 dX9_setMinutes_84 rfl ?_
        refine bs_lload hC 0 dX9_setMinutes_86 rfl ?_
        refine bs_callVN_v hC (rm := ({ frames := 1, cells := 0, slots := 0, locals := 23 } : Room)) [.int p3, .int x4, .long z1] [] (fun h => c_X2_set (bd_l Γ) (bd_D Γ) ε p3 x4 z1 S3 h) mw_366 nm_32 mw_365 mw_78 mw_26 (cX_o5 ε S3) rfl by_X2_set ⟨rfl, rfl, by decide, by decide⟩ rfl rfl (Nat.le_of_ble_eq_true rfl) dX9_setMinutes_88 (fun r4 S5 eS5 => ?_)
        refine bs_iinc hC 5 [(4, .int (x4 + 1)), (5, .long z1), (0, .ref (bd_a ε 0)), (1, .int p1), (2, .int p2), (3, .int p3)] dX9_setMinutes_91 rfl rfl (by decide) rfl ?_
        refine bs_goto hC 19 dX9_setMinutes_94 (by decide) ?_
        refine bs_some ?_
        refine bs_pick [2, 3, 4, 5, 0] rfl ?_
        exact hk (x4 + 1) S5
      refine bs_lconst hC (0 : Int64) dX9_setMinutes_76 rfl ?_
      refine bs_lstore hC [(5, .long (0 : Int64)), (0, .ref (bd_a ε 0)), (1, .int p1), (2, .int p2), (3, .int p3), (4, .int x4)] dX9_setMinutes_77 (by decide) rfl ?_
      refine bs_aload_n hC 1 dX9_setMinutes_79 rfl rfl ?_
      refine bs_get hC (v := .ref (bd_a ε 5)) hin_X9 0 (cX_o0 ε S3) rfl 8 (by decide) mw_214 rfl dX9_setMinutes_80 ?_
      refine bs_iload_n hC 4 dX9_setMinutes_83 rfl rfl ?_
      refine bs_iload hC 5 dX9_setMinutes_84 rfl ?_
      refine bs_lload hC 0 dX9_setMinutes_86 rfl ?_
      refine bs_callVN_v hC (rm := ({ frames := 1, cells := 0, slots := 0, locals := 23 } : Room)) [.int p3, .int x4, .long (0 : Int64)] [] (fun h => c_X2_set (bd_l Γ) (bd_D Γ) ε p3 x4 (0 : Int64) S3 h) mw_366 nm_32 mw_365 mw_78 mw_26 (cX_o5 ε S3) rfl by_X2_set ⟨rfl, rfl, by decide, by decide⟩ rfl rfl (Nat.le_of_ble_eq_true rfl) dX9_setMinutes_88 (fun r6 S7 eS7 => ?_)
      refine bs_iinc hC 5 [(4, .int (x4 + 1)), (5, .long (0 : Int64)), (0, .ref (bd_a ε 0)), (1, .int p1), (2, .int p2), (3, .int p3)] dX9_setMinutes_91 rfl rfl (by decide) rfl ?_
      refine bs_goto hC 19 dX9_setMinutes_94 (by decide) ?_
      refine bs_some ?_
      refine bs_pick [2, 3, 4, 5, 0] rfl ?_
      exact hk (x4 + 1) S7
    refine bs_ldc2 hC (1099511627776 : Int64) mw_497 dX9_setMinutes_63 ?_
    refine bs_lstore hC [(5, .long (1099511627776 : Int64)), (0, .ref (bd_a ε 0)), (1, .int p1), (2, .int p2), (3, .int p3), (4, .int x4)] dX9_setMinutes_66 (by decide) rfl ?_
    refine bs_goto hC 79 dX9_setMinutes_68 (by decide) ?_
    refine bs_aload_n hC 1 dX9_setMinutes_79 rfl rfl ?_
    refine bs_get hC (v := .ref (bd_a ε 5)) hin_X9 0 (cX_o0 ε S3) rfl 8 (by decide) mw_214 rfl dX9_setMinutes_80 ?_
    refine bs_iload_n hC 4 dX9_setMinutes_83 rfl rfl ?_
    refine bs_iload hC 5 dX9_setMinutes_84 rfl ?_
    refine bs_lload hC 0 dX9_setMinutes_86 rfl ?_
    refine bs_callVN_v hC (rm := ({ frames := 1, cells := 0, slots := 0, locals := 23 } : Room)) [.int p3, .int x4, .long (1099511627776 : Int64)] [] (fun h => c_X2_set (bd_l Γ) (bd_D Γ) ε p3 x4 (1099511627776 : Int64) S3 h) mw_366 nm_32 mw_365 mw_78 mw_26 (cX_o5 ε S3) rfl by_X2_set ⟨rfl, rfl, by decide, by decide⟩ rfl rfl (Nat.le_of_ble_eq_true rfl) dX9_setMinutes_88 (fun r9 S10 eS10 => ?_)
    refine bs_iinc hC 5 [(4, .int (x4 + 1)), (5, .long (1099511627776 : Int64)), (0, .ref (bd_a ε 0)), (1, .int p1), (2, .int p2), (3, .int p3)] dX9_setMinutes_91 rfl rfl (by decide) rfl ?_
    refine bs_goto hC 19 dX9_setMinutes_94 (by decide) ?_
    refine bs_some ?_
    refine bs_pick [2, 3, 4, 5, 0] rfl ?_
    exact hk (x4 + 1) S10
  refine bs_sipush hC (299 : Int32) dX9_setMinutes_31 rfl ?_
  refine bs_iload hC 4 dX9_setMinutes_34 rfl ?_
  refine bs_isub hC dX9_setMinutes_36 ?_
  refine bs_i2l hC dX9_setMinutes_37 ?_
  refine bs_goto hC 44 dX9_setMinutes_38 (by decide) ?_
  refine bs_letl (fun z12 ez12 => ?_)
  refine bs_lstore hC [(5, .long z12), (0, .ref (bd_a ε 0)), (1, .int p1), (2, .int p2), (3, .int p3), (4, .int x4)] dX9_setMinutes_44 (by decide) rfl ?_
  refine bs_aload_n hC 1 dX9_setMinutes_46 rfl rfl ?_
  refine bs_get hC (v := .ref (bd_a ε 4)) hin_X9 0 (cX_o0 ε S) rfl 7 (by decide) mw_213 rfl dX9_setMinutes_47 ?_
  refine bs_aload_n hC 1 dX9_setMinutes_50 rfl rfl ?_
  refine bs_get hC (v := .ref (bd_a ε 1)) hin_X9 0 (cX_o0 ε S) rfl 0 (by decide) mw_206 rfl dX9_setMinutes_51 ?_
  refine bs_iload_n hC 4 dX9_setMinutes_54 rfl rfl ?_
  refine bs_iload hC 5 dX9_setMinutes_55 rfl ?_
  refine bs_callVN_i hC (rm := ({ frames := 1, cells := 0, slots := 0, locals := 21 } : Room)) [.ref (bd_a ε 1), .int p3, .int x4] [] (fun h => c_X0_speaking (bd_l Γ) (bd_D Γ) ε p3 x4 S h) mw_350 nm_31 mw_349 mw_77 mw_23 (cX_o4 ε S) rfl by_X0_speaking ⟨rfl, rfl, by decide, by decide⟩ rfl rfl (Nat.le_of_ble_eq_true rfl) dX9_setMinutes_57 (fun r13 S14 eS14 => ?_)
  refine bs_if_eq hC 71 dX9_setMinutes_60 (by decide) (fun c22 => ?_) (fun c22 => ?_)
  · refine bs_iload_n hC 4 dX9_setMinutes_71 rfl rfl ?_
    refine bs_iload_n hC 2 dX9_setMinutes_72 rfl rfl ?_
    refine bs_icmp_eq hC 79 dX9_setMinutes_73 (by decide) (fun c19 => ?_) (fun c19 => ?_)
    · refine bs_aload_n hC 1 dX9_setMinutes_79 rfl rfl ?_
      refine bs_get hC (v := .ref (bd_a ε 5)) hin_X9 0 (cX_o0 ε S14) rfl 8 (by decide) mw_214 rfl dX9_setMinutes_80 ?_
      refine bs_iload_n hC 4 dX9_setMinutes_83 rfl rfl ?_
      refine bs_iload hC 5 dX9_setMinutes_84 rfl ?_
      refine bs_lload hC 0 dX9_setMinutes_86 rfl ?_
      refine bs_callVN_v hC (rm := ({ frames := 1, cells := 0, slots := 0, locals := 23 } : Room)) [.int p3, .int x4, .long z12] [] (fun h => c_X2_set (bd_l Γ) (bd_D Γ) ε p3 x4 z12 S14 h) mw_366 nm_32 mw_365 mw_78 mw_26 (cX_o5 ε S14) rfl by_X2_set ⟨rfl, rfl, by decide, by decide⟩ rfl rfl (Nat.le_of_ble_eq_true rfl) dX9_setMinutes_88 (fun r15 S16 eS16 => ?_)
      refine bs_iinc hC 5 [(4, .int (x4 + 1)), (5, .long z12), (0, .ref (bd_a ε 0)), (1, .int p1), (2, .int p2), (3, .int p3)] dX9_setMinutes_91 rfl rfl (by decide) rfl ?_
      refine bs_goto hC 19 dX9_setMinutes_94 (by decide) ?_
      refine bs_some ?_
      refine bs_pick [2, 3, 4, 5, 0] rfl ?_
      exact hk (x4 + 1) S16
    refine bs_lconst hC (0 : Int64) dX9_setMinutes_76 rfl ?_
    refine bs_lstore hC [(5, .long (0 : Int64)), (0, .ref (bd_a ε 0)), (1, .int p1), (2, .int p2), (3, .int p3), (4, .int x4)] dX9_setMinutes_77 (by decide) rfl ?_
    refine bs_aload_n hC 1 dX9_setMinutes_79 rfl rfl ?_
    refine bs_get hC (v := .ref (bd_a ε 5)) hin_X9 0 (cX_o0 ε S14) rfl 8 (by decide) mw_214 rfl dX9_setMinutes_80 ?_
    refine bs_iload_n hC 4 dX9_setMinutes_83 rfl rfl ?_
    refine bs_iload hC 5 dX9_setMinutes_84 rfl ?_
    refine bs_lload hC 0 dX9_setMinutes_86 rfl ?_
    refine bs_callVN_v hC (rm := ({ frames := 1, cells := 0, slots := 0, locals := 23 } : Room)) [.int p3, .int x4, .long (0 : Int64)] [] (fun h => c_X2_set (bd_l Γ) (bd_D Γ) ε p3 x4 (0 : Int64) S14 h) mw_366 nm_32 mw_365 mw_78 mw_26 (cX_o5 ε S14) rfl by_X2_set ⟨rfl, rfl, by decide, by decide⟩ rfl rfl (Nat.le_of_ble_eq_true rfl) dX9_setMinutes_88 (fun r17 S18 eS18 => ?_)
    refine bs_iinc hC 5 [(4, .int (x4 + 1)), (5, .long (0 : Int64)), (0, .ref (bd_a ε 0)), (1, .int p1), (2, .int p2), (3, .int p3)] dX9_setMinutes_91 rfl rfl (by decide) rfl ?_
    refine bs_goto hC 19 dX9_setMinutes_94 (by decide) ?_
    refine bs_some ?_
    refine bs_pick [2, 3, 4, 5, 0] rfl ?_
    exact hk (x4 + 1) S18
  refine bs_ldc2 hC (1099511627776 : Int64) mw_497 dX9_setMinutes_63 ?_
  refine bs_lstore hC [(5, .long (1099511627776 : Int64)), (0, .ref (bd_a ε 0)), (1, .int p1), (2, .int p2), (3, .int p3), (4, .int x4)] dX9_setMinutes_66 (by decide) rfl ?_
  refine bs_goto hC 79 dX9_setMinutes_68 (by decide) ?_
  refine bs_aload_n hC 1 dX9_setMinutes_79 rfl rfl ?_
  refine bs_get hC (v := .ref (bd_a ε 5)) hin_X9 0 (cX_o0 ε S14) rfl 8 (by decide) mw_214 rfl dX9_setMinutes_80 ?_
  refine bs_iload_n hC 4 dX9_setMinutes_83 rfl rfl ?_
  refine bs_iload hC 5 dX9_setMinutes_84 rfl ?_
  refine bs_lload hC 0 dX9_setMinutes_86 rfl ?_
  refine bs_callVN_v hC (rm := ({ frames := 1, cells := 0, slots := 0, locals := 23 } : Room)) [.int p3, .int x4, .long (1099511627776 : Int64)] [] (fun h => c_X2_set (bd_l Γ) (bd_D Γ) ε p3 x4 (1099511627776 : Int64) S14 h) mw_366 nm_32 mw_365 mw_78 mw_26 (cX_o5 ε S14) rfl by_X2_set ⟨rfl, rfl, by decide, by decide⟩ rfl rfl (Nat.le_of_ble_eq_true rfl) dX9_setMinutes_88 (fun r20 S21 eS21 => ?_)
  refine bs_iinc hC 5 [(4, .int (x4 + 1)), (5, .long (1099511627776 : Int64)), (0, .ref (bd_a ε 0)), (1, .int p1), (2, .int p2), (3, .int p3)] dX9_setMinutes_91 rfl rfl (by decide) rfl ?_
  refine bs_goto hC 19 dX9_setMinutes_94 (by decide) ?_
  refine bs_some ?_
  refine bs_pick [2, 3, 4, 5, 0] rfl ?_
  exact hk (x4 + 1) S21
set_option maxRecDepth 100000 in
set_option maxHeartbeats 4000000 in
theorem lb_X9_setMinutes_2 {Γ : bd_G} {ε : bd_E} {t0 : Option (Unit × bd_T)} (hC : bd_C Γ cX9_setMinutes 7 RX9 none ({ frames := 2, cells := 0, slots := 0, locals := 47 } : Room) ε (cX ε) bd_vv t0) (p1 : Int32) (p2 : Int32) {K : (Int32 × bd_T) ⊕ (bd_T) → Option (Unit × bd_T)} (hk : ∀ (x3 : Int32) (S : bd_T), bd_S Γ 7 t0 (K (.inl (x3, S))) (cX ε S) 2 [(0, .ref (bd_a ε 0)), (1, .int p1), (2, .int p2), (3, .int x3)] []) (hx : ∀ (S : bd_T), bd_S Γ 7 t0 (K (.inr S)) (cX ε S) 103 [] []) (x3 : Int32) (S : bd_T) : bd_S Γ 7 t0 ((fb_X9_setMinutes_2 p1 p2 x3 S).bind K) (cX ε S) 2 [(0, .ref (bd_a ε 0)), (1, .int p1), (2, .int p2), (3, .int x3)] [] := by
  unfold fb_X9_setMinutes_2
  refine bs_iload_n hC 3 dX9_setMinutes_2 rfl rfl ?_
  refine bs_aload_n hC 0 dX9_setMinutes_3 rfl rfl ?_
  refine bs_get hC (v := .ref (bd_a ε 1)) hin_X9 0 (cX_o0 ε S) rfl 0 (by decide) mw_206 rfl dX9_setMinutes_4 ?_
  refine bs_getN hC (v := .ref (bd_a ε 8)) hin_X8 1 (cX_o1 ε S) rfl 0 (by decide) nf_18 rfl dX9_setMinutes_7 ?_
  refine bs_getN hC (v := .int (bd_I S 17)) hin_X7 8 (cX_o8 ε S) rfl 0 (by decide) nf_0 rfl dX9_setMinutes_10 ?_
  refine bs_icmp_ge hC 103 dX9_setMinutes_13 (by decide) (fun c26 => ?_) (fun c26 => ?_)
  · refine bs_some ?_
    refine bs_pick [] rfl ?_
    exact hx S
  refine bs_iconst hC (0 : Int32) dX9_setMinutes_16 rfl ?_
  refine bs_istore hC [(4, .int (0 : Int32)), (0, .ref (bd_a ε 0)), (1, .int p1), (2, .int p2), (3, .int x3)] dX9_setMinutes_17 (by decide) rfl ?_
  refine bs_pick [1, 2, 3, 4, 0] rfl ?_
  refine bs_loopK (fun (q : Int32 × bd_T) t => bd_S Γ 7 t0 t (cX ε (q.2)) 19 [(0, .ref (bd_a ε 0)), (1, .int p1), (2, .int p2), (3, .int x3), (4, .int (q.1))] []) (fun (q : bd_T) t => bd_S Γ 7 t0 t (cX ε (q)) 97 [(0, .ref (bd_a ε 0)), (1, .int p1), (2, .int p2), (3, .int x3)] []) (fun q => fb_X9_setMinutes_19 p1 p2 x3 q.1 q.2) (fun _ => bs_none) (fun K hk hx q => lb_X9_setMinutes_19 hC   p1 p2 x3 (fun a0 S => hk (a0, S)) (fun  S => hx (S))  (q.1) (q.2)) (fun r => ?_) bd_K ((0 : Int32), S)
  obtain ⟨S25, rfl⟩ : ∃ z, z = r := ⟨_, rfl⟩
  show bd_S Γ 7 t0 (Option.bind _ _) (cX ε S25) 97 [(0, .ref (bd_a ε 0)), (1, .int p1), (2, .int p2), (3, .int x3)] []
  try dsimp only
  refine bs_iinc hC 3 [(3, .int (x3 + 1)), (0, .ref (bd_a ε 0)), (1, .int p1), (2, .int p2)] dX9_setMinutes_97 rfl rfl (by decide) rfl ?_
  refine bs_goto hC 2 dX9_setMinutes_100 (by decide) ?_
  refine bs_some ?_
  refine bs_pick [1, 2, 3, 0] rfl ?_
  exact hk (x3 + 1) S25
set_option maxRecDepth 100000 in
set_option maxHeartbeats 4000000 in
theorem b_X9_setMinutes {Γ : bd_G} {ε : bd_E} {t0 : Option (Unit × bd_T)} (hC : bd_C Γ cX9_setMinutes 7 RX9 none ({ frames := 2, cells := 0, slots := 0, locals := 47 } : Room) ε (cX ε) bd_vv t0) (x1 : Int32) (x2 : Int32)  (S : bd_T) : bd_S Γ 7 t0 ((f_X9_setMinutes x1 x2 S).bind some) (cX ε S) 0 [(0, .ref (bd_a ε 0)), (1, .int x1), (2, .int x2)] [] := by
  unfold f_X9_setMinutes
  refine bs_iconst hC (0 : Int32) dX9_setMinutes_0 rfl ?_
  refine bs_istore_n hC [(3, .int (0 : Int32)), (0, .ref (bd_a ε 0)), (1, .int x1), (2, .int x2)] dX9_setMinutes_1 rfl (by decide) rfl ?_
  refine bs_pick [1, 2, 3, 0] rfl ?_
  refine bs_loopK (fun (q : Int32 × bd_T) t => bd_S Γ 7 t0 t (cX ε (q.2)) 2 [(0, .ref (bd_a ε 0)), (1, .int x1), (2, .int x2), (3, .int (q.1))] []) (fun (q : bd_T) t => bd_S Γ 7 t0 t (cX ε (q)) 103 [] []) (fun q => fb_X9_setMinutes_2 x1 x2 q.1 q.2) (fun _ => bs_none) (fun K hk hx q => lb_X9_setMinutes_2 hC   x1 x2 (fun a0 S => hk (a0, S)) (fun  S => hx (S))  (q.1) (q.2)) (fun r => ?_) bd_K ((0 : Int32), S)
  obtain ⟨S27, rfl⟩ : ∃ z, z = r := ⟨_, rfl⟩
  show bd_S Γ 7 t0 (Option.bind _ _) (cX ε S27) 103 [] []
  try dsimp only
  exact bs_vret hC dX9_setMinutes_103 rfl
theorem c_X9_setMinutes (l : Launch) (D : va_G) (ε : bd_E) (x1 : Int32) (x2 : Int32)  (S : bd_T) (h0 : (f_X9_setMinutes x1 x2 S).isSome = true) : bd_Con l yX9_setMinutes (Cond.code yX9_setMinutes cX9_setMinutes 7 none :: bd_tbl) ({ frames := 2, cells := 0, slots := 0, locals := 47 } : Room) D ε (cX ε) bd_vv [.ref (bd_a ε 0), .int x1, .int x2] S (f_X9_setMinutes x1 x2 S) :=
  bd_con (by decide +kernel) (Nat.le_of_ble_eq_true rfl) ⟨rfl, rfl⟩ h0 (fun Γ _ _ hC => bs_eq bs_bs (b_X9_setMinutes hC x1 x2 S))
set_option maxRecDepth 100000 in
set_option maxHeartbeats 4000000 in
theorem lb_X9_someWayBefore_27 {Γ : bd_G} {ε : bd_E} {t0 : Option (Int32 × bd_T)} (hC : bd_C Γ cX9_someWayBefore 6 RX9 (some .boolean) ({ frames := 5, cells := 0, slots := 0, locals := 125 } : Room) ε (cX ε) bd_vi t0) (p1 : Int32) {K : (Int32 × bd_T) ⊕ ((Int32 × bd_T) ⊕ (bd_T)) → Option (Int32 × bd_T)} (hk : ∀ (x3 : Int32) (S : bd_T), bd_S Γ 6 t0 (K (.inl (x3, S))) (cX ε S) 27 [(0, .ref (bd_a ε 0)), (1, .int p1), (3, .int x3)] []) (hx : ∀ (S : bd_T), bd_S Γ 6 t0 (K (.inr (.inr S))) (cX ε S) 74 [] []) (hr : ∀ z, K (.inr (.inl z)) = some z) (x3 : Int32) (S : bd_T) : bd_S Γ 6 t0 ((fb_X9_someWayBefore_27 p1 x3 S).bind K) (cX ε S) 27 [(0, .ref (bd_a ε 0)), (1, .int p1), (3, .int x3)] [] := by
  unfold fb_X9_someWayBefore_27
  refine bs_iload_n hC 2 dX9_someWayBefore_27 rfl rfl ?_
  refine bs_sipush hC (300 : Int32) dX9_someWayBefore_28 rfl ?_
  refine bs_icmp_ge hC 74 dX9_someWayBefore_31 (by decide) (fun c9 => ?_) (fun c9 => ?_)
  · refine bs_some ?_
    refine bs_pick [] rfl ?_
    exact hx S
  refine bs_aload_n hC 0 dX9_someWayBefore_34 rfl rfl ?_
  refine bs_get hC (v := .ref (bd_a ε 5)) hin_X9 0 (cX_o0 ε S) rfl 8 (by decide) mw_214 rfl dX9_someWayBefore_35 ?_
  refine bs_iload_n hC 1 dX9_someWayBefore_38 rfl rfl ?_
  refine bs_iload_n hC 2 dX9_someWayBefore_39 rfl rfl ?_
  refine bs_callVN_l hC (rm := ({ frames := 1, cells := 0, slots := 0, locals := 21 } : Room)) [.int p1, .int x3] [] (fun h => c_X2_value (bd_l Γ) (bd_D Γ) ε p1 x3 S h) mw_428 nm_46 mw_427 mw_78 mw_33 (cX_o5 ε S) rfl by_X2_value ⟨rfl, rfl, by decide, by decide⟩ rfl rfl (Nat.le_of_ble_eq_true rfl) dX9_someWayBefore_40 (fun r5 S6 eS6 => ?_)
  refine bs_lstore hC [(4, .long r5), (0, .ref (bd_a ε 0)), (1, .int p1), (3, .int x3)] dX9_someWayBefore_43 (by decide) rfl ?_
  refine bs_lload hC 0 dX9_someWayBefore_45 rfl ?_
  refine bs_ldc2 hC (1099511627776 : Int64) mw_497 dX9_someWayBefore_47 ?_
  refine bs_lif_ge hC 68 dX9_someWayBefore_50 dX9_someWayBefore_51 (by decide) (fun c8 => ?_) (fun c8 => ?_)
  · refine bs_iinc hC 3 [(3, .int (x3 + 1)), (4, .long r5), (0, .ref (bd_a ε 0)), (1, .int p1)] dX9_someWayBefore_68 rfl rfl (by decide) rfl ?_
    refine bs_goto hC 27 dX9_someWayBefore_71 (by decide) ?_
    refine bs_some ?_
    refine bs_pick [2, 3, 0] rfl ?_
    exact hk (x3 + 1) S6
  refine bs_ldc2 hC (299 : Int64) mw_516 dX9_someWayBefore_54 ?_
  refine bs_lload hC 0 dX9_someWayBefore_57 rfl ?_
  refine bs_lsub hC dX9_someWayBefore_59 ?_
  refine bs_iload_n hC 3 dX9_someWayBefore_60 rfl rfl ?_
  refine bs_i2l hC dX9_someWayBefore_61 ?_
  refine bs_lif_le hC 68 dX9_someWayBefore_62 dX9_someWayBefore_63 (by decide) (fun c7 => ?_) (fun c7 => ?_)
  · refine bs_iinc hC 3 [(3, .int (x3 + 1)), (4, .long r5), (0, .ref (bd_a ε 0)), (1, .int p1)] dX9_someWayBefore_68 rfl rfl (by decide) rfl ?_
    refine bs_goto hC 27 dX9_someWayBefore_71 (by decide) ?_
    refine bs_some ?_
    refine bs_pick [2, 3, 0] rfl ?_
    exact hk (x3 + 1) S6
  refine bs_iconst hC (1 : Int32) dX9_someWayBefore_66 rfl ?_
  exact bs_zret hC dX9_someWayBefore_67 rfl (hr _)
set_option maxRecDepth 100000 in
set_option maxHeartbeats 4000000 in
theorem b_X9_someWayBefore {Γ : bd_G} {ε : bd_E} {t0 : Option (Int32 × bd_T)} (hC : bd_C Γ cX9_someWayBefore 6 RX9 (some .boolean) ({ frames := 5, cells := 0, slots := 0, locals := 125 } : Room) ε (cX ε) bd_vi t0) (x1 : Int32) (x2 : Int32)  (S : bd_T) : bd_S Γ 6 t0 ((f_X9_someWayBefore x1 x2 S).bind some) (cX ε S) 0 [(0, .ref (bd_a ε 0)), (1, .int x1), (2, .int x2)] [] := by
  unfold f_X9_someWayBefore
  refine bs_aload_n hC 0 dX9_someWayBefore_0 rfl rfl ?_
  refine bs_iload_n hC 2 dX9_someWayBefore_1 rfl rfl ?_
  refine bs_iconst hC (1 : Int32) dX9_someWayBefore_2 rfl ?_
  refine bs_callV_v hC (rm := ({ frames := 2, cells := 0, slots := 0, locals := 47 } : Room)) [.int x2, .int (1 : Int32)] [] (fun h => c_X9_setMinutes (bd_l Γ) (bd_D Γ) ε x2 (1 : Int32) S h) mw_515 mw_513 mw_514 mw_72 mw_41 (cX_o0 ε S) rfl by_X9_setMinutes ⟨rfl, rfl, by decide, by decide⟩ rfl rfl (Nat.le_of_ble_eq_true rfl) dX9_someWayBefore_3 (fun r1 S2 eS2 => ?_)
  refine bs_aload_n hC 0 dX9_someWayBefore_6 rfl rfl ?_
  refine bs_get hC (v := .ref (bd_a ε 5)) hin_X9 0 (cX_o0 ε S2) rfl 8 (by decide) mw_214 rfl dX9_someWayBefore_7 ?_
  refine bs_aload_n hC 0 dX9_someWayBefore_10 rfl rfl ?_
  refine bs_get hC (v := .ref (bd_a ε 1)) hin_X9 0 (cX_o0 ε S2) rfl 0 (by decide) mw_206 rfl dX9_someWayBefore_11 ?_
  refine bs_getN hC (v := .ref (bd_a ε 8)) hin_X8 1 (cX_o1 ε S2) rfl 0 (by decide) nf_18 rfl dX9_someWayBefore_14 ?_
  refine bs_iload_n hC 1 dX9_someWayBefore_17 rfl rfl ?_
  refine bs_aload_n hC 0 dX9_someWayBefore_18 rfl rfl ?_
  refine bs_get hC (v := .ref (bd_a ε 7)) hin_X9 0 (cX_o0 ε S2) rfl 10 (by decide) mw_216 rfl dX9_someWayBefore_19 ?_
  refine bs_callVN_v hC (rm := ({ frames := 4, cells := 0, slots := 0, locals := 100 } : Room)) [.ref (bd_a ε 8), .int x1, .ref (bd_a ε 7)] [] (fun h => c_X2_gather_b1 (bd_l Γ) (bd_D Γ) ε x1 S2 h) mw_370 nm_34 mw_369 mw_78 mw_27 (cX_o5 ε S2) rfl by_X2_gather ⟨rfl, rfl, by decide, by decide⟩ rfl rfl (Nat.le_of_ble_eq_true rfl) dX9_someWayBefore_22 (fun r3 S4 eS4 => ?_)
  refine bs_iconst hC (0 : Int32) dX9_someWayBefore_25 rfl ?_
  refine bs_istore_n hC [(3, .int (0 : Int32)), (0, .ref (bd_a ε 0)), (1, .int x1), (2, .int x2)] dX9_someWayBefore_26 rfl (by decide) rfl ?_
  refine bs_pick [1, 2, 0] rfl ?_
  refine bs_loopK (fun (q : Int32 × bd_T) t => bd_S Γ 6 t0 t (cX ε (q.2)) 27 [(0, .ref (bd_a ε 0)), (1, .int x1), (3, .int (q.1))] []) (fun (q : (Int32 × bd_T) ⊕ (bd_T)) t => Sum.elim (fun (z : Int32 × bd_T) => t = some z) (fun (q : bd_T) => bd_S Γ 6 t0 t (cX ε (q)) 74 [] []) q) (fun q => fb_X9_someWayBefore_27 x1 q.1 q.2) (fun _ => bs_none) (fun K hk hx q => lb_X9_someWayBefore_27 hC   x1 (fun a0 S => hk (a0, S)) (fun  S => hx (.inr (S))) (fun z => hx (.inl z)) (q.1) (q.2)) (fun r => ?_) bd_K ((0 : Int32), S4)
  rcases r with r | r
  · exact rfl
  obtain ⟨S10, rfl⟩ : ∃ z, z = r := ⟨_, rfl⟩
  show bd_S Γ 6 t0 (Option.bind _ _) (cX ε S10) 74 [] []
  try dsimp only [Sum.elim_inr]
  refine bs_iconst hC (0 : Int32) dX9_someWayBefore_74 rfl ?_
  exact bs_zret hC dX9_someWayBefore_75 rfl rfl
theorem c_X9_someWayBefore (l : Launch) (D : va_G) (ε : bd_E) (x1 : Int32) (x2 : Int32)  (S : bd_T) (h0 : (f_X9_someWayBefore x1 x2 S).isSome = true) : bd_Con l yX9_someWayBefore (Cond.code yX9_someWayBefore cX9_someWayBefore 6 (some .boolean) :: bd_tbl) ({ frames := 5, cells := 0, slots := 0, locals := 125 } : Room) D ε (cX ε) bd_vi [.ref (bd_a ε 0), .int x1, .int x2] S (f_X9_someWayBefore x1 x2 S) :=
  bd_con (by decide +kernel) (Nat.le_of_ble_eq_true rfl) ⟨rfl, rfl⟩ h0 (fun Γ _ _ hC => bs_eq bs_bs (b_X9_someWayBefore hC x1 x2 S))
set_option maxRecDepth 100000 in
set_option maxHeartbeats 4000000 in
theorem lb_X9_someWayNotBefore_27 {Γ : bd_G} {ε : bd_E} {t0 : Option (Int32 × bd_T)} (hC : bd_C Γ cX9_someWayNotBefore 4 RX9 (some .boolean) ({ frames := 5, cells := 0, slots := 0, locals := 125 } : Room) ε (cX ε) bd_vi t0) (p1 : Int32) {K : (Int32 × bd_T) ⊕ ((Int32 × bd_T) ⊕ (bd_T)) → Option (Int32 × bd_T)} (hk : ∀ (x3 : Int32) (S : bd_T), bd_S Γ 4 t0 (K (.inl (x3, S))) (cX ε S) 27 [(0, .ref (bd_a ε 0)), (1, .int p1), (3, .int x3)] []) (hx : ∀ (S : bd_T), bd_S Γ 4 t0 (K (.inr (.inr S))) (cX ε S) 57 [] []) (hr : ∀ z, K (.inr (.inl z)) = some z) (x3 : Int32) (S : bd_T) : bd_S Γ 4 t0 ((fb_X9_someWayNotBefore_27 p1 x3 S).bind K) (cX ε S) 27 [(0, .ref (bd_a ε 0)), (1, .int p1), (3, .int x3)] [] := by
  unfold fb_X9_someWayNotBefore_27
  refine bs_iload_n hC 2 dX9_someWayNotBefore_27 rfl rfl ?_
  refine bs_sipush hC (300 : Int32) dX9_someWayNotBefore_28 rfl ?_
  refine bs_icmp_ge hC 57 dX9_someWayNotBefore_31 (by decide) (fun c8 => ?_) (fun c8 => ?_)
  · refine bs_some ?_
    refine bs_pick [] rfl ?_
    exact hx S
  refine bs_aload_n hC 0 dX9_someWayNotBefore_34 rfl rfl ?_
  refine bs_get hC (v := .ref (bd_a ε 5)) hin_X9 0 (cX_o0 ε S) rfl 8 (by decide) mw_214 rfl dX9_someWayNotBefore_35 ?_
  refine bs_iload_n hC 1 dX9_someWayNotBefore_38 rfl rfl ?_
  refine bs_iload_n hC 2 dX9_someWayNotBefore_39 rfl rfl ?_
  refine bs_callVN_l hC (rm := ({ frames := 1, cells := 0, slots := 0, locals := 21 } : Room)) [.int p1, .int x3] [] (fun h => c_X2_value (bd_l Γ) (bd_D Γ) ε p1 x3 S h) mw_428 nm_46 mw_427 mw_78 mw_33 (cX_o5 ε S) rfl by_X2_value ⟨rfl, rfl, by decide, by decide⟩ rfl rfl (Nat.le_of_ble_eq_true rfl) dX9_someWayNotBefore_40 (fun r5 S6 eS6 => ?_)
  refine bs_iload_n hC 2 dX9_someWayNotBefore_43 rfl rfl ?_
  refine bs_i2l hC dX9_someWayNotBefore_44 ?_
  refine bs_lif_gt hC 51 dX9_someWayNotBefore_45 dX9_someWayNotBefore_46 (by decide) (fun c7 => ?_) (fun c7 => ?_)
  · refine bs_iinc hC 2 [(3, .int (x3 + 1)), (0, .ref (bd_a ε 0)), (1, .int p1)] dX9_someWayNotBefore_51 rfl rfl (by decide) rfl ?_
    refine bs_goto hC 27 dX9_someWayNotBefore_54 (by decide) ?_
    refine bs_some ?_
    refine bs_pick [1, 2, 0] rfl ?_
    exact hk (x3 + 1) S6
  refine bs_iconst hC (1 : Int32) dX9_someWayNotBefore_49 rfl ?_
  exact bs_zret hC dX9_someWayNotBefore_50 rfl (hr _)
set_option maxRecDepth 100000 in
set_option maxHeartbeats 4000000 in
theorem b_X9_someWayNotBefore {Γ : bd_G} {ε : bd_E} {t0 : Option (Int32 × bd_T)} (hC : bd_C Γ cX9_someWayNotBefore 4 RX9 (some .boolean) ({ frames := 5, cells := 0, slots := 0, locals := 125 } : Room) ε (cX ε) bd_vi t0) (x1 : Int32) (x2 : Int32)  (S : bd_T) : bd_S Γ 4 t0 ((f_X9_someWayNotBefore x1 x2 S).bind some) (cX ε S) 0 [(0, .ref (bd_a ε 0)), (1, .int x1), (2, .int x2)] [] := by
  unfold f_X9_someWayNotBefore
  refine bs_aload_n hC 0 dX9_someWayNotBefore_0 rfl rfl ?_
  refine bs_iload_n hC 2 dX9_someWayNotBefore_1 rfl rfl ?_
  refine bs_iconst hC (0 : Int32) dX9_someWayNotBefore_2 rfl ?_
  refine bs_callV_v hC (rm := ({ frames := 2, cells := 0, slots := 0, locals := 47 } : Room)) [.int x2, .int (0 : Int32)] [] (fun h => c_X9_setMinutes (bd_l Γ) (bd_D Γ) ε x2 (0 : Int32) S h) mw_515 mw_513 mw_514 mw_72 mw_41 (cX_o0 ε S) rfl by_X9_setMinutes ⟨rfl, rfl, by decide, by decide⟩ rfl rfl (Nat.le_of_ble_eq_true rfl) dX9_someWayNotBefore_3 (fun r1 S2 eS2 => ?_)
  refine bs_aload_n hC 0 dX9_someWayNotBefore_6 rfl rfl ?_
  refine bs_get hC (v := .ref (bd_a ε 5)) hin_X9 0 (cX_o0 ε S2) rfl 8 (by decide) mw_214 rfl dX9_someWayNotBefore_7 ?_
  refine bs_aload_n hC 0 dX9_someWayNotBefore_10 rfl rfl ?_
  refine bs_get hC (v := .ref (bd_a ε 1)) hin_X9 0 (cX_o0 ε S2) rfl 0 (by decide) mw_206 rfl dX9_someWayNotBefore_11 ?_
  refine bs_getN hC (v := .ref (bd_a ε 8)) hin_X8 1 (cX_o1 ε S2) rfl 0 (by decide) nf_18 rfl dX9_someWayNotBefore_14 ?_
  refine bs_iload_n hC 1 dX9_someWayNotBefore_17 rfl rfl ?_
  refine bs_aload_n hC 0 dX9_someWayNotBefore_18 rfl rfl ?_
  refine bs_get hC (v := .ref (bd_a ε 7)) hin_X9 0 (cX_o0 ε S2) rfl 10 (by decide) mw_216 rfl dX9_someWayNotBefore_19 ?_
  refine bs_callVN_v hC (rm := ({ frames := 4, cells := 0, slots := 0, locals := 100 } : Room)) [.ref (bd_a ε 8), .int x1, .ref (bd_a ε 7)] [] (fun h => c_X2_gather_b1 (bd_l Γ) (bd_D Γ) ε x1 S2 h) mw_370 nm_34 mw_369 mw_78 mw_27 (cX_o5 ε S2) rfl by_X2_gather ⟨rfl, rfl, by decide, by decide⟩ rfl rfl (Nat.le_of_ble_eq_true rfl) dX9_someWayNotBefore_22 (fun r3 S4 eS4 => ?_)
  refine bs_iconst hC (0 : Int32) dX9_someWayNotBefore_25 rfl ?_
  refine bs_istore_n hC [(3, .int (0 : Int32)), (0, .ref (bd_a ε 0)), (1, .int x1), (2, .int x2)] dX9_someWayNotBefore_26 rfl (by decide) rfl ?_
  refine bs_pick [1, 2, 0] rfl ?_
  refine bs_loopK (fun (q : Int32 × bd_T) t => bd_S Γ 4 t0 t (cX ε (q.2)) 27 [(0, .ref (bd_a ε 0)), (1, .int x1), (3, .int (q.1))] []) (fun (q : (Int32 × bd_T) ⊕ (bd_T)) t => Sum.elim (fun (z : Int32 × bd_T) => t = some z) (fun (q : bd_T) => bd_S Γ 4 t0 t (cX ε (q)) 57 [] []) q) (fun q => fb_X9_someWayNotBefore_27 x1 q.1 q.2) (fun _ => bs_none) (fun K hk hx q => lb_X9_someWayNotBefore_27 hC   x1 (fun a0 S => hk (a0, S)) (fun  S => hx (.inr (S))) (fun z => hx (.inl z)) (q.1) (q.2)) (fun r => ?_) bd_K ((0 : Int32), S4)
  rcases r with r | r
  · exact rfl
  obtain ⟨S9, rfl⟩ : ∃ z, z = r := ⟨_, rfl⟩
  show bd_S Γ 4 t0 (Option.bind _ _) (cX ε S9) 57 [] []
  try dsimp only [Sum.elim_inr]
  refine bs_iconst hC (0 : Int32) dX9_someWayNotBefore_57 rfl ?_
  exact bs_zret hC dX9_someWayNotBefore_58 rfl rfl
theorem c_X9_someWayNotBefore (l : Launch) (D : va_G) (ε : bd_E) (x1 : Int32) (x2 : Int32)  (S : bd_T) (h0 : (f_X9_someWayNotBefore x1 x2 S).isSome = true) : bd_Con l yX9_someWayNotBefore (Cond.code yX9_someWayNotBefore cX9_someWayNotBefore 4 (some .boolean) :: bd_tbl) ({ frames := 5, cells := 0, slots := 0, locals := 125 } : Room) D ε (cX ε) bd_vi [.ref (bd_a ε 0), .int x1, .int x2] S (f_X9_someWayNotBefore x1 x2 S) :=
  bd_con (by decide +kernel) (Nat.le_of_ble_eq_true rfl) ⟨rfl, rfl⟩ h0 (fun Γ _ _ hC => bs_eq bs_bs (b_X9_someWayNotBefore hC x1 x2 S))
set_option maxRecDepth 100000 in
set_option maxHeartbeats 4000000 in
theorem b_X9_ahead {Γ : bd_G} {ε : bd_E} {t0 : Option (Int32 × bd_T)} (hC : bd_C Γ cX9_ahead 5 RX9 (some .int) ({ frames := 6, cells := 0, slots := 0, locals := 150 } : Room) ε (cX ε) bd_vi t0) (x1 : Int32) (x2 : Int32)  (S : bd_T) : bd_S Γ 5 t0 ((f_X9_ahead x1 x2 S).bind some) (cX ε S) 0 [(0, .ref (bd_a ε 0)), (1, .int x1), (2, .int x2)] [] := by
  unfold f_X9_ahead
  refine bs_aload_n hC 0 dX9_ahead_0 rfl rfl ?_
  refine bs_iload_n hC 1 dX9_ahead_1 rfl rfl ?_
  refine bs_callV_i hC (rm := ({ frames := 0, cells := 0, slots := 0, locals := 0 } : Room)) [.int x1] [] (fun h => c_X9_isThing (bd_l Γ) (bd_D Γ) ε x1 S h) mw_269 mw_267 mw_268 mw_72 mw_7 (cX_o0 ε S) rfl by_X9_isThing ⟨rfl, rfl, by decide, by decide⟩ rfl rfl (Nat.le_of_ble_eq_true rfl) dX9_ahead_2 (fun r1 S2 eS2 => ?_)
  refine bs_if_eq hC 21 dX9_ahead_5 (by decide) (fun c22 => ?_) (fun c22 => ?_)
  · refine bs_aload_n hC 0 dX9_ahead_21 rfl rfl ?_
    refine bs_iconst hC (-1 : Int32) dX9_ahead_22 rfl ?_
    refine bs_callV_i hC (rm := ({ frames := 1, cells := 0, slots := 0, locals := 22 } : Room)) [.int (-1 : Int32)] [] (fun h => c_X9_refuse (bd_l Γ) (bd_D Γ) ε (-1 : Int32) S2 h) mw_234 mw_232 mw_233 mw_72 mw_0 (cX_o0 ε S2) rfl by_X9_refuse ⟨rfl, rfl, by decide, by decide⟩ rfl rfl (Nat.le_of_ble_eq_true rfl) dX9_ahead_23 (fun r3 S4 eS4 => ?_)
    exact bs_iret hC dX9_ahead_26 rfl
  refine bs_aload_n hC 0 dX9_ahead_8 rfl rfl ?_
  refine bs_iload_n hC 2 dX9_ahead_9 rfl rfl ?_
  refine bs_callV_i hC (rm := ({ frames := 0, cells := 0, slots := 0, locals := 0 } : Room)) [.int x2] [] (fun h => c_X9_isThing (bd_l Γ) (bd_D Γ) ε x2 S2 h) mw_269 mw_267 mw_268 mw_72 mw_7 (cX_o0 ε S2) rfl by_X9_isThing ⟨rfl, rfl, by decide, by decide⟩ rfl rfl (Nat.le_of_ble_eq_true rfl) dX9_ahead_10 (fun r5 S6 eS6 => ?_)
  refine bs_if_eq hC 21 dX9_ahead_13 (by decide) (fun c21 => ?_) (fun c21 => ?_)
  · refine bs_aload_n hC 0 dX9_ahead_21 rfl rfl ?_
    refine bs_iconst hC (-1 : Int32) dX9_ahead_22 rfl ?_
    refine bs_callV_i hC (rm := ({ frames := 1, cells := 0, slots := 0, locals := 22 } : Room)) [.int (-1 : Int32)] [] (fun h => c_X9_refuse (bd_l Γ) (bd_D Γ) ε (-1 : Int32) S6 h) mw_234 mw_232 mw_233 mw_72 mw_0 (cX_o0 ε S6) rfl by_X9_refuse ⟨rfl, rfl, by decide, by decide⟩ rfl rfl (Nat.le_of_ble_eq_true rfl) dX9_ahead_23 (fun r7 S8 eS8 => ?_)
    exact bs_iret hC dX9_ahead_26 rfl
  refine bs_iload_n hC 1 dX9_ahead_16 rfl rfl ?_
  refine bs_iload_n hC 2 dX9_ahead_17 rfl rfl ?_
  refine bs_icmp_ne hC 27 dX9_ahead_18 (by decide) (fun c20 => ?_) (fun c20 => ?_)
  · refine bs_aload_n hC 0 dX9_ahead_21 rfl rfl ?_
    refine bs_iconst hC (-1 : Int32) dX9_ahead_22 rfl ?_
    refine bs_callV_i hC (rm := ({ frames := 1, cells := 0, slots := 0, locals := 22 } : Room)) [.int (-1 : Int32)] [] (fun h => c_X9_refuse (bd_l Γ) (bd_D Γ) ε (-1 : Int32) S6 h) mw_234 mw_232 mw_233 mw_72 mw_0 (cX_o0 ε S6) rfl by_X9_refuse ⟨rfl, rfl, by decide, by decide⟩ rfl rfl (Nat.le_of_ble_eq_true rfl) dX9_ahead_23 (fun r9 S10 eS10 => ?_)
    exact bs_iret hC dX9_ahead_26 rfl
  refine bs_aload_n hC 0 dX9_ahead_27 rfl rfl ?_
  refine bs_get hC (v := .ref (bd_a ε 4)) hin_X9 0 (cX_o0 ε S6) rfl 7 (by decide) mw_213 rfl dX9_ahead_28 ?_
  refine bs_aload_n hC 0 dX9_ahead_31 rfl rfl ?_
  refine bs_get hC (v := .ref (bd_a ε 1)) hin_X9 0 (cX_o0 ε S6) rfl 0 (by decide) mw_206 rfl dX9_ahead_32 ?_
  refine bs_callVN_v hC (rm := ({ frames := 5, cells := 0, slots := 0, locals := 127 } : Room)) [.ref (bd_a ε 1)] [] (fun h => c_X0_learn (bd_l Γ) (bd_D Γ) ε S6 h) mw_339 nm_27 mw_338 mw_77 mw_19 (cX_o4 ε S6) rfl by_X0_learn ⟨rfl, rfl, by decide, by decide⟩ rfl rfl (Nat.le_of_ble_eq_true rfl) dX9_ahead_35 (fun r11 S12 eS12 => ?_)
  refine bs_aload_n hC 0 dX9_ahead_38 rfl rfl ?_
  refine bs_iload_n hC 1 dX9_ahead_39 rfl rfl ?_
  refine bs_iload_n hC 2 dX9_ahead_40 rfl rfl ?_
  refine bs_callV_i hC (rm := ({ frames := 5, cells := 0, slots := 0, locals := 125 } : Room)) [.int x1, .int x2] [] (fun h => c_X9_someWayBefore (bd_l Γ) (bd_D Γ) ε x1 x2 S12 h) mw_512 mw_510 mw_511 mw_72 mw_40 (cX_o0 ε S12) rfl by_X9_someWayBefore ⟨rfl, rfl, by decide, by decide⟩ rfl rfl (Nat.le_of_ble_eq_true rfl) dX9_ahead_41 (fun r13 S14 eS14 => ?_)
  refine bs_istore_n hC [(3, .int r13), (0, .ref (bd_a ε 0)), (1, .int x1), (2, .int x2)] dX9_ahead_44 rfl (by decide) rfl ?_
  refine bs_aload_n hC 1 dX9_ahead_45 rfl rfl ?_
  refine bs_iload_n hC 2 dX9_ahead_46 rfl rfl ?_
  refine bs_iload_n hC 3 dX9_ahead_47 rfl rfl ?_
  refine bs_callV_i hC (rm := ({ frames := 5, cells := 0, slots := 0, locals := 125 } : Room)) [.int x1, .int x2] [] (fun h => c_X9_someWayNotBefore (bd_l Γ) (bd_D Γ) ε x1 x2 S14 h) mw_519 mw_517 mw_518 mw_72 mw_42 (cX_o0 ε S14) rfl by_X9_someWayNotBefore ⟨rfl, rfl, by decide, by decide⟩ rfl rfl (Nat.le_of_ble_eq_true rfl) dX9_ahead_48 (fun r15 S16 eS16 => ?_)
  refine bs_istore hC [(4, .int r15), (3, .int r13), (0, .ref (bd_a ε 0)), (1, .int x1), (2, .int x2)] dX9_ahead_51 (by decide) rfl ?_
  refine bs_iload_n hC 1 dX9_ahead_53 rfl rfl ?_
  refine bs_if_ne hC 69 dX9_ahead_54 (by decide) (fun c19 => ?_) (fun c19 => ?_)
  · refine bs_iload hC 0 dX9_ahead_57 rfl ?_
    refine bs_if_eq hC 66 dX9_ahead_59 (by decide) (fun c17 => ?_) (fun c17 => ?_)
    · refine bs_bipush hC (-9 : Int32) dX9_ahead_66 rfl ?_
      exact bs_iret hC dX9_ahead_68 rfl
    refine bs_iconst hC (0 : Int32) dX9_ahead_62 rfl ?_
    refine bs_goto hC 68 dX9_ahead_63 (by decide) ?_
    exact bs_iret hC dX9_ahead_68 rfl
  refine bs_iload hC 0 dX9_ahead_69 rfl ?_
  refine bs_if_eq hC 78 dX9_ahead_71 (by decide) (fun c18 => ?_) (fun c18 => ?_)
  · refine bs_iconst hC (1 : Int32) dX9_ahead_78 rfl ?_
    exact bs_iret hC dX9_ahead_79 rfl
  refine bs_iconst hC (2 : Int32) dX9_ahead_74 rfl ?_
  refine bs_goto hC 79 dX9_ahead_75 (by decide) ?_
  exact bs_iret hC dX9_ahead_79 rfl
theorem c_X9_ahead (l : Launch) (D : va_G) (ε : bd_E) (x1 : Int32) (x2 : Int32)  (S : bd_T) (h0 : (f_X9_ahead x1 x2 S).isSome = true) : bd_Con l yX9_ahead (Cond.code yX9_ahead cX9_ahead 5 (some .int) :: bd_tbl) ({ frames := 6, cells := 0, slots := 0, locals := 150 } : Room) D ε (cX ε) bd_vi [.ref (bd_a ε 0), .int x1, .int x2] S (f_X9_ahead x1 x2 S) :=
  bd_con (by decide +kernel) (Nat.le_of_ble_eq_true rfl) ⟨rfl, rfl⟩ h0 (fun Γ _ _ hC => bs_eq bs_bs (b_X9_ahead hC x1 x2 S))
set_option maxRecDepth 100000 in
set_option maxHeartbeats 4000000 in
theorem lb_X9_mostAlike_44 {Γ : bd_G} {ε : bd_E} {t0 : Option (Int32 × bd_T)} (hC : bd_C Γ cX9_mostAlike 8 RX9 (some .int) ({ frames := 5, cells := 0, slots := 0, locals := 121 } : Room) ε (cX ε) bd_vi t0) (p1 : Int32) (p2 : Int32) {K : (Int32 × Int32 × Int32 × Int32 × bd_T) ⊕ (Int32 × bd_T) → Option (Int32 × bd_T)} (hk : ∀ (x3 : Int32) (x4 : Int32) (x5 : Int32) (x6 : Int32) (S : bd_T), bd_S Γ 8 t0 (K (.inl (x3, x4, x5, x6, S))) (cX ε S) 44 [(0, .ref (bd_a ε 0)), (1, .int p1), (2, .int p2), (3, .int x3), (4, .int x4), (5, .int x5), (6, .int x6)] []) (hx : ∀ (y3 : Int32) (S : bd_T), bd_S Γ 8 t0 (K (.inr (y3, S))) (cX ε S) 113 [(3, .int y3)] []) (x3 : Int32) (x4 : Int32) (x5 : Int32) (x6 : Int32) (S : bd_T) : bd_S Γ 8 t0 ((fb_X9_mostAlike_44 p1 p2 x3 x4 x5 x6 S).bind K) (cX ε S) 44 [(0, .ref (bd_a ε 0)), (1, .int p1), (2, .int p2), (3, .int x3), (4, .int x4), (5, .int x5), (6, .int x6)] [] := by
  unfold fb_X9_mostAlike_44
  refine bs_iload hC 6 dX9_mostAlike_44 rfl ?_
  refine bs_iload_n hC 2 dX9_mostAlike_46 rfl rfl ?_
  refine bs_icmp_gt hC 113 dX9_mostAlike_47 (by decide) (fun c16 => ?_) (fun c16 => ?_)
  · refine bs_some ?_
    refine bs_pick [3] rfl ?_
    exact hx x3 S
  refine bs_aload_n hC 0 dX9_mostAlike_50 rfl rfl ?_
  refine bs_get hC (v := .ref (bd_a ε 5)) hin_X9 0 (cX_o0 ε S) rfl 8 (by decide) mw_214 rfl dX9_mostAlike_51 ?_
  refine bs_iload_n hC 1 dX9_mostAlike_54 rfl rfl ?_
  refine bs_iload hC 6 dX9_mostAlike_55 rfl ?_
  refine bs_callVN_l hC (rm := ({ frames := 1, cells := 0, slots := 0, locals := 21 } : Room)) [.int p1, .int x6] [] (fun h => c_X2_value (bd_l Γ) (bd_D Γ) ε p1 x6 S h) mw_428 nm_46 mw_427 mw_78 mw_33 (cX_o5 ε S) rfl by_X2_value ⟨rfl, rfl, by decide, by decide⟩ rfl rfl (Nat.le_of_ble_eq_true rfl) dX9_mostAlike_57 (fun r7 S8 eS8 => ?_)
  refine bs_lconst hC (0 : Int64) dX9_mostAlike_60 rfl ?_
  refine bs_lif_le hC 107 dX9_mostAlike_61 dX9_mostAlike_62 (by decide) (fun c15 => ?_) (fun c15 => ?_)
  · refine bs_iinc hC 6 [(6, .int (x6 + 1)), (0, .ref (bd_a ε 0)), (1, .int p1), (2, .int p2), (3, .int x3), (4, .int x4), (5, .int x5)] dX9_mostAlike_107 rfl rfl (by decide) rfl ?_
    refine bs_goto hC 44 dX9_mostAlike_110 (by decide) ?_
    refine bs_some ?_
    refine bs_pick [1, 2, 3, 4, 5, 6, 0] rfl ?_
    exact hk x3 x4 x5 (x6 + 1) S8
  refine bs_aload_n hC 0 dX9_mostAlike_65 rfl rfl ?_
  refine bs_get hC (v := .ref (bd_a ε 1)) hin_X9 0 (cX_o0 ε S8) rfl 0 (by decide) mw_206 rfl dX9_mostAlike_66 ?_
  refine bs_getN hC (v := .ref (bd_a ε (12 + 4))) hin_X8 1 (cX_o1 ε S8) rfl 8 (by decide) nf_28 rfl dX9_mostAlike_69 ?_
  refine bs_iload hC 6 dX9_mostAlike_72 rfl ?_
  refine bs_callS_i hC (rm := ({ frames := 0, cells := 0, slots := 0, locals := 0 } : Room)) [.ref (bd_a ε (12 + 4)), .int x6] [] (fun h => c_X9_at (bd_l Γ) (bd_D Γ) ε 4 x6 (by decide) S8 h) mw_237 mw_235 mw_236 mw_72 by_X9_at ⟨rfl, rfl, by decide, by decide⟩ rfl rfl (Nat.le_of_ble_eq_true rfl) dX9_mostAlike_74 (fun r9 S10 eS10 => ?_)
  refine bs_istore hC [(7, .int r9), (0, .ref (bd_a ε 0)), (1, .int p1), (2, .int p2), (3, .int x3), (4, .int x4), (5, .int x5), (6, .int x6)] dX9_mostAlike_77 (by decide) rfl ?_
  refine bs_iload hC 0 dX9_mostAlike_79 rfl ?_
  refine bs_iload hC 6 dX9_mostAlike_81 rfl ?_
  refine bs_icmp_ne hC 93 dX9_mostAlike_83 (by decide) (fun c14 => ?_) (fun c14 => ?_)
  · refine bs_iload hC 5 dX9_mostAlike_86 rfl ?_
    refine bs_iconst hC (1 : Int32) dX9_mostAlike_88 rfl ?_
    refine bs_iadd hC dX9_mostAlike_89 ?_
    refine bs_goto hC 94 dX9_mostAlike_90 (by decide) ?_
    refine bs_leti (fun z11 ez11 => ?_)
    refine bs_istore hC [(4, .int z11), (7, .int r9), (0, .ref (bd_a ε 0)), (1, .int p1), (2, .int p2), (3, .int x3), (5, .int x5), (6, .int x6)] dX9_mostAlike_94 (by decide) rfl ?_
    refine bs_iload hC 1 dX9_mostAlike_96 rfl ?_
    refine bs_istore hC [(5, .int r9), (4, .int z11), (7, .int r9), (0, .ref (bd_a ε 0)), (1, .int p1), (2, .int p2), (3, .int x3), (6, .int x6)] dX9_mostAlike_98 (by decide) rfl ?_
    refine bs_iload_n hC 6 dX9_mostAlike_100 rfl rfl ?_
    refine bs_iload hC 1 dX9_mostAlike_101 rfl ?_
    refine bs_mmax hC mw_527 mw_298 mw_83 mw_299 (Nat.le_of_ble_eq_true rfl) (Nat.le_of_ble_eq_true rfl) dX9_mostAlike_103 ?_
    refine bs_leti (fun z12 ez12 => ?_)
    refine bs_istore_n hC [(3, .int z12), (5, .int r9), (4, .int z11), (7, .int r9), (0, .ref (bd_a ε 0)), (1, .int p1), (2, .int p2), (6, .int x6)] dX9_mostAlike_106 rfl (by decide) rfl ?_
    refine bs_iinc hC 7 [(6, .int (x6 + 1)), (3, .int z12), (5, .int r9), (4, .int z11), (7, .int r9), (0, .ref (bd_a ε 0)), (1, .int p1), (2, .int p2)] dX9_mostAlike_107 rfl rfl (by decide) rfl ?_
    refine bs_goto hC 44 dX9_mostAlike_110 (by decide) ?_
    refine bs_some ?_
    refine bs_pick [5, 6, 7, 1, 3, 2, 0] rfl ?_
    exact hk z12 z11 r9 (x6 + 1) S10
  refine bs_iconst hC (1 : Int32) dX9_mostAlike_93 rfl ?_
  refine bs_istore hC [(4, .int (1 : Int32)), (7, .int r9), (0, .ref (bd_a ε 0)), (1, .int p1), (2, .int p2), (3, .int x3), (5, .int x5), (6, .int x6)] dX9_mostAlike_94 (by decide) rfl ?_
  refine bs_iload hC 1 dX9_mostAlike_96 rfl ?_
  refine bs_istore hC [(5, .int r9), (4, .int (1 : Int32)), (7, .int r9), (0, .ref (bd_a ε 0)), (1, .int p1), (2, .int p2), (3, .int x3), (6, .int x6)] dX9_mostAlike_98 (by decide) rfl ?_
  refine bs_iload_n hC 6 dX9_mostAlike_100 rfl rfl ?_
  refine bs_iload hC 1 dX9_mostAlike_101 rfl ?_
  refine bs_mmax hC mw_527 mw_298 mw_83 mw_299 (Nat.le_of_ble_eq_true rfl) (Nat.le_of_ble_eq_true rfl) dX9_mostAlike_103 ?_
  refine bs_leti (fun z13 ez13 => ?_)
  refine bs_istore_n hC [(3, .int z13), (5, .int r9), (4, .int (1 : Int32)), (7, .int r9), (0, .ref (bd_a ε 0)), (1, .int p1), (2, .int p2), (6, .int x6)] dX9_mostAlike_106 rfl (by decide) rfl ?_
  refine bs_iinc hC 7 [(6, .int (x6 + 1)), (3, .int z13), (5, .int r9), (4, .int (1 : Int32)), (7, .int r9), (0, .ref (bd_a ε 0)), (1, .int p1), (2, .int p2)] dX9_mostAlike_107 rfl rfl (by decide) rfl ?_
  refine bs_goto hC 44 dX9_mostAlike_110 (by decide) ?_
  refine bs_some ?_
  refine bs_pick [5, 6, 7, 1, 3, 2, 0] rfl ?_
  exact hk z13 (1 : Int32) r9 (x6 + 1) S10
set_option maxRecDepth 100000 in
set_option maxHeartbeats 4000000 in
theorem b_X9_mostAlike {Γ : bd_G} {ε : bd_E} {t0 : Option (Int32 × bd_T)} (hC : bd_C Γ cX9_mostAlike 8 RX9 (some .int) ({ frames := 5, cells := 0, slots := 0, locals := 121 } : Room) ε (cX ε) bd_vi t0) (x1 : Int32) (x2 : Int32)  (S : bd_T) : bd_S Γ 8 t0 ((f_X9_mostAlike x1 x2 S).bind some) (cX ε S) 0 [(0, .ref (bd_a ε 0)), (1, .int x1), (2, .int x2)] [] := by
  unfold f_X9_mostAlike
  refine bs_aload_n hC 0 dX9_mostAlike_0 rfl rfl ?_
  refine bs_iconst hC (-1 : Int32) dX9_mostAlike_1 rfl ?_
  refine bs_callV_v hC (rm := ({ frames := 2, cells := 0, slots := 0, locals := 47 } : Room)) [.int (-1 : Int32)] [] (fun h => c_X9_setCounts (bd_l Γ) (bd_D Γ) ε (-1 : Int32) S h) mw_364 mw_362 mw_363 mw_72 mw_25 (cX_o0 ε S) rfl by_X9_setCounts ⟨rfl, rfl, by decide, by decide⟩ rfl rfl (Nat.le_of_ble_eq_true rfl) dX9_mostAlike_2 (fun r1 S2 eS2 => ?_)
  refine bs_aload_n hC 0 dX9_mostAlike_5 rfl rfl ?_
  refine bs_get hC (v := .ref (bd_a ε 5)) hin_X9 0 (cX_o0 ε S2) rfl 8 (by decide) mw_214 rfl dX9_mostAlike_6 ?_
  refine bs_aload_n hC 0 dX9_mostAlike_9 rfl rfl ?_
  refine bs_get hC (v := .ref (bd_a ε 1)) hin_X9 0 (cX_o0 ε S2) rfl 0 (by decide) mw_206 rfl dX9_mostAlike_10 ?_
  refine bs_getN hC (v := .ref (bd_a ε 8)) hin_X8 1 (cX_o1 ε S2) rfl 0 (by decide) nf_18 rfl dX9_mostAlike_13 ?_
  refine bs_iload_n hC 1 dX9_mostAlike_16 rfl rfl ?_
  refine bs_aload_n hC 0 dX9_mostAlike_17 rfl rfl ?_
  refine bs_get hC (v := .ref (bd_a ε 6)) hin_X9 0 (cX_o0 ε S2) rfl 9 (by decide) mw_215 rfl dX9_mostAlike_18 ?_
  refine bs_callVN_v hC (rm := ({ frames := 4, cells := 0, slots := 0, locals := 96 } : Room)) [.ref (bd_a ε 8), .int x1, .ref (bd_a ε 6)] [] (fun h => c_X2_gather (bd_l Γ) (bd_D Γ) ε x1 S2 h) mw_370 nm_34 mw_369 mw_78 mw_27 (cX_o5 ε S2) rfl by_X2_gather ⟨rfl, rfl, by decide, by decide⟩ rfl rfl (Nat.le_of_ble_eq_true rfl) dX9_mostAlike_21 (fun r3 S4 eS4 => ?_)
  refine bs_aload_n hC 0 dX9_mostAlike_24 rfl rfl ?_
  refine bs_get hC (v := .ref (bd_a ε 1)) hin_X9 0 (cX_o0 ε S4) rfl 0 (by decide) mw_206 rfl dX9_mostAlike_25 ?_
  refine bs_iload_n hC 1 dX9_mostAlike_28 rfl rfl ?_
  refine bs_iload_n hC 2 dX9_mostAlike_29 rfl rfl ?_
  refine bs_callVN_v hC (rm := ({ frames := 3, cells := 0, slots := 0, locals := 75 } : Room)) [.int x1, .int x2] [] (fun h => c_X8_fillLefts (bd_l Γ) (bd_D Γ) ε x1 x2 S4 h) mw_344 nm_49 mw_343 mw_73 mw_21 (cX_o1 ε S4) rfl by_X8_fillLefts ⟨rfl, rfl, by decide, by decide⟩ rfl rfl (Nat.le_of_ble_eq_true rfl) dX9_mostAlike_30 (fun r5 S6 eS6 => ?_)
  refine bs_iconst hC (0 : Int32) dX9_mostAlike_33 rfl ?_
  refine bs_istore_n hC [(3, .int (0 : Int32)), (0, .ref (bd_a ε 0)), (1, .int x1), (2, .int x2)] dX9_mostAlike_34 rfl (by decide) rfl ?_
  refine bs_iconst hC (0 : Int32) dX9_mostAlike_35 rfl ?_
  refine bs_istore hC [(4, .int (0 : Int32)), (3, .int (0 : Int32)), (0, .ref (bd_a ε 0)), (1, .int x1), (2, .int x2)] dX9_mostAlike_36 (by decide) rfl ?_
  refine bs_iconst hC (-1 : Int32) dX9_mostAlike_38 rfl ?_
  refine bs_istore hC [(5, .int (-1 : Int32)), (4, .int (0 : Int32)), (3, .int (0 : Int32)), (0, .ref (bd_a ε 0)), (1, .int x1), (2, .int x2)] dX9_mostAlike_39 (by decide) rfl ?_
  refine bs_iconst hC (0 : Int32) dX9_mostAlike_41 rfl ?_
  refine bs_istore hC [(6, .int (0 : Int32)), (5, .int (-1 : Int32)), (4, .int (0 : Int32)), (3, .int (0 : Int32)), (0, .ref (bd_a ε 0)), (1, .int x1), (2, .int x2)] dX9_mostAlike_42 (by decide) rfl ?_
  refine bs_pick [4, 5, 6, 3, 2, 1, 0] rfl ?_
  refine bs_loopK (fun (q : Int32 × Int32 × Int32 × Int32 × bd_T) t => bd_S Γ 8 t0 t (cX ε (q.2.2.2.2)) 44 [(0, .ref (bd_a ε 0)), (1, .int x1), (2, .int x2), (3, .int (q.1)), (4, .int (q.2.1)), (5, .int (q.2.2.1)), (6, .int (q.2.2.2.1))] []) (fun (q : Int32 × bd_T) t => bd_S Γ 8 t0 t (cX ε (q.2)) 113 [(3, .int (q.1))] []) (fun q => fb_X9_mostAlike_44 x1 x2 q.1 q.2.1 q.2.2.1 q.2.2.2.1 q.2.2.2.2) (fun _ => bs_none) (fun K hk hx q => lb_X9_mostAlike_44 hC   x1 x2 (fun a0 a1 a2 a3 S => hk (a0, a1, a2, a3, S)) (fun b0 S => hx (b0, S))  (q.1) (q.2.1) (q.2.2.1) (q.2.2.2.1) (q.2.2.2.2)) (fun r => ?_) bd_K ((0 : Int32), (0 : Int32), (-1 : Int32), (0 : Int32), S6)
  obtain ⟨y17, S18⟩ := r
  show bd_S Γ 8 t0 (Option.bind _ _) (cX ε S18) 113 [(3, .int y17)] []
  try dsimp only
  refine bs_iload_n hC 0 dX9_mostAlike_113 rfl rfl ?_
  refine bs_if_le hC 121 dX9_mostAlike_114 (by decide) (fun c19 => ?_) (fun c19 => ?_)
  · refine bs_bipush hC (-9 : Int32) dX9_mostAlike_121 rfl ?_
    exact bs_iret hC dX9_mostAlike_123 rfl
  refine bs_iload_n hC 0 dX9_mostAlike_117 rfl rfl ?_
  refine bs_goto hC 123 dX9_mostAlike_118 (by decide) ?_
  exact bs_iret hC dX9_mostAlike_123 rfl
theorem c_X9_mostAlike (l : Launch) (D : va_G) (ε : bd_E) (x1 : Int32) (x2 : Int32)  (S : bd_T) (h0 : (f_X9_mostAlike x1 x2 S).isSome = true) : bd_Con l yX9_mostAlike (Cond.code yX9_mostAlike cX9_mostAlike 8 (some .int) :: bd_tbl) ({ frames := 5, cells := 0, slots := 0, locals := 121 } : Room) D ε (cX ε) bd_vi [.ref (bd_a ε 0), .int x1, .int x2] S (f_X9_mostAlike x1 x2 S) :=
  bd_con (by decide +kernel) (Nat.le_of_ble_eq_true rfl) ⟨rfl, rfl⟩ h0 (fun Γ _ _ hC => bs_eq bs_bs (b_X9_mostAlike hC x1 x2 S))
set_option maxRecDepth 100000 in
set_option maxHeartbeats 4000000 in
theorem b_X9_narrow {Γ : bd_G} {ε : bd_E} {t0 : Option (Int32 × bd_T)} (hC : bd_C Γ cX9_narrow 4 RX9 (some .int) ({ frames := 6, cells := 0, slots := 0, locals := 149 } : Room) ε (cX ε) bd_vi t0) (x1 : Int32) (x2 : Int32)  (S : bd_T) : bd_S Γ 4 t0 ((f_X9_narrow x1 x2 S).bind some) (cX ε S) 0 [(0, .ref (bd_a ε 0)), (1, .int x1), (2, .int x2)] [] := by
  unfold f_X9_narrow
  refine bs_aload_n hC 0 dX9_narrow_0 rfl rfl ?_
  refine bs_iload_n hC 1 dX9_narrow_1 rfl rfl ?_
  refine bs_callV_i hC (rm := ({ frames := 0, cells := 0, slots := 0, locals := 0 } : Room)) [.int x1] [] (fun h => c_X9_isThing (bd_l Γ) (bd_D Γ) ε x1 S h) mw_269 mw_267 mw_268 mw_72 mw_7 (cX_o0 ε S) rfl by_X9_isThing ⟨rfl, rfl, by decide, by decide⟩ rfl rfl (Nat.le_of_ble_eq_true rfl) dX9_narrow_2 (fun r1 S2 eS2 => ?_)
  refine bs_if_ne hC 14 dX9_narrow_5 (by decide) (fun c14 => ?_) (fun c14 => ?_)
  · refine bs_aload_n hC 0 dX9_narrow_8 rfl rfl ?_
    refine bs_iconst hC (-1 : Int32) dX9_narrow_9 rfl ?_
    refine bs_callV_i hC (rm := ({ frames := 1, cells := 0, slots := 0, locals := 22 } : Room)) [.int (-1 : Int32)] [] (fun h => c_X9_refuse (bd_l Γ) (bd_D Γ) ε (-1 : Int32) S2 h) mw_234 mw_232 mw_233 mw_72 mw_0 (cX_o0 ε S2) rfl by_X9_refuse ⟨rfl, rfl, by decide, by decide⟩ rfl rfl (Nat.le_of_ble_eq_true rfl) dX9_narrow_10 (fun r3 S4 eS4 => ?_)
    exact bs_iret hC dX9_narrow_13 rfl
  refine bs_iload_n hC 2 dX9_narrow_14 rfl rfl ?_
  refine bs_callS_i hC (rm := ({ frames := 0, cells := 0, slots := 0, locals := 0 } : Room)) [.int x2] [] (fun h => c_X9_wrongMinute (bd_l Γ) (bd_D Γ) ε x2 S2 h) mw_333 mw_331 mw_332 mw_72 by_X9_wrongMinute ⟨rfl, rfl, by decide, by decide⟩ rfl rfl (Nat.le_of_ble_eq_true rfl) dX9_narrow_15 (fun r5 S6 eS6 => ?_)
  refine bs_istore_n hC [(3, .int r5), (0, .ref (bd_a ε 0)), (1, .int x1), (2, .int x2)] dX9_narrow_18 rfl (by decide) rfl ?_
  refine bs_iload_n hC 0 dX9_narrow_19 rfl rfl ?_
  refine bs_if_ge hC 29 dX9_narrow_20 (by decide) (fun c13 => ?_) (fun c13 => ?_)
  · refine bs_aload_n hC 1 dX9_narrow_29 rfl rfl ?_
    refine bs_get hC (v := .ref (bd_a ε 4)) hin_X9 0 (cX_o0 ε S6) rfl 7 (by decide) mw_213 rfl dX9_narrow_30 ?_
    refine bs_aload_n hC 1 dX9_narrow_33 rfl rfl ?_
    refine bs_get hC (v := .ref (bd_a ε 1)) hin_X9 0 (cX_o0 ε S6) rfl 0 (by decide) mw_206 rfl dX9_narrow_34 ?_
    refine bs_callVN_v hC (rm := ({ frames := 5, cells := 0, slots := 0, locals := 127 } : Room)) [.ref (bd_a ε 1)] [] (fun h => c_X0_learn (bd_l Γ) (bd_D Γ) ε S6 h) mw_339 nm_27 mw_338 mw_77 mw_19 (cX_o4 ε S6) rfl by_X0_learn ⟨rfl, rfl, by decide, by decide⟩ rfl rfl (Nat.le_of_ble_eq_true rfl) dX9_narrow_37 (fun r7 S8 eS8 => ?_)
    refine bs_aload_n hC 1 dX9_narrow_40 rfl rfl ?_
    refine bs_iload_n hC 2 dX9_narrow_41 rfl rfl ?_
    refine bs_iload_n hC 3 dX9_narrow_42 rfl rfl ?_
    refine bs_callV_i hC (rm := ({ frames := 5, cells := 0, slots := 0, locals := 121 } : Room)) [.int x1, .int x2] [] (fun h => c_X9_mostAlike (bd_l Γ) (bd_D Γ) ε x1 x2 S8 h) mw_526 mw_524 mw_525 mw_72 mw_43 (cX_o0 ε S8) rfl by_X9_mostAlike ⟨rfl, rfl, by decide, by decide⟩ rfl rfl (Nat.le_of_ble_eq_true rfl) dX9_narrow_43 (fun r9 S10 eS10 => ?_)
    exact bs_iret hC dX9_narrow_46 rfl
  refine bs_aload_n hC 1 dX9_narrow_23 rfl rfl ?_
  refine bs_iload_n hC 0 dX9_narrow_24 rfl rfl ?_
  refine bs_callV_i hC (rm := ({ frames := 1, cells := 0, slots := 0, locals := 22 } : Room)) [.int r5] [] (fun h => c_X9_refuse (bd_l Γ) (bd_D Γ) ε r5 S6 h) mw_234 mw_232 mw_233 mw_72 mw_0 (cX_o0 ε S6) rfl by_X9_refuse ⟨rfl, rfl, by decide, by decide⟩ rfl rfl (Nat.le_of_ble_eq_true rfl) dX9_narrow_25 (fun r11 S12 eS12 => ?_)
  exact bs_iret hC dX9_narrow_28 rfl
theorem c_X9_narrow (l : Launch) (D : va_G) (ε : bd_E) (x1 : Int32) (x2 : Int32)  (S : bd_T) (h0 : (f_X9_narrow x1 x2 S).isSome = true) : bd_Con l yX9_narrow (Cond.code yX9_narrow cX9_narrow 4 (some .int) :: bd_tbl) ({ frames := 6, cells := 0, slots := 0, locals := 149 } : Room) D ε (cX ε) bd_vi [.ref (bd_a ε 0), .int x1, .int x2] S (f_X9_narrow x1 x2 S) :=
  bd_con (by decide +kernel) (Nat.le_of_ble_eq_true rfl) ⟨rfl, rfl⟩ h0 (fun Γ _ _ hC => bs_eq bs_bs (b_X9_narrow hC x1 x2 S))
set_option maxRecDepth 100000 in
set_option maxHeartbeats 4000000 in
theorem lb_X9_next_37 {Γ : bd_G} {ε : bd_E} {t0 : Option (Int32 × bd_T)} (hC : bd_C Γ cX9_next 7 RX9 (some .int) ({ frames := 6, cells := 0, slots := 0, locals := 149 } : Room) ε (cX ε) bd_vi t0) (p1 : Int32) {K : (Int32 × Int32 × Int32 × bd_T) ⊕ (Int32 × bd_T) → Option (Int32 × bd_T)} (hk : ∀ (x3 : Int32) (x4 : Int32) (x5 : Int32) (S : bd_T), bd_S Γ 7 t0 (K (.inl (x3, x4, x5, S))) (cX ε S) 37 [(0, .ref (bd_a ε 0)), (1, .int p1), (3, .int x3), (4, .int x4), (5, .int x5)] []) (hx : ∀ (y4 : Int32) (S : bd_T), bd_S Γ 7 t0 (K (.inr (y4, S))) (cX ε S) 87 [(4, .int y4)] []) (x3 : Int32) (x4 : Int32) (x5 : Int32) (S : bd_T) : bd_S Γ 7 t0 ((fb_X9_next_37 p1 x3 x4 x5 S).bind K) (cX ε S) 37 [(0, .ref (bd_a ε 0)), (1, .int p1), (3, .int x3), (4, .int x4), (5, .int x5)] [] := by
  unfold fb_X9_next_37
  refine bs_iload hC 4 dX9_next_37 rfl ?_
  refine bs_aload_n hC 0 dX9_next_39 rfl rfl ?_
  refine bs_get hC (v := .ref (bd_a ε 1)) hin_X9 0 (cX_o0 ε S) rfl 0 (by decide) mw_206 rfl dX9_next_40 ?_
  refine bs_getN hC (v := .ref (bd_a ε 8)) hin_X8 1 (cX_o1 ε S) rfl 0 (by decide) nf_18 rfl dX9_next_43 ?_
  refine bs_getN hC (v := .int (bd_I S 17)) hin_X7 8 (cX_o8 ε S) rfl 0 (by decide) nf_0 rfl dX9_next_46 ?_
  refine bs_icmp_ge hC 87 dX9_next_49 (by decide) (fun c9 => ?_) (fun c9 => ?_)
  · refine bs_some ?_
    refine bs_pick [3] rfl ?_
    exact hx x4 S
  refine bs_aload_n hC 0 dX9_next_52 rfl rfl ?_
  refine bs_iload hC 4 dX9_next_53 rfl ?_
  refine bs_iload_n hC 1 dX9_next_55 rfl rfl ?_
  refine bs_callV_i hC (rm := ({ frames := 5, cells := 0, slots := 0, locals := 121 } : Room)) [.int x5, .int p1] [] (fun h => c_X9_mostAlike (bd_l Γ) (bd_D Γ) ε x5 p1 S h) mw_526 mw_524 mw_525 mw_72 mw_43 (cX_o0 ε S) rfl by_X9_mostAlike ⟨rfl, rfl, by decide, by decide⟩ rfl rfl (Nat.le_of_ble_eq_true rfl) dX9_next_56 (fun r5 S6 eS6 => ?_)
  refine bs_istore hC [(6, .int r5), (0, .ref (bd_a ε 0)), (1, .int p1), (3, .int x3), (4, .int x4), (5, .int x5)] dX9_next_59 (by decide) rfl ?_
  refine bs_iload hC 0 dX9_next_61 rfl ?_
  refine bs_bipush hC (-9 : Int32) dX9_next_63 rfl ?_
  refine bs_icmp_eq hC 81 dX9_next_65 (by decide) (fun c8 => ?_) (fun c8 => ?_)
  · refine bs_iinc hC 5 [(5, .int (x5 + 1)), (6, .int r5), (0, .ref (bd_a ε 0)), (1, .int p1), (3, .int x3), (4, .int x4)] dX9_next_81 rfl rfl (by decide) rfl ?_
    refine bs_goto hC 37 dX9_next_84 (by decide) ?_
    refine bs_some ?_
    refine bs_pick [2, 3, 4, 5, 0] rfl ?_
    exact hk x3 x4 (x5 + 1) S6
  refine bs_iload hC 0 dX9_next_68 rfl ?_
  refine bs_iload_n hC 3 dX9_next_70 rfl rfl ?_
  refine bs_icmp_ge hC 81 dX9_next_71 (by decide) (fun c7 => ?_) (fun c7 => ?_)
  · refine bs_iinc hC 5 [(5, .int (x5 + 1)), (6, .int r5), (0, .ref (bd_a ε 0)), (1, .int p1), (3, .int x3), (4, .int x4)] dX9_next_81 rfl rfl (by decide) rfl ?_
    refine bs_goto hC 37 dX9_next_84 (by decide) ?_
    refine bs_some ?_
    refine bs_pick [2, 3, 4, 5, 0] rfl ?_
    exact hk x3 x4 (x5 + 1) S6
  refine bs_iload hC 0 dX9_next_74 rfl ?_
  refine bs_istore_n hC [(3, .int r5), (6, .int r5), (0, .ref (bd_a ε 0)), (1, .int p1), (4, .int x4), (5, .int x5)] dX9_next_76 rfl (by decide) rfl ?_
  refine bs_iload hC 5 dX9_next_77 rfl ?_
  refine bs_istore hC [(4, .int x5), (3, .int r5), (6, .int r5), (0, .ref (bd_a ε 0)), (1, .int p1), (5, .int x5)] dX9_next_79 (by decide) rfl ?_
  refine bs_iinc hC 5 [(5, .int (x5 + 1)), (4, .int x5), (3, .int r5), (6, .int r5), (0, .ref (bd_a ε 0)), (1, .int p1)] dX9_next_81 rfl rfl (by decide) rfl ?_
  refine bs_goto hC 37 dX9_next_84 (by decide) ?_
  refine bs_some ?_
  refine bs_pick [4, 5, 2, 1, 0] rfl ?_
  exact hk r5 x5 (x5 + 1) S6
set_option maxRecDepth 100000 in
set_option maxHeartbeats 4000000 in
theorem b_X9_next {Γ : bd_G} {ε : bd_E} {t0 : Option (Int32 × bd_T)} (hC : bd_C Γ cX9_next 7 RX9 (some .int) ({ frames := 6, cells := 0, slots := 0, locals := 149 } : Room) ε (cX ε) bd_vi t0) (x1 : Int32)  (S : bd_T) : bd_S Γ 7 t0 ((f_X9_next x1 S).bind some) (cX ε S) 0 [(0, .ref (bd_a ε 0)), (1, .int x1)] [] := by
  unfold f_X9_next
  refine bs_iload_n hC 1 dX9_next_0 rfl rfl ?_
  refine bs_callS_i hC (rm := ({ frames := 0, cells := 0, slots := 0, locals := 0 } : Room)) [.int x1] [] (fun h => c_X9_wrongMinute (bd_l Γ) (bd_D Γ) ε x1 S h) mw_333 mw_331 mw_332 mw_72 by_X9_wrongMinute ⟨rfl, rfl, by decide, by decide⟩ rfl rfl (Nat.le_of_ble_eq_true rfl) dX9_next_1 (fun r1 S2 eS2 => ?_)
  refine bs_istore_n hC [(2, .int r1), (0, .ref (bd_a ε 0)), (1, .int x1)] dX9_next_4 rfl (by decide) rfl ?_
  refine bs_iload_n hC 0 dX9_next_5 rfl rfl ?_
  refine bs_if_ge hC 15 dX9_next_6 (by decide) (fun c14 => ?_) (fun c14 => ?_)
  · refine bs_aload_n hC 1 dX9_next_15 rfl rfl ?_
    refine bs_get hC (v := .ref (bd_a ε 4)) hin_X9 0 (cX_o0 ε S2) rfl 7 (by decide) mw_213 rfl dX9_next_16 ?_
    refine bs_aload_n hC 1 dX9_next_19 rfl rfl ?_
    refine bs_get hC (v := .ref (bd_a ε 1)) hin_X9 0 (cX_o0 ε S2) rfl 0 (by decide) mw_206 rfl dX9_next_20 ?_
    refine bs_callVN_v hC (rm := ({ frames := 5, cells := 0, slots := 0, locals := 127 } : Room)) [.ref (bd_a ε 1)] [] (fun h => c_X0_learn (bd_l Γ) (bd_D Γ) ε S2 h) mw_339 nm_27 mw_338 mw_77 mw_19 (cX_o4 ε S2) rfl by_X0_learn ⟨rfl, rfl, by decide, by decide⟩ rfl rfl (Nat.le_of_ble_eq_true rfl) dX9_next_23 (fun r3 S4 eS4 => ?_)
    refine bs_sipush hC (301 : Int32) dX9_next_26 rfl ?_
    refine bs_istore_n hC [(3, .int (301 : Int32)), (2, .int r1), (0, .ref (bd_a ε 0)), (1, .int x1)] dX9_next_29 rfl (by decide) rfl ?_
    refine bs_bipush hC (-9 : Int32) dX9_next_30 rfl ?_
    refine bs_istore hC [(4, .int (-9 : Int32)), (3, .int (301 : Int32)), (2, .int r1), (0, .ref (bd_a ε 0)), (1, .int x1)] dX9_next_32 (by decide) rfl ?_
    refine bs_iconst hC (0 : Int32) dX9_next_34 rfl ?_
    refine bs_istore hC [(5, .int (0 : Int32)), (4, .int (-9 : Int32)), (3, .int (301 : Int32)), (2, .int r1), (0, .ref (bd_a ε 0)), (1, .int x1)] dX9_next_35 (by decide) rfl ?_
    refine bs_pick [4, 5, 2, 1, 0] rfl ?_
    refine bs_loopK (fun (q : Int32 × Int32 × Int32 × bd_T) t => bd_S Γ 7 t0 t (cX ε (q.2.2.2)) 37 [(0, .ref (bd_a ε 0)), (1, .int x1), (3, .int (q.1)), (4, .int (q.2.1)), (5, .int (q.2.2.1))] []) (fun (q : Int32 × bd_T) t => bd_S Γ 7 t0 t (cX ε (q.2)) 87 [(4, .int (q.1))] []) (fun q => fb_X9_next_37 x1 q.1 q.2.1 q.2.2.1 q.2.2.2) (fun _ => bs_none) (fun K hk hx q => lb_X9_next_37 hC   x1 (fun a0 a1 a2 S => hk (a0, a1, a2, S)) (fun b0 S => hx (b0, S))  (q.1) (q.2.1) (q.2.2.1) (q.2.2.2)) (fun r => ?_) bd_K ((301 : Int32), (-9 : Int32), (0 : Int32), S4)
    obtain ⟨y10, S11⟩ := r
    show bd_S Γ 7 t0 (Option.bind _ _) (cX ε S11) 87 [(4, .int y10)] []
    try dsimp only
    refine bs_iload hC 0 dX9_next_87 rfl ?_
    exact bs_iret hC dX9_next_89 rfl
  refine bs_aload_n hC 1 dX9_next_9 rfl rfl ?_
  refine bs_iload_n hC 0 dX9_next_10 rfl rfl ?_
  refine bs_callV_i hC (rm := ({ frames := 1, cells := 0, slots := 0, locals := 22 } : Room)) [.int r1] [] (fun h => c_X9_refuse (bd_l Γ) (bd_D Γ) ε r1 S2 h) mw_234 mw_232 mw_233 mw_72 mw_0 (cX_o0 ε S2) rfl by_X9_refuse ⟨rfl, rfl, by decide, by decide⟩ rfl rfl (Nat.le_of_ble_eq_true rfl) dX9_next_11 (fun r12 S13 eS13 => ?_)
  exact bs_iret hC dX9_next_14 rfl
theorem c_X9_next (l : Launch) (D : va_G) (ε : bd_E) (x1 : Int32)  (S : bd_T) (h0 : (f_X9_next x1 S).isSome = true) : bd_Con l yX9_next (Cond.code yX9_next cX9_next 7 (some .int) :: bd_tbl) ({ frames := 6, cells := 0, slots := 0, locals := 149 } : Room) D ε (cX ε) bd_vi [.ref (bd_a ε 0), .int x1] S (f_X9_next x1 S) :=
  bd_con (by decide +kernel) (Nat.le_of_ble_eq_true rfl) ⟨rfl, rfl⟩ h0 (fun Γ _ _ hC => bs_eq bs_bs (b_X9_next hC x1 S))
set_option maxRecDepth 100000 in
set_option maxHeartbeats 4000000 in
theorem lb_X9_copyRow_2 {Γ : bd_G} {ε : bd_E} {t0 : Option (Unit × bd_T)} (hC : bd_C Γ cX9_copyRow 3 RX9 none ({ frames := 0, cells := 0, slots := 0, locals := 0 } : Room) ε (cX ε) bd_vv t0) (k0 : Nat) (k1 : Nat) (hk0 : k0 < 31) (hk1 : k1 < 31) {K : (Int32 × bd_T) ⊕ (bd_T) → Option (Unit × bd_T)} (hk : ∀ (x2 : Int32) (S : bd_T), bd_S Γ 3 t0 (K (.inl (x2, S))) (cX ε S) 2 [(0, .ref (bd_a ε (12 + k0))), (1, .ref (bd_a ε (12 + k1))), (2, .int x2)] []) (hx : ∀ (S : bd_T), bd_S Γ 3 t0 (K (.inr S)) (cX ε S) 26 [] []) (x2 : Int32) (S : bd_T) : bd_S Γ 3 t0 ((fb_X9_copyRow_2 k0 k1 x2 S).bind K) (cX ε S) 2 [(0, .ref (bd_a ε (12 + k0))), (1, .ref (bd_a ε (12 + k1))), (2, .int x2)] [] := by
  unfold fb_X9_copyRow_2
  refine bs_iload_n hC 2 dX9_copyRow_2 rfl rfl ?_
  refine bs_aload_n hC 0 dX9_copyRow_3 rfl rfl ?_
  refine bs_alenI hC _ (cX_gi ε S k0 (cX_len k0) hk0 rfl) (v := (Int32.ofNat (cX_len k0))) rfl dX9_copyRow_4 ?_
  refine bs_icmp_ge hC 26 dX9_copyRow_5 (by decide) (fun c4 => ?_) (fun c4 => ?_)
  · refine bs_some ?_
    refine bs_pick [] rfl ?_
    exact hx S
  refine bs_iload_n hC 2 dX9_copyRow_8 rfl rfl ?_
  refine bs_aload_n hC 1 dX9_copyRow_9 rfl rfl ?_
  refine bs_alenI hC _ (cX_gi ε S k1 (cX_len k1) hk1 rfl) (v := (Int32.ofNat (cX_len k1))) rfl dX9_copyRow_10 ?_
  refine bs_icmp_ge hC 26 dX9_copyRow_11 (by decide) (fun c3 => ?_) (fun c3 => ?_)
  · refine bs_some ?_
    refine bs_pick [] rfl ?_
    exact hx S
  refine bs_aload_n hC 1 dX9_copyRow_14 rfl rfl ?_
  refine bs_iload_n hC 2 dX9_copyRow_15 rfl rfl ?_
  refine bs_aload_n hC 0 dX9_copyRow_16 rfl rfl ?_
  refine bs_iload_n hC 2 dX9_copyRow_17 rfl rfl ?_
  refine bs_iald hC _ (cX_gi ε S k0 (cX_len k0) hk0 rfl) dX9_copyRow_18 (fun z1 ez1 => ?_)
  refine bs_iast hC _ (cX_gi ε S k1 (cX_len k1) hk1 rfl) (cX_si ε S k1 (cX_len k1) hk1 rfl _) dX9_copyRow_19 (fun S2 eS2 => ?_)
  refine bs_iinc hC 2 [(2, .int (x2 + 1)), (0, .ref (bd_a ε (12 + k0))), (1, .ref (bd_a ε (12 + k1)))] dX9_copyRow_20 rfl rfl (by decide) rfl ?_
  refine bs_goto hC 2 dX9_copyRow_23 (by decide) ?_
  refine bs_some ?_
  refine bs_pick [1, 2, 0] rfl ?_
  exact hk (x2 + 1) S2
set_option maxRecDepth 100000 in
set_option maxHeartbeats 4000000 in
theorem b_X9_copyRow {Γ : bd_G} {ε : bd_E} {t0 : Option (Unit × bd_T)} (hC : bd_C Γ cX9_copyRow 3 RX9 none ({ frames := 0, cells := 0, slots := 0, locals := 0 } : Room) ε (cX ε) bd_vv t0) (k0 : Nat) (k1 : Nat) (hk0 : k0 < 31) (hk1 : k1 < 31) (S : bd_T) : bd_S Γ 3 t0 ((f_X9_copyRow k0 k1 S).bind some) (cX ε S) 0 [(0, .ref (bd_a ε (12 + k0))), (1, .ref (bd_a ε (12 + k1)))] [] := by
  unfold f_X9_copyRow
  refine bs_iconst hC (0 : Int32) dX9_copyRow_0 rfl ?_
  refine bs_istore_n hC [(2, .int (0 : Int32)), (0, .ref (bd_a ε (12 + k0))), (1, .ref (bd_a ε (12 + k1)))] dX9_copyRow_1 rfl (by decide) rfl ?_
  refine bs_pick [1, 2, 0] rfl ?_
  refine bs_loopK (fun (q : Int32 × bd_T) t => bd_S Γ 3 t0 t (cX ε (q.2)) 2 [(0, .ref (bd_a ε (12 + k0))), (1, .ref (bd_a ε (12 + k1))), (2, .int (q.1))] []) (fun (q : bd_T) t => bd_S Γ 3 t0 t (cX ε (q)) 26 [] []) (fun q => fb_X9_copyRow_2 k0 k1 q.1 q.2) (fun _ => bs_none) (fun K hk hx q => lb_X9_copyRow_2 hC k0 k1 hk0 hk1  (fun a0 S => hk (a0, S)) (fun  S => hx (S))  (q.1) (q.2)) (fun r => ?_) bd_K ((0 : Int32), S)
  obtain ⟨S5, rfl⟩ : ∃ z, z = r := ⟨_, rfl⟩
  show bd_S Γ 3 t0 (Option.bind _ _) (cX ε S5) 26 [] []
  try dsimp only
  exact bs_vret hC dX9_copyRow_26 rfl
theorem c_X9_copyRow (l : Launch) (D : va_G) (ε : bd_E) (k0 : Nat) (k1 : Nat) (hk0 : k0 < 31) (hk1 : k1 < 31) (S : bd_T) (h0 : (f_X9_copyRow k0 k1 S).isSome = true) : bd_Con l yX9_copyRow (Cond.code yX9_copyRow cX9_copyRow 3 none :: bd_tbl) ({ frames := 0, cells := 0, slots := 0, locals := 0 } : Room) D ε (cX ε) bd_vv [.ref (bd_a ε (12 + k0)), .ref (bd_a ε (12 + k1))] S (f_X9_copyRow k0 k1 S) :=
  bd_con (by decide +kernel) (Nat.le_of_ble_eq_true rfl) ⟨rfl, rfl⟩ h0 (fun Γ _ _ hC => bs_eq bs_bs (b_X9_copyRow hC k0 k1 hk0 hk1 S))
set_option maxRecDepth 100000 in
set_option maxHeartbeats 4000000 in
theorem b_X7_take {Γ : bd_G} {ε : bd_E} {t0 : Option (Unit × bd_T)} (hC : bd_C Γ cX7_take 2 RX7 none ({ frames := 1, cells := 0, slots := 0, locals := 22 } : Room) ε (cX ε) bd_vv t0)  (S : bd_T) : bd_S Γ 2 t0 ((f_X7_take S).bind some) (cX ε S) 0 [(0, .ref (bd_a ε 10)), (1, .ref (bd_a ε 8))] [] := by
  unfold f_X7_take
  refine bs_aload_n hC 0 dX7_take_0 rfl rfl ?_
  refine bs_aload_n hC 1 dX7_take_1 rfl rfl ?_
  refine bs_get hC (v := .int (bd_I S 17)) hin_X7 8 (cX_o8 ε S) rfl 0 (by decide) mw_103 rfl dX7_take_2 ?_
  refine bs_put hC (kk := 20) hin_X7 tyX7 tyX7_ok nmX7 10 (cX_o10 ε S) rfl 0 (by decide) mw_103 rfl rfl rfl (Nat.le_of_ble_eq_true rfl) (cX_p20 ε S _) dX7_take_5 (fun S1 eS1 => ?_)
  refine bs_aload_n hC 1 dX7_take_8 rfl rfl ?_
  refine bs_get hC (v := .ref (bd_a ε (12 + 11))) hin_X7 8 (cX_o8 ε S1) rfl 1 (by decide) mw_104 rfl dX7_take_9 ?_
  refine bs_aload_n hC 0 dX7_take_12 rfl rfl ?_
  refine bs_get hC (v := .ref (bd_a ε (12 + 21))) hin_X7 10 (cX_o10 ε S1) rfl 1 (by decide) mw_104 rfl dX7_take_13 ?_
  refine bs_callSN_v hC (rm := ({ frames := 0, cells := 0, slots := 0, locals := 0 } : Room)) [.ref (bd_a ε (12 + 11)), .ref (bd_a ε (12 + 21))] [] (fun h => c_X9_copyRow (bd_l Γ) (bd_D Γ) ε 11 21 (by decide) (by decide) S1 h) mw_541 nm_52 mw_540 mw_72 by_X9_copyRow ⟨rfl, rfl, by decide, by decide⟩ rfl rfl (Nat.le_of_ble_eq_true rfl) dX7_take_16 (fun r2 S3 eS3 => ?_)
  refine bs_aload_n hC 1 dX7_take_19 rfl rfl ?_
  refine bs_get hC (v := .ref (bd_a ε (12 + 12))) hin_X7 8 (cX_o8 ε S3) rfl 2 (by decide) mw_105 rfl dX7_take_20 ?_
  refine bs_aload_n hC 0 dX7_take_23 rfl rfl ?_
  refine bs_get hC (v := .ref (bd_a ε (12 + 22))) hin_X7 10 (cX_o10 ε S3) rfl 2 (by decide) mw_105 rfl dX7_take_24 ?_
  refine bs_callSN_v hC (rm := ({ frames := 0, cells := 0, slots := 0, locals := 0 } : Room)) [.ref (bd_a ε (12 + 12)), .ref (bd_a ε (12 + 22))] [] (fun h => c_X9_copyRow (bd_l Γ) (bd_D Γ) ε 12 22 (by decide) (by decide) S3 h) mw_541 nm_52 mw_540 mw_72 by_X9_copyRow ⟨rfl, rfl, by decide, by decide⟩ rfl rfl (Nat.le_of_ble_eq_true rfl) dX7_take_27 (fun r4 S5 eS5 => ?_)
  refine bs_aload_n hC 1 dX7_take_30 rfl rfl ?_
  refine bs_get hC (v := .ref (bd_a ε (12 + 13))) hin_X7 8 (cX_o8 ε S5) rfl 3 (by decide) mw_106 rfl dX7_take_31 ?_
  refine bs_aload_n hC 0 dX7_take_34 rfl rfl ?_
  refine bs_get hC (v := .ref (bd_a ε (12 + 23))) hin_X7 10 (cX_o10 ε S5) rfl 3 (by decide) mw_106 rfl dX7_take_35 ?_
  refine bs_callSN_v hC (rm := ({ frames := 0, cells := 0, slots := 0, locals := 0 } : Room)) [.ref (bd_a ε (12 + 13)), .ref (bd_a ε (12 + 23))] [] (fun h => c_X9_copyRow (bd_l Γ) (bd_D Γ) ε 13 23 (by decide) (by decide) S5 h) mw_541 nm_52 mw_540 mw_72 by_X9_copyRow ⟨rfl, rfl, by decide, by decide⟩ rfl rfl (Nat.le_of_ble_eq_true rfl) dX7_take_38 (fun r6 S7 eS7 => ?_)
  refine bs_aload_n hC 1 dX7_take_41 rfl rfl ?_
  refine bs_get hC (v := .ref (bd_a ε (12 + 14))) hin_X7 8 (cX_o8 ε S7) rfl 4 (by decide) mw_107 rfl dX7_take_42 ?_
  refine bs_aload_n hC 0 dX7_take_45 rfl rfl ?_
  refine bs_get hC (v := .ref (bd_a ε (12 + 24))) hin_X7 10 (cX_o10 ε S7) rfl 4 (by decide) mw_107 rfl dX7_take_46 ?_
  refine bs_callSN_v hC (rm := ({ frames := 0, cells := 0, slots := 0, locals := 0 } : Room)) [.ref (bd_a ε (12 + 14)), .ref (bd_a ε (12 + 24))] [] (fun h => c_X9_copyRow (bd_l Γ) (bd_D Γ) ε 14 24 (by decide) (by decide) S7 h) mw_541 nm_52 mw_540 mw_72 by_X9_copyRow ⟨rfl, rfl, by decide, by decide⟩ rfl rfl (Nat.le_of_ble_eq_true rfl) dX7_take_49 (fun r8 S9 eS9 => ?_)
  refine bs_aload_n hC 1 dX7_take_52 rfl rfl ?_
  refine bs_get hC (v := .ref (bd_a ε (12 + 15))) hin_X7 8 (cX_o8 ε S9) rfl 5 (by decide) mw_108 rfl dX7_take_53 ?_
  refine bs_aload_n hC 0 dX7_take_56 rfl rfl ?_
  refine bs_get hC (v := .ref (bd_a ε (12 + 25))) hin_X7 10 (cX_o10 ε S9) rfl 5 (by decide) mw_108 rfl dX7_take_57 ?_
  refine bs_callSN_v hC (rm := ({ frames := 0, cells := 0, slots := 0, locals := 0 } : Room)) [.ref (bd_a ε (12 + 15)), .ref (bd_a ε (12 + 25))] [] (fun h => c_X9_copyRow (bd_l Γ) (bd_D Γ) ε 15 25 (by decide) (by decide) S9 h) mw_541 nm_52 mw_540 mw_72 by_X9_copyRow ⟨rfl, rfl, by decide, by decide⟩ rfl rfl (Nat.le_of_ble_eq_true rfl) dX7_take_60 (fun r10 S11 eS11 => ?_)
  refine bs_aload_n hC 1 dX7_take_63 rfl rfl ?_
  refine bs_get hC (v := .ref (bd_a ε (12 + 16))) hin_X7 8 (cX_o8 ε S11) rfl 6 (by decide) mw_109 rfl dX7_take_64 ?_
  refine bs_aload_n hC 0 dX7_take_67 rfl rfl ?_
  refine bs_get hC (v := .ref (bd_a ε (12 + 26))) hin_X7 10 (cX_o10 ε S11) rfl 6 (by decide) mw_109 rfl dX7_take_68 ?_
  refine bs_callSN_v hC (rm := ({ frames := 0, cells := 0, slots := 0, locals := 0 } : Room)) [.ref (bd_a ε (12 + 16)), .ref (bd_a ε (12 + 26))] [] (fun h => c_X9_copyRow (bd_l Γ) (bd_D Γ) ε 16 26 (by decide) (by decide) S11 h) mw_541 nm_52 mw_540 mw_72 by_X9_copyRow ⟨rfl, rfl, by decide, by decide⟩ rfl rfl (Nat.le_of_ble_eq_true rfl) dX7_take_71 (fun r12 S13 eS13 => ?_)
  exact bs_vret hC dX7_take_74 rfl
theorem c_X7_take (l : Launch) (D : va_G) (ε : bd_E)  (S : bd_T) (h0 : (f_X7_take S).isSome = true) : bd_Con l yX7_take (Cond.code yX7_take cX7_take 2 none :: bd_tbl) ({ frames := 1, cells := 0, slots := 0, locals := 22 } : Room) D ε (cX ε) bd_vv [.ref (bd_a ε 10), .ref (bd_a ε 8)] S (f_X7_take S) :=
  bd_con (by decide +kernel) (Nat.le_of_ble_eq_true rfl) ⟨rfl, rfl⟩ h0 (fun Γ _ _ hC => bs_eq bs_bs (b_X7_take hC S))
set_option maxRecDepth 100000 in
set_option maxHeartbeats 4000000 in
theorem b_X4_take {Γ : bd_G} {ε : bd_E} {t0 : Option (Unit × bd_T)} (hC : bd_C Γ cX4_take 2 RX4 none ({ frames := 1, cells := 0, slots := 0, locals := 22 } : Room) ε (cX ε) bd_vv t0)  (S : bd_T) : bd_S Γ 2 t0 ((f_X4_take S).bind some) (cX ε S) 0 [(0, .ref (bd_a ε 11)), (1, .ref (bd_a ε 9))] [] := by
  unfold f_X4_take
  refine bs_aload_n hC 0 dX4_take_0 rfl rfl ?_
  refine bs_aload_n hC 1 dX4_take_1 rfl rfl ?_
  refine bs_get hC (v := .int (bd_I S 18)) hin_X4 9 (cX_o9 ε S) rfl 0 (by decide) mw_123 rfl dX4_take_2 ?_
  refine bs_put hC (kk := 21) hin_X4 tyX4 tyX4_ok nmX4 11 (cX_o11 ε S) rfl 0 (by decide) mw_123 rfl rfl rfl (Nat.le_of_ble_eq_true rfl) (cX_p21 ε S _) dX4_take_5 (fun S1 eS1 => ?_)
  refine bs_aload_n hC 0 dX4_take_8 rfl rfl ?_
  refine bs_aload_n hC 1 dX4_take_9 rfl rfl ?_
  refine bs_get hC (v := .int (bd_I S1 19)) hin_X4 9 (cX_o9 ε S1) rfl 1 (by decide) mw_124 rfl dX4_take_10 ?_
  refine bs_put hC (kk := 22) hin_X4 tyX4 tyX4_ok nmX4 11 (cX_o11 ε S1) rfl 1 (by decide) mw_124 rfl rfl rfl (Nat.le_of_ble_eq_true rfl) (cX_p22 ε S1 _) dX4_take_13 (fun S2 eS2 => ?_)
  refine bs_aload_n hC 1 dX4_take_16 rfl rfl ?_
  refine bs_get hC (v := .ref (bd_a ε (12 + 17))) hin_X4 9 (cX_o9 ε S2) rfl 2 (by decide) mw_125 rfl dX4_take_17 ?_
  refine bs_aload_n hC 0 dX4_take_20 rfl rfl ?_
  refine bs_get hC (v := .ref (bd_a ε (12 + 27))) hin_X4 11 (cX_o11 ε S2) rfl 2 (by decide) mw_125 rfl dX4_take_21 ?_
  refine bs_callSN_v hC (rm := ({ frames := 0, cells := 0, slots := 0, locals := 0 } : Room)) [.ref (bd_a ε (12 + 17)), .ref (bd_a ε (12 + 27))] [] (fun h => c_X9_copyRow (bd_l Γ) (bd_D Γ) ε 17 27 (by decide) (by decide) S2 h) mw_541 nm_54 mw_540 mw_72 by_X9_copyRow ⟨rfl, rfl, by decide, by decide⟩ rfl rfl (Nat.le_of_ble_eq_true rfl) dX4_take_24 (fun r3 S4 eS4 => ?_)
  refine bs_aload_n hC 1 dX4_take_27 rfl rfl ?_
  refine bs_get hC (v := .ref (bd_a ε (12 + 18))) hin_X4 9 (cX_o9 ε S4) rfl 3 (by decide) mw_126 rfl dX4_take_28 ?_
  refine bs_aload_n hC 0 dX4_take_31 rfl rfl ?_
  refine bs_get hC (v := .ref (bd_a ε (12 + 28))) hin_X4 11 (cX_o11 ε S4) rfl 3 (by decide) mw_126 rfl dX4_take_32 ?_
  refine bs_callSN_v hC (rm := ({ frames := 0, cells := 0, slots := 0, locals := 0 } : Room)) [.ref (bd_a ε (12 + 18)), .ref (bd_a ε (12 + 28))] [] (fun h => c_X9_copyRow (bd_l Γ) (bd_D Γ) ε 18 28 (by decide) (by decide) S4 h) mw_541 nm_54 mw_540 mw_72 by_X9_copyRow ⟨rfl, rfl, by decide, by decide⟩ rfl rfl (Nat.le_of_ble_eq_true rfl) dX4_take_35 (fun r5 S6 eS6 => ?_)
  refine bs_aload_n hC 1 dX4_take_38 rfl rfl ?_
  refine bs_get hC (v := .ref (bd_a ε (12 + 19))) hin_X4 9 (cX_o9 ε S6) rfl 4 (by decide) mw_127 rfl dX4_take_39 ?_
  refine bs_aload_n hC 0 dX4_take_42 rfl rfl ?_
  refine bs_get hC (v := .ref (bd_a ε (12 + 29))) hin_X4 11 (cX_o11 ε S6) rfl 4 (by decide) mw_127 rfl dX4_take_43 ?_
  refine bs_callSN_v hC (rm := ({ frames := 0, cells := 0, slots := 0, locals := 0 } : Room)) [.ref (bd_a ε (12 + 19)), .ref (bd_a ε (12 + 29))] [] (fun h => c_X9_copyRow (bd_l Γ) (bd_D Γ) ε 19 29 (by decide) (by decide) S6 h) mw_541 nm_54 mw_540 mw_72 by_X9_copyRow ⟨rfl, rfl, by decide, by decide⟩ rfl rfl (Nat.le_of_ble_eq_true rfl) dX4_take_46 (fun r7 S8 eS8 => ?_)
  refine bs_aload_n hC 1 dX4_take_49 rfl rfl ?_
  refine bs_get hC (v := .ref (bd_a ε (12 + 20))) hin_X4 9 (cX_o9 ε S8) rfl 5 (by decide) mw_128 rfl dX4_take_50 ?_
  refine bs_aload_n hC 0 dX4_take_53 rfl rfl ?_
  refine bs_get hC (v := .ref (bd_a ε (12 + 30))) hin_X4 11 (cX_o11 ε S8) rfl 5 (by decide) mw_128 rfl dX4_take_54 ?_
  refine bs_callSN_v hC (rm := ({ frames := 0, cells := 0, slots := 0, locals := 0 } : Room)) [.ref (bd_a ε (12 + 20)), .ref (bd_a ε (12 + 30))] [] (fun h => c_X9_copyRow (bd_l Γ) (bd_D Γ) ε 20 30 (by decide) (by decide) S8 h) mw_541 nm_54 mw_540 mw_72 by_X9_copyRow ⟨rfl, rfl, by decide, by decide⟩ rfl rfl (Nat.le_of_ble_eq_true rfl) dX4_take_57 (fun r9 S10 eS10 => ?_)
  exact bs_vret hC dX4_take_60 rfl
theorem c_X4_take (l : Launch) (D : va_G) (ε : bd_E)  (S : bd_T) (h0 : (f_X4_take S).isSome = true) : bd_Con l yX4_take (Cond.code yX4_take cX4_take 2 none :: bd_tbl) ({ frames := 1, cells := 0, slots := 0, locals := 22 } : Room) D ε (cX ε) bd_vv [.ref (bd_a ε 11), .ref (bd_a ε 9)] S (f_X4_take S) :=
  bd_con (by decide +kernel) (Nat.le_of_ble_eq_true rfl) ⟨rfl, rfl⟩ h0 (fun Γ _ _ hC => bs_eq bs_bs (b_X4_take hC S))
set_option maxRecDepth 100000 in
set_option maxHeartbeats 4000000 in
theorem b_X8_open_b1 {Γ : bd_G} {ε : bd_E} {t0 : Option (Unit × bd_T)} (hC : bd_C Γ cX8_open 3 RX8 none ({ frames := 0, cells := 0, slots := 0, locals := 0 } : Room) ε (cX ε) bd_vv t0) (x1 : Int32) (x2 : Int32)  (S : bd_T) : bd_S Γ 3 t0 ((f_X8_open_b1 x1 x2 S).bind some) (cX ε S) 0 [(0, .ref (bd_a ε 2)), (1, .int x1), (2, .int x2)] [] := by
  unfold f_X8_open_b1
  refine bs_aload_n hC 0 dX8_open_0 rfl rfl ?_
  refine bs_iload_n hC 1 dX8_open_1 rfl rfl ?_
  refine bs_put hC (kk := 7) hin_X8 tyX8 tyX8_ok nmX8 2 (cX_o2 ε S) rfl 3 (by decide) mw_138 rfl rfl rfl (Nat.le_of_ble_eq_true rfl) (cX_p7 ε S _) dX8_open_2 (fun S1 eS1 => ?_)
  refine bs_aload_n hC 0 dX8_open_5 rfl rfl ?_
  refine bs_iload_n hC 2 dX8_open_6 rfl rfl ?_
  refine bs_put hC (kk := 8) hin_X8 tyX8 tyX8_ok nmX8 2 (cX_o2 ε S1) rfl 4 (by decide) mw_139 rfl rfl rfl (Nat.le_of_ble_eq_true rfl) (cX_p8 ε S1 _) dX8_open_7 (fun S2 eS2 => ?_)
  exact bs_vret hC dX8_open_10 rfl
theorem c_X8_open_b1 (l : Launch) (D : va_G) (ε : bd_E) (x1 : Int32) (x2 : Int32)  (S : bd_T) (h0 : (f_X8_open_b1 x1 x2 S).isSome = true) : bd_Con l yX8_open (Cond.code yX8_open cX8_open 3 none :: bd_tbl) ({ frames := 0, cells := 0, slots := 0, locals := 0 } : Room) D ε (cX ε) bd_vv [.ref (bd_a ε 2), .int x1, .int x2] S (f_X8_open_b1 x1 x2 S) :=
  bd_con (by decide +kernel) (Nat.le_of_ble_eq_true rfl) ⟨rfl, rfl⟩ h0 (fun Γ _ _ hC => bs_eq bs_bs (b_X8_open_b1 hC x1 x2 S))
set_option maxRecDepth 100000 in
set_option maxHeartbeats 4000000 in
theorem b_X8_take {Γ : bd_G} {ε : bd_E} {t0 : Option (Unit × bd_T)} (hC : bd_C Γ cX8_take 2 RX8 none ({ frames := 2, cells := 0, slots := 0, locals := 43 } : Room) ε (cX ε) bd_vv t0)  (S : bd_T) : bd_S Γ 2 t0 ((f_X8_take S).bind some) (cX ε S) 0 [(0, .ref (bd_a ε 2)), (1, .ref (bd_a ε 1))] [] := by
  unfold f_X8_take
  refine bs_aload_n hC 0 dX8_take_0 rfl rfl ?_
  refine bs_get hC (v := .ref (bd_a ε 10)) hin_X8 2 (cX_o2 ε S) rfl 0 (by decide) mw_135 rfl dX8_take_1 ?_
  refine bs_aload_n hC 1 dX8_take_4 rfl rfl ?_
  refine bs_get hC (v := .ref (bd_a ε 8)) hin_X8 1 (cX_o1 ε S) rfl 0 (by decide) mw_135 rfl dX8_take_5 ?_
  refine bs_callVN_v hC (rm := ({ frames := 1, cells := 0, slots := 0, locals := 22 } : Room)) [.ref (bd_a ε 8)] [] (fun h => c_X7_take (bd_l Γ) (bd_D Γ) ε S h) mw_539 nm_51 mw_538 mw_74 mw_45 (cX_o10 ε S) rfl by_X7_take ⟨rfl, rfl, by decide, by decide⟩ rfl rfl (Nat.le_of_ble_eq_true rfl) dX8_take_8 (fun r1 S2 eS2 => ?_)
  refine bs_aload_n hC 0 dX8_take_11 rfl rfl ?_
  refine bs_get hC (v := .ref (bd_a ε 11)) hin_X8 2 (cX_o2 ε S2) rfl 1 (by decide) mw_136 rfl dX8_take_12 ?_
  refine bs_aload_n hC 1 dX8_take_15 rfl rfl ?_
  refine bs_get hC (v := .ref (bd_a ε 9)) hin_X8 1 (cX_o1 ε S2) rfl 1 (by decide) mw_136 rfl dX8_take_16 ?_
  refine bs_callVN_v hC (rm := ({ frames := 1, cells := 0, slots := 0, locals := 22 } : Room)) [.ref (bd_a ε 9)] [] (fun h => c_X4_take (bd_l Γ) (bd_D Γ) ε S2 h) mw_543 nm_53 mw_542 mw_75 mw_46 (cX_o11 ε S2) rfl by_X4_take ⟨rfl, rfl, by decide, by decide⟩ rfl rfl (Nat.le_of_ble_eq_true rfl) dX8_take_19 (fun r3 S4 eS4 => ?_)
  refine bs_aload_n hC 0 dX8_take_22 rfl rfl ?_
  refine bs_aload_n hC 1 dX8_take_23 rfl rfl ?_
  refine bs_get hC (v := .int (bd_I S4 2)) hin_X8 1 (cX_o1 ε S4) rfl 2 (by decide) mw_137 rfl dX8_take_24 ?_
  refine bs_put hC (kk := 6) hin_X8 tyX8 tyX8_ok nmX8 2 (cX_o2 ε S4) rfl 2 (by decide) mw_137 rfl rfl rfl (Nat.le_of_ble_eq_true rfl) (cX_p6 ε S4 _) dX8_take_27 (fun S5 eS5 => ?_)
  refine bs_aload_n hC 0 dX8_take_30 rfl rfl ?_
  refine bs_aload_n hC 1 dX8_take_31 rfl rfl ?_
  refine bs_get hC (v := .int (bd_I S5 3)) hin_X8 1 (cX_o1 ε S5) rfl 3 (by decide) mw_138 rfl dX8_take_32 ?_
  refine bs_aload_n hC 1 dX8_take_35 rfl rfl ?_
  refine bs_get hC (v := .int (bd_I S5 4)) hin_X8 1 (cX_o1 ε S5) rfl 4 (by decide) mw_139 rfl dX8_take_36 ?_
  refine bs_callV_v hC (rm := ({ frames := 0, cells := 0, slots := 0, locals := 0 } : Room)) [.int (bd_I S5 3), .int (bd_I S5 4)] [] (fun h => c_X8_open_b1 (bd_l Γ) (bd_D Γ) ε (bd_I S5 3) (bd_I S5 4) S5 h) mw_284 mw_282 mw_283 mw_73 mw_10 (cX_o2 ε S5) rfl by_X8_open ⟨rfl, rfl, by decide, by decide⟩ rfl rfl (Nat.le_of_ble_eq_true rfl) dX8_take_39 (fun r6 S7 eS7 => ?_)
  refine bs_aload_n hC 0 dX8_take_42 rfl rfl ?_
  refine bs_aload_n hC 1 dX8_take_43 rfl rfl ?_
  refine bs_get hC (v := .int (bd_I S7 5)) hin_X8 1 (cX_o1 ε S7) rfl 5 (by decide) mw_140 rfl dX8_take_44 ?_
  refine bs_put hC (kk := 9) hin_X8 tyX8 tyX8_ok nmX8 2 (cX_o2 ε S7) rfl 5 (by decide) mw_140 rfl rfl rfl (Nat.le_of_ble_eq_true rfl) (cX_p9 ε S7 _) dX8_take_47 (fun S8 eS8 => ?_)
  refine bs_aload_n hC 1 dX8_take_50 rfl rfl ?_
  refine bs_get hC (v := .ref (bd_a ε (12 + 2))) hin_X8 1 (cX_o1 ε S8) rfl 6 (by decide) mw_141 rfl dX8_take_51 ?_
  refine bs_aload_n hC 0 dX8_take_54 rfl rfl ?_
  refine bs_get hC (v := .ref (bd_a ε (12 + 5))) hin_X8 2 (cX_o2 ε S8) rfl 6 (by decide) mw_141 rfl dX8_take_55 ?_
  refine bs_callSN_v hC (rm := ({ frames := 0, cells := 0, slots := 0, locals := 0 } : Room)) [.ref (bd_a ε (12 + 2)), .ref (bd_a ε (12 + 5))] [] (fun h => c_X9_copyRow (bd_l Γ) (bd_D Γ) ε 2 5 (by decide) (by decide) S8 h) mw_541 nm_55 mw_540 mw_72 by_X9_copyRow ⟨rfl, rfl, by decide, by decide⟩ rfl rfl (Nat.le_of_ble_eq_true rfl) dX8_take_58 (fun r9 S10 eS10 => ?_)
  refine bs_aload_n hC 1 dX8_take_61 rfl rfl ?_
  refine bs_get hC (v := .ref (bd_a ε (12 + 3))) hin_X8 1 (cX_o1 ε S10) rfl 7 (by decide) mw_142 rfl dX8_take_62 ?_
  refine bs_aload_n hC 0 dX8_take_65 rfl rfl ?_
  refine bs_get hC (v := .ref (bd_a ε (12 + 6))) hin_X8 2 (cX_o2 ε S10) rfl 7 (by decide) mw_142 rfl dX8_take_66 ?_
  refine bs_callSN_v hC (rm := ({ frames := 0, cells := 0, slots := 0, locals := 0 } : Room)) [.ref (bd_a ε (12 + 3)), .ref (bd_a ε (12 + 6))] [] (fun h => c_X9_copyRow (bd_l Γ) (bd_D Γ) ε 3 6 (by decide) (by decide) S10 h) mw_541 nm_55 mw_540 mw_72 by_X9_copyRow ⟨rfl, rfl, by decide, by decide⟩ rfl rfl (Nat.le_of_ble_eq_true rfl) dX8_take_69 (fun r11 S12 eS12 => ?_)
  exact bs_vret hC dX8_take_72 rfl
theorem c_X8_take (l : Launch) (D : va_G) (ε : bd_E)  (S : bd_T) (h0 : (f_X8_take S).isSome = true) : bd_Con l yX8_take (Cond.code yX8_take cX8_take 2 none :: bd_tbl) ({ frames := 2, cells := 0, slots := 0, locals := 43 } : Room) D ε (cX ε) bd_vv [.ref (bd_a ε 2), .ref (bd_a ε 1)] S (f_X8_take S) :=
  bd_con (by decide +kernel) (Nat.le_of_ble_eq_true rfl) ⟨rfl, rfl⟩ h0 (fun Γ _ _ hC => bs_eq bs_bs (b_X8_take hC S))
set_option maxRecDepth 100000 in
set_option maxHeartbeats 4000000 in
theorem b_X9_image {Γ : bd_G} {ε : bd_E} {t0 : Option (Int32 × bd_T)} (hC : bd_C Γ cX9_image 1 RX9 (some .int) ({ frames := 3, cells := 0, slots := 0, locals := 64 } : Room) ε (cX ε) bd_vi t0)  (S : bd_T) : bd_S Γ 1 t0 ((f_X9_image S).bind some) (cX ε S) 0 [(0, .ref (bd_a ε 0))] [] := by
  unfold f_X9_image
  refine bs_aload_n hC 0 dX9_image_0 rfl rfl ?_
  refine bs_get hC (v := .ref (bd_a ε 2)) hin_X9 0 (cX_o0 ε S) rfl 1 (by decide) mw_207 rfl dX9_image_1 ?_
  refine bs_aload_n hC 0 dX9_image_4 rfl rfl ?_
  refine bs_get hC (v := .ref (bd_a ε 1)) hin_X9 0 (cX_o0 ε S) rfl 0 (by decide) mw_206 rfl dX9_image_5 ?_
  refine bs_callVN_v hC (rm := ({ frames := 2, cells := 0, slots := 0, locals := 43 } : Room)) [.ref (bd_a ε 1)] [] (fun h => c_X8_take (bd_l Γ) (bd_D Γ) ε S h) mw_537 nm_50 mw_536 mw_73 mw_44 (cX_o2 ε S) rfl by_X8_take ⟨rfl, rfl, by decide, by decide⟩ rfl rfl (Nat.le_of_ble_eq_true rfl) dX9_image_8 (fun r1 S2 eS2 => ?_)
  refine bs_aload_n hC 0 dX9_image_11 rfl rfl ?_
  refine bs_iconst hC (1 : Int32) dX9_image_12 rfl ?_
  refine bs_put hC (kk := 0) hin_X9 tyX9 tyX9_ok nmX9 0 (cX_o0 ε S2) rfl 2 (by decide) mw_208 rfl rfl rfl (Nat.le_of_ble_eq_true rfl) (cX_p0 ε S2 _) dX9_image_13 (fun S3 eS3 => ?_)
  refine bs_aload_n hC 0 dX9_image_16 rfl rfl ?_
  refine bs_get hC (v := .ref (bd_a ε 1)) hin_X9 0 (cX_o0 ε S3) rfl 0 (by decide) mw_206 rfl dX9_image_17 ?_
  refine bs_getN hC (v := .ref (bd_a ε 8)) hin_X8 1 (cX_o1 ε S3) rfl 0 (by decide) nf_18 rfl dX9_image_20 ?_
  refine bs_getN hC (v := .int (bd_I S3 17)) hin_X7 8 (cX_o8 ε S3) rfl 0 (by decide) nf_0 rfl dX9_image_23 ?_
  exact bs_iret hC dX9_image_26 rfl
theorem c_X9_image (l : Launch) (D : va_G) (ε : bd_E)  (S : bd_T) (h0 : (f_X9_image S).isSome = true) : bd_Con l yX9_image (Cond.code yX9_image cX9_image 1 (some .int) :: bd_tbl) ({ frames := 3, cells := 0, slots := 0, locals := 64 } : Room) D ε (cX ε) bd_vi [.ref (bd_a ε 0)] S (f_X9_image S) :=
  bd_con (by decide +kernel) (Nat.le_of_ble_eq_true rfl) ⟨rfl, rfl⟩ h0 (fun Γ _ _ hC => bs_eq bs_bs (b_X9_image hC S))
set_option maxRecDepth 100000 in
set_option maxHeartbeats 4000000 in
theorem b_X7_take_b1 {Γ : bd_G} {ε : bd_E} {t0 : Option (Unit × bd_T)} (hC : bd_C Γ cX7_take 2 RX7 none ({ frames := 1, cells := 0, slots := 0, locals := 22 } : Room) ε (cX ε) bd_vv t0)  (S : bd_T) : bd_S Γ 2 t0 ((f_X7_take_b1 S).bind some) (cX ε S) 0 [(0, .ref (bd_a ε 8)), (1, .ref (bd_a ε 10))] [] := by
  unfold f_X7_take_b1
  refine bs_aload_n hC 0 dX7_take_0 rfl rfl ?_
  refine bs_aload_n hC 1 dX7_take_1 rfl rfl ?_
  refine bs_get hC (v := .int (bd_I S 20)) hin_X7 10 (cX_o10 ε S) rfl 0 (by decide) mw_103 rfl dX7_take_2 ?_
  refine bs_put hC (kk := 17) hin_X7 tyX7 tyX7_ok nmX7 8 (cX_o8 ε S) rfl 0 (by decide) mw_103 rfl rfl rfl (Nat.le_of_ble_eq_true rfl) (cX_p17 ε S _) dX7_take_5 (fun S1 eS1 => ?_)
  refine bs_aload_n hC 1 dX7_take_8 rfl rfl ?_
  refine bs_get hC (v := .ref (bd_a ε (12 + 21))) hin_X7 10 (cX_o10 ε S1) rfl 1 (by decide) mw_104 rfl dX7_take_9 ?_
  refine bs_aload_n hC 0 dX7_take_12 rfl rfl ?_
  refine bs_get hC (v := .ref (bd_a ε (12 + 11))) hin_X7 8 (cX_o8 ε S1) rfl 1 (by decide) mw_104 rfl dX7_take_13 ?_
  refine bs_callSN_v hC (rm := ({ frames := 0, cells := 0, slots := 0, locals := 0 } : Room)) [.ref (bd_a ε (12 + 21)), .ref (bd_a ε (12 + 11))] [] (fun h => c_X9_copyRow (bd_l Γ) (bd_D Γ) ε 21 11 (by decide) (by decide) S1 h) mw_541 nm_52 mw_540 mw_72 by_X9_copyRow ⟨rfl, rfl, by decide, by decide⟩ rfl rfl (Nat.le_of_ble_eq_true rfl) dX7_take_16 (fun r2 S3 eS3 => ?_)
  refine bs_aload_n hC 1 dX7_take_19 rfl rfl ?_
  refine bs_get hC (v := .ref (bd_a ε (12 + 22))) hin_X7 10 (cX_o10 ε S3) rfl 2 (by decide) mw_105 rfl dX7_take_20 ?_
  refine bs_aload_n hC 0 dX7_take_23 rfl rfl ?_
  refine bs_get hC (v := .ref (bd_a ε (12 + 12))) hin_X7 8 (cX_o8 ε S3) rfl 2 (by decide) mw_105 rfl dX7_take_24 ?_
  refine bs_callSN_v hC (rm := ({ frames := 0, cells := 0, slots := 0, locals := 0 } : Room)) [.ref (bd_a ε (12 + 22)), .ref (bd_a ε (12 + 12))] [] (fun h => c_X9_copyRow (bd_l Γ) (bd_D Γ) ε 22 12 (by decide) (by decide) S3 h) mw_541 nm_52 mw_540 mw_72 by_X9_copyRow ⟨rfl, rfl, by decide, by decide⟩ rfl rfl (Nat.le_of_ble_eq_true rfl) dX7_take_27 (fun r4 S5 eS5 => ?_)
  refine bs_aload_n hC 1 dX7_take_30 rfl rfl ?_
  refine bs_get hC (v := .ref (bd_a ε (12 + 23))) hin_X7 10 (cX_o10 ε S5) rfl 3 (by decide) mw_106 rfl dX7_take_31 ?_
  refine bs_aload_n hC 0 dX7_take_34 rfl rfl ?_
  refine bs_get hC (v := .ref (bd_a ε (12 + 13))) hin_X7 8 (cX_o8 ε S5) rfl 3 (by decide) mw_106 rfl dX7_take_35 ?_
  refine bs_callSN_v hC (rm := ({ frames := 0, cells := 0, slots := 0, locals := 0 } : Room)) [.ref (bd_a ε (12 + 23)), .ref (bd_a ε (12 + 13))] [] (fun h => c_X9_copyRow (bd_l Γ) (bd_D Γ) ε 23 13 (by decide) (by decide) S5 h) mw_541 nm_52 mw_540 mw_72 by_X9_copyRow ⟨rfl, rfl, by decide, by decide⟩ rfl rfl (Nat.le_of_ble_eq_true rfl) dX7_take_38 (fun r6 S7 eS7 => ?_)
  refine bs_aload_n hC 1 dX7_take_41 rfl rfl ?_
  refine bs_get hC (v := .ref (bd_a ε (12 + 24))) hin_X7 10 (cX_o10 ε S7) rfl 4 (by decide) mw_107 rfl dX7_take_42 ?_
  refine bs_aload_n hC 0 dX7_take_45 rfl rfl ?_
  refine bs_get hC (v := .ref (bd_a ε (12 + 14))) hin_X7 8 (cX_o8 ε S7) rfl 4 (by decide) mw_107 rfl dX7_take_46 ?_
  refine bs_callSN_v hC (rm := ({ frames := 0, cells := 0, slots := 0, locals := 0 } : Room)) [.ref (bd_a ε (12 + 24)), .ref (bd_a ε (12 + 14))] [] (fun h => c_X9_copyRow (bd_l Γ) (bd_D Γ) ε 24 14 (by decide) (by decide) S7 h) mw_541 nm_52 mw_540 mw_72 by_X9_copyRow ⟨rfl, rfl, by decide, by decide⟩ rfl rfl (Nat.le_of_ble_eq_true rfl) dX7_take_49 (fun r8 S9 eS9 => ?_)
  refine bs_aload_n hC 1 dX7_take_52 rfl rfl ?_
  refine bs_get hC (v := .ref (bd_a ε (12 + 25))) hin_X7 10 (cX_o10 ε S9) rfl 5 (by decide) mw_108 rfl dX7_take_53 ?_
  refine bs_aload_n hC 0 dX7_take_56 rfl rfl ?_
  refine bs_get hC (v := .ref (bd_a ε (12 + 15))) hin_X7 8 (cX_o8 ε S9) rfl 5 (by decide) mw_108 rfl dX7_take_57 ?_
  refine bs_callSN_v hC (rm := ({ frames := 0, cells := 0, slots := 0, locals := 0 } : Room)) [.ref (bd_a ε (12 + 25)), .ref (bd_a ε (12 + 15))] [] (fun h => c_X9_copyRow (bd_l Γ) (bd_D Γ) ε 25 15 (by decide) (by decide) S9 h) mw_541 nm_52 mw_540 mw_72 by_X9_copyRow ⟨rfl, rfl, by decide, by decide⟩ rfl rfl (Nat.le_of_ble_eq_true rfl) dX7_take_60 (fun r10 S11 eS11 => ?_)
  refine bs_aload_n hC 1 dX7_take_63 rfl rfl ?_
  refine bs_get hC (v := .ref (bd_a ε (12 + 26))) hin_X7 10 (cX_o10 ε S11) rfl 6 (by decide) mw_109 rfl dX7_take_64 ?_
  refine bs_aload_n hC 0 dX7_take_67 rfl rfl ?_
  refine bs_get hC (v := .ref (bd_a ε (12 + 16))) hin_X7 8 (cX_o8 ε S11) rfl 6 (by decide) mw_109 rfl dX7_take_68 ?_
  refine bs_callSN_v hC (rm := ({ frames := 0, cells := 0, slots := 0, locals := 0 } : Room)) [.ref (bd_a ε (12 + 26)), .ref (bd_a ε (12 + 16))] [] (fun h => c_X9_copyRow (bd_l Γ) (bd_D Γ) ε 26 16 (by decide) (by decide) S11 h) mw_541 nm_52 mw_540 mw_72 by_X9_copyRow ⟨rfl, rfl, by decide, by decide⟩ rfl rfl (Nat.le_of_ble_eq_true rfl) dX7_take_71 (fun r12 S13 eS13 => ?_)
  exact bs_vret hC dX7_take_74 rfl
theorem c_X7_take_b1 (l : Launch) (D : va_G) (ε : bd_E)  (S : bd_T) (h0 : (f_X7_take_b1 S).isSome = true) : bd_Con l yX7_take (Cond.code yX7_take cX7_take 2 none :: bd_tbl) ({ frames := 1, cells := 0, slots := 0, locals := 22 } : Room) D ε (cX ε) bd_vv [.ref (bd_a ε 8), .ref (bd_a ε 10)] S (f_X7_take_b1 S) :=
  bd_con (by decide +kernel) (Nat.le_of_ble_eq_true rfl) ⟨rfl, rfl⟩ h0 (fun Γ _ _ hC => bs_eq bs_bs (b_X7_take_b1 hC S))
set_option maxRecDepth 100000 in
set_option maxHeartbeats 4000000 in
theorem b_X4_take_b1 {Γ : bd_G} {ε : bd_E} {t0 : Option (Unit × bd_T)} (hC : bd_C Γ cX4_take 2 RX4 none ({ frames := 1, cells := 0, slots := 0, locals := 22 } : Room) ε (cX ε) bd_vv t0)  (S : bd_T) : bd_S Γ 2 t0 ((f_X4_take_b1 S).bind some) (cX ε S) 0 [(0, .ref (bd_a ε 9)), (1, .ref (bd_a ε 11))] [] := by
  unfold f_X4_take_b1
  refine bs_aload_n hC 0 dX4_take_0 rfl rfl ?_
  refine bs_aload_n hC 1 dX4_take_1 rfl rfl ?_
  refine bs_get hC (v := .int (bd_I S 21)) hin_X4 11 (cX_o11 ε S) rfl 0 (by decide) mw_123 rfl dX4_take_2 ?_
  refine bs_put hC (kk := 18) hin_X4 tyX4 tyX4_ok nmX4 9 (cX_o9 ε S) rfl 0 (by decide) mw_123 rfl rfl rfl (Nat.le_of_ble_eq_true rfl) (cX_p18 ε S _) dX4_take_5 (fun S1 eS1 => ?_)
  refine bs_aload_n hC 0 dX4_take_8 rfl rfl ?_
  refine bs_aload_n hC 1 dX4_take_9 rfl rfl ?_
  refine bs_get hC (v := .int (bd_I S1 22)) hin_X4 11 (cX_o11 ε S1) rfl 1 (by decide) mw_124 rfl dX4_take_10 ?_
  refine bs_put hC (kk := 19) hin_X4 tyX4 tyX4_ok nmX4 9 (cX_o9 ε S1) rfl 1 (by decide) mw_124 rfl rfl rfl (Nat.le_of_ble_eq_true rfl) (cX_p19 ε S1 _) dX4_take_13 (fun S2 eS2 => ?_)
  refine bs_aload_n hC 1 dX4_take_16 rfl rfl ?_
  refine bs_get hC (v := .ref (bd_a ε (12 + 27))) hin_X4 11 (cX_o11 ε S2) rfl 2 (by decide) mw_125 rfl dX4_take_17 ?_
  refine bs_aload_n hC 0 dX4_take_20 rfl rfl ?_
  refine bs_get hC (v := .ref (bd_a ε (12 + 17))) hin_X4 9 (cX_o9 ε S2) rfl 2 (by decide) mw_125 rfl dX4_take_21 ?_
  refine bs_callSN_v hC (rm := ({ frames := 0, cells := 0, slots := 0, locals := 0 } : Room)) [.ref (bd_a ε (12 + 27)), .ref (bd_a ε (12 + 17))] [] (fun h => c_X9_copyRow (bd_l Γ) (bd_D Γ) ε 27 17 (by decide) (by decide) S2 h) mw_541 nm_54 mw_540 mw_72 by_X9_copyRow ⟨rfl, rfl, by decide, by decide⟩ rfl rfl (Nat.le_of_ble_eq_true rfl) dX4_take_24 (fun r3 S4 eS4 => ?_)
  refine bs_aload_n hC 1 dX4_take_27 rfl rfl ?_
  refine bs_get hC (v := .ref (bd_a ε (12 + 28))) hin_X4 11 (cX_o11 ε S4) rfl 3 (by decide) mw_126 rfl dX4_take_28 ?_
  refine bs_aload_n hC 0 dX4_take_31 rfl rfl ?_
  refine bs_get hC (v := .ref (bd_a ε (12 + 18))) hin_X4 9 (cX_o9 ε S4) rfl 3 (by decide) mw_126 rfl dX4_take_32 ?_
  refine bs_callSN_v hC (rm := ({ frames := 0, cells := 0, slots := 0, locals := 0 } : Room)) [.ref (bd_a ε (12 + 28)), .ref (bd_a ε (12 + 18))] [] (fun h => c_X9_copyRow (bd_l Γ) (bd_D Γ) ε 28 18 (by decide) (by decide) S4 h) mw_541 nm_54 mw_540 mw_72 by_X9_copyRow ⟨rfl, rfl, by decide, by decide⟩ rfl rfl (Nat.le_of_ble_eq_true rfl) dX4_take_35 (fun r5 S6 eS6 => ?_)
  refine bs_aload_n hC 1 dX4_take_38 rfl rfl ?_
  refine bs_get hC (v := .ref (bd_a ε (12 + 29))) hin_X4 11 (cX_o11 ε S6) rfl 4 (by decide) mw_127 rfl dX4_take_39 ?_
  refine bs_aload_n hC 0 dX4_take_42 rfl rfl ?_
  refine bs_get hC (v := .ref (bd_a ε (12 + 19))) hin_X4 9 (cX_o9 ε S6) rfl 4 (by decide) mw_127 rfl dX4_take_43 ?_
  refine bs_callSN_v hC (rm := ({ frames := 0, cells := 0, slots := 0, locals := 0 } : Room)) [.ref (bd_a ε (12 + 29)), .ref (bd_a ε (12 + 19))] [] (fun h => c_X9_copyRow (bd_l Γ) (bd_D Γ) ε 29 19 (by decide) (by decide) S6 h) mw_541 nm_54 mw_540 mw_72 by_X9_copyRow ⟨rfl, rfl, by decide, by decide⟩ rfl rfl (Nat.le_of_ble_eq_true rfl) dX4_take_46 (fun r7 S8 eS8 => ?_)
  refine bs_aload_n hC 1 dX4_take_49 rfl rfl ?_
  refine bs_get hC (v := .ref (bd_a ε (12 + 30))) hin_X4 11 (cX_o11 ε S8) rfl 5 (by decide) mw_128 rfl dX4_take_50 ?_
  refine bs_aload_n hC 0 dX4_take_53 rfl rfl ?_
  refine bs_get hC (v := .ref (bd_a ε (12 + 20))) hin_X4 9 (cX_o9 ε S8) rfl 5 (by decide) mw_128 rfl dX4_take_54 ?_
  refine bs_callSN_v hC (rm := ({ frames := 0, cells := 0, slots := 0, locals := 0 } : Room)) [.ref (bd_a ε (12 + 30)), .ref (bd_a ε (12 + 20))] [] (fun h => c_X9_copyRow (bd_l Γ) (bd_D Γ) ε 30 20 (by decide) (by decide) S8 h) mw_541 nm_54 mw_540 mw_72 by_X9_copyRow ⟨rfl, rfl, by decide, by decide⟩ rfl rfl (Nat.le_of_ble_eq_true rfl) dX4_take_57 (fun r9 S10 eS10 => ?_)
  exact bs_vret hC dX4_take_60 rfl
theorem c_X4_take_b1 (l : Launch) (D : va_G) (ε : bd_E)  (S : bd_T) (h0 : (f_X4_take_b1 S).isSome = true) : bd_Con l yX4_take (Cond.code yX4_take cX4_take 2 none :: bd_tbl) ({ frames := 1, cells := 0, slots := 0, locals := 22 } : Room) D ε (cX ε) bd_vv [.ref (bd_a ε 9), .ref (bd_a ε 11)] S (f_X4_take_b1 S) :=
  bd_con (by decide +kernel) (Nat.le_of_ble_eq_true rfl) ⟨rfl, rfl⟩ h0 (fun Γ _ _ hC => bs_eq bs_bs (b_X4_take_b1 hC S))
set_option maxRecDepth 100000 in
set_option maxHeartbeats 4000000 in
theorem b_X8_take_b1 {Γ : bd_G} {ε : bd_E} {t0 : Option (Unit × bd_T)} (hC : bd_C Γ cX8_take 2 RX8 none ({ frames := 2, cells := 0, slots := 0, locals := 43 } : Room) ε (cX ε) bd_vv t0)  (S : bd_T) : bd_S Γ 2 t0 ((f_X8_take_b1 S).bind some) (cX ε S) 0 [(0, .ref (bd_a ε 1)), (1, .ref (bd_a ε 2))] [] := by
  unfold f_X8_take_b1
  refine bs_aload_n hC 0 dX8_take_0 rfl rfl ?_
  refine bs_get hC (v := .ref (bd_a ε 8)) hin_X8 1 (cX_o1 ε S) rfl 0 (by decide) mw_135 rfl dX8_take_1 ?_
  refine bs_aload_n hC 1 dX8_take_4 rfl rfl ?_
  refine bs_get hC (v := .ref (bd_a ε 10)) hin_X8 2 (cX_o2 ε S) rfl 0 (by decide) mw_135 rfl dX8_take_5 ?_
  refine bs_callVN_v hC (rm := ({ frames := 1, cells := 0, slots := 0, locals := 22 } : Room)) [.ref (bd_a ε 10)] [] (fun h => c_X7_take_b1 (bd_l Γ) (bd_D Γ) ε S h) mw_539 nm_51 mw_538 mw_74 mw_45 (cX_o8 ε S) rfl by_X7_take ⟨rfl, rfl, by decide, by decide⟩ rfl rfl (Nat.le_of_ble_eq_true rfl) dX8_take_8 (fun r1 S2 eS2 => ?_)
  refine bs_aload_n hC 0 dX8_take_11 rfl rfl ?_
  refine bs_get hC (v := .ref (bd_a ε 9)) hin_X8 1 (cX_o1 ε S2) rfl 1 (by decide) mw_136 rfl dX8_take_12 ?_
  refine bs_aload_n hC 1 dX8_take_15 rfl rfl ?_
  refine bs_get hC (v := .ref (bd_a ε 11)) hin_X8 2 (cX_o2 ε S2) rfl 1 (by decide) mw_136 rfl dX8_take_16 ?_
  refine bs_callVN_v hC (rm := ({ frames := 1, cells := 0, slots := 0, locals := 22 } : Room)) [.ref (bd_a ε 11)] [] (fun h => c_X4_take_b1 (bd_l Γ) (bd_D Γ) ε S2 h) mw_543 nm_53 mw_542 mw_75 mw_46 (cX_o9 ε S2) rfl by_X4_take ⟨rfl, rfl, by decide, by decide⟩ rfl rfl (Nat.le_of_ble_eq_true rfl) dX8_take_19 (fun r3 S4 eS4 => ?_)
  refine bs_aload_n hC 0 dX8_take_22 rfl rfl ?_
  refine bs_aload_n hC 1 dX8_take_23 rfl rfl ?_
  refine bs_get hC (v := .int (bd_I S4 6)) hin_X8 2 (cX_o2 ε S4) rfl 2 (by decide) mw_137 rfl dX8_take_24 ?_
  refine bs_put hC (kk := 2) hin_X8 tyX8 tyX8_ok nmX8 1 (cX_o1 ε S4) rfl 2 (by decide) mw_137 rfl rfl rfl (Nat.le_of_ble_eq_true rfl) (cX_p2 ε S4 _) dX8_take_27 (fun S5 eS5 => ?_)
  refine bs_aload_n hC 0 dX8_take_30 rfl rfl ?_
  refine bs_aload_n hC 1 dX8_take_31 rfl rfl ?_
  refine bs_get hC (v := .int (bd_I S5 7)) hin_X8 2 (cX_o2 ε S5) rfl 3 (by decide) mw_138 rfl dX8_take_32 ?_
  refine bs_aload_n hC 1 dX8_take_35 rfl rfl ?_
  refine bs_get hC (v := .int (bd_I S5 8)) hin_X8 2 (cX_o2 ε S5) rfl 4 (by decide) mw_139 rfl dX8_take_36 ?_
  refine bs_callV_v hC (rm := ({ frames := 0, cells := 0, slots := 0, locals := 0 } : Room)) [.int (bd_I S5 7), .int (bd_I S5 8)] [] (fun h => c_X8_open (bd_l Γ) (bd_D Γ) ε (bd_I S5 7) (bd_I S5 8) S5 h) mw_284 mw_282 mw_283 mw_73 mw_10 (cX_o1 ε S5) rfl by_X8_open ⟨rfl, rfl, by decide, by decide⟩ rfl rfl (Nat.le_of_ble_eq_true rfl) dX8_take_39 (fun r6 S7 eS7 => ?_)
  refine bs_aload_n hC 0 dX8_take_42 rfl rfl ?_
  refine bs_aload_n hC 1 dX8_take_43 rfl rfl ?_
  refine bs_get hC (v := .int (bd_I S7 9)) hin_X8 2 (cX_o2 ε S7) rfl 5 (by decide) mw_140 rfl dX8_take_44 ?_
  refine bs_put hC (kk := 5) hin_X8 tyX8 tyX8_ok nmX8 1 (cX_o1 ε S7) rfl 5 (by decide) mw_140 rfl rfl rfl (Nat.le_of_ble_eq_true rfl) (cX_p5 ε S7 _) dX8_take_47 (fun S8 eS8 => ?_)
  refine bs_aload_n hC 1 dX8_take_50 rfl rfl ?_
  refine bs_get hC (v := .ref (bd_a ε (12 + 5))) hin_X8 2 (cX_o2 ε S8) rfl 6 (by decide) mw_141 rfl dX8_take_51 ?_
  refine bs_aload_n hC 0 dX8_take_54 rfl rfl ?_
  refine bs_get hC (v := .ref (bd_a ε (12 + 2))) hin_X8 1 (cX_o1 ε S8) rfl 6 (by decide) mw_141 rfl dX8_take_55 ?_
  refine bs_callSN_v hC (rm := ({ frames := 0, cells := 0, slots := 0, locals := 0 } : Room)) [.ref (bd_a ε (12 + 5)), .ref (bd_a ε (12 + 2))] [] (fun h => c_X9_copyRow (bd_l Γ) (bd_D Γ) ε 5 2 (by decide) (by decide) S8 h) mw_541 nm_55 mw_540 mw_72 by_X9_copyRow ⟨rfl, rfl, by decide, by decide⟩ rfl rfl (Nat.le_of_ble_eq_true rfl) dX8_take_58 (fun r9 S10 eS10 => ?_)
  refine bs_aload_n hC 1 dX8_take_61 rfl rfl ?_
  refine bs_get hC (v := .ref (bd_a ε (12 + 6))) hin_X8 2 (cX_o2 ε S10) rfl 7 (by decide) mw_142 rfl dX8_take_62 ?_
  refine bs_aload_n hC 0 dX8_take_65 rfl rfl ?_
  refine bs_get hC (v := .ref (bd_a ε (12 + 3))) hin_X8 1 (cX_o1 ε S10) rfl 7 (by decide) mw_142 rfl dX8_take_66 ?_
  refine bs_callSN_v hC (rm := ({ frames := 0, cells := 0, slots := 0, locals := 0 } : Room)) [.ref (bd_a ε (12 + 6)), .ref (bd_a ε (12 + 3))] [] (fun h => c_X9_copyRow (bd_l Γ) (bd_D Γ) ε 6 3 (by decide) (by decide) S10 h) mw_541 nm_55 mw_540 mw_72 by_X9_copyRow ⟨rfl, rfl, by decide, by decide⟩ rfl rfl (Nat.le_of_ble_eq_true rfl) dX8_take_69 (fun r11 S12 eS12 => ?_)
  exact bs_vret hC dX8_take_72 rfl
theorem c_X8_take_b1 (l : Launch) (D : va_G) (ε : bd_E)  (S : bd_T) (h0 : (f_X8_take_b1 S).isSome = true) : bd_Con l yX8_take (Cond.code yX8_take cX8_take 2 none :: bd_tbl) ({ frames := 2, cells := 0, slots := 0, locals := 43 } : Room) D ε (cX ε) bd_vv [.ref (bd_a ε 1), .ref (bd_a ε 2)] S (f_X8_take_b1 S) :=
  bd_con (by decide +kernel) (Nat.le_of_ble_eq_true rfl) ⟨rfl, rfl⟩ h0 (fun Γ _ _ hC => bs_eq bs_bs (b_X8_take_b1 hC S))
set_option maxRecDepth 100000 in
set_option maxHeartbeats 4000000 in
theorem b_X9_on {Γ : bd_G} {ε : bd_E} {t0 : Option (Int32 × bd_T)} (hC : bd_C Γ cX9_on 1 RX9 (some .int) ({ frames := 3, cells := 0, slots := 0, locals := 64 } : Room) ε (cX ε) bd_vi t0)  (S : bd_T) : bd_S Γ 1 t0 ((f_X9_on S).bind some) (cX ε S) 0 [(0, .ref (bd_a ε 0))] [] := by
  unfold f_X9_on
  refine bs_aload_n hC 0 dX9_on_0 rfl rfl ?_
  refine bs_get hC (v := .int (bd_I S 0)) hin_X9 0 (cX_o0 ε S) rfl 2 (by decide) mw_208 rfl dX9_on_1 ?_
  refine bs_if_ne hC 14 dX9_on_4 (by decide) (fun c7 => ?_) (fun c7 => ?_)
  · refine bs_aload_n hC 0 dX9_on_7 rfl rfl ?_
    refine bs_bipush hC (-3 : Int32) dX9_on_8 rfl ?_
    refine bs_callV_i hC (rm := ({ frames := 1, cells := 0, slots := 0, locals := 22 } : Room)) [.int (-3 : Int32)] [] (fun h => c_X9_refuse (bd_l Γ) (bd_D Γ) ε (-3 : Int32) S h) mw_234 mw_232 mw_233 mw_72 mw_0 (cX_o0 ε S) rfl by_X9_refuse ⟨rfl, rfl, by decide, by decide⟩ rfl rfl (Nat.le_of_ble_eq_true rfl) dX9_on_10 (fun r1 S2 eS2 => ?_)
    exact bs_iret hC dX9_on_13 rfl
  refine bs_aload_n hC 0 dX9_on_14 rfl rfl ?_
  refine bs_get hC (v := .ref (bd_a ε 1)) hin_X9 0 (cX_o0 ε S) rfl 0 (by decide) mw_206 rfl dX9_on_15 ?_
  refine bs_aload_n hC 0 dX9_on_18 rfl rfl ?_
  refine bs_get hC (v := .ref (bd_a ε 2)) hin_X9 0 (cX_o0 ε S) rfl 1 (by decide) mw_207 rfl dX9_on_19 ?_
  refine bs_callVN_v hC (rm := ({ frames := 2, cells := 0, slots := 0, locals := 43 } : Room)) [.ref (bd_a ε 2)] [] (fun h => c_X8_take_b1 (bd_l Γ) (bd_D Γ) ε S h) mw_537 nm_50 mw_536 mw_73 mw_44 (cX_o1 ε S) rfl by_X8_take ⟨rfl, rfl, by decide, by decide⟩ rfl rfl (Nat.le_of_ble_eq_true rfl) dX9_on_22 (fun r3 S4 eS4 => ?_)
  refine bs_aload_n hC 0 dX9_on_25 rfl rfl ?_
  refine bs_get hC (v := .ref (bd_a ε 4)) hin_X9 0 (cX_o0 ε S4) rfl 7 (by decide) mw_213 rfl dX9_on_26 ?_
  refine bs_callVN_v hC (rm := ({ frames := 0, cells := 0, slots := 0, locals := 0 } : Room)) [] [] (fun h => c_X0_forget (bd_l Γ) (bd_D Γ) ε S4 h) mw_275 nm_16 mw_274 mw_77 mw_8 (cX_o4 ε S4) rfl by_X0_forget ⟨rfl, rfl, by decide, by decide⟩ rfl rfl (Nat.le_of_ble_eq_true rfl) dX9_on_29 (fun r5 S6 eS6 => ?_)
  refine bs_aload_n hC 0 dX9_on_32 rfl rfl ?_
  refine bs_get hC (v := .ref (bd_a ε 1)) hin_X9 0 (cX_o0 ε S6) rfl 0 (by decide) mw_206 rfl dX9_on_33 ?_
  refine bs_getN hC (v := .ref (bd_a ε 8)) hin_X8 1 (cX_o1 ε S6) rfl 0 (by decide) nf_18 rfl dX9_on_36 ?_
  refine bs_getN hC (v := .int (bd_I S6 17)) hin_X7 8 (cX_o8 ε S6) rfl 0 (by decide) nf_0 rfl dX9_on_39 ?_
  exact bs_iret hC dX9_on_42 rfl
theorem c_X9_on (l : Launch) (D : va_G) (ε : bd_E)  (S : bd_T) (h0 : (f_X9_on S).isSome = true) : bd_Con l yX9_on (Cond.code yX9_on cX9_on 1 (some .int) :: bd_tbl) ({ frames := 3, cells := 0, slots := 0, locals := 64 } : Room) D ε (cX ε) bd_vi [.ref (bd_a ε 0)] S (f_X9_on S) :=
  bd_con (by decide +kernel) (Nat.le_of_ble_eq_true rfl) ⟨rfl, rfl⟩ h0 (fun Γ _ _ hC => bs_eq bs_bs (b_X9_on hC S))
set_option maxRecDepth 100000 in
set_option maxHeartbeats 4000000 in
theorem lb_X7_joinings_4 {Γ : bd_G} {ε : bd_E} {t0 : Option (Int32 × bd_T)} (hC : bd_C Γ cX7_joinings 3 RX7 (some .int) ({ frames := 1, cells := 0, slots := 0, locals := 21 } : Room) ε (cX ε) bd_vi t0)  {K : (Int32 × Int32 × bd_T) ⊕ (Int32 × bd_T) → Option (Int32 × bd_T)} (hk : ∀ (x1 : Int32) (x2 : Int32) (S : bd_T), bd_S Γ 3 t0 (K (.inl (x1, x2, S))) (cX ε S) 4 [(0, .ref (bd_a ε 8)), (1, .int x1), (2, .int x2)] []) (hx : ∀ (y1 : Int32) (S : bd_T), bd_S Γ 3 t0 (K (.inr (y1, S))) (cX ε S) 37 [(1, .int y1)] []) (x1 : Int32) (x2 : Int32) (S : bd_T) : bd_S Γ 3 t0 ((fb_X7_joinings_4 x1 x2 S).bind K) (cX ε S) 4 [(0, .ref (bd_a ε 8)), (1, .int x1), (2, .int x2)] [] := by
  unfold fb_X7_joinings_4
  refine bs_iload_n hC 2 dX7_joinings_4 rfl rfl ?_
  refine bs_aload_n hC 0 dX7_joinings_5 rfl rfl ?_
  refine bs_get hC (v := .int (bd_I S 17)) hin_X7 8 (cX_o8 ε S) rfl 0 (by decide) mw_103 rfl dX7_joinings_6 ?_
  refine bs_icmp_ge hC 37 dX7_joinings_9 (by decide) (fun c6 => ?_) (fun c6 => ?_)
  · refine bs_some ?_
    refine bs_pick [1] rfl ?_
    exact hx x1 S
  refine bs_iload_n hC 1 dX7_joinings_12 rfl rfl ?_
  refine bs_aload_n hC 0 dX7_joinings_13 rfl rfl ?_
  refine bs_get hC (v := .ref (bd_a ε (12 + 14))) hin_X7 8 (cX_o8 ε S) rfl 4 (by decide) mw_107 rfl dX7_joinings_14 ?_
  refine bs_iload_n hC 2 dX7_joinings_17 rfl rfl ?_
  refine bs_callSN_i hC (rm := ({ frames := 0, cells := 0, slots := 0, locals := 0 } : Room)) [.ref (bd_a ε (12 + 14)), .int x2] [.int x1] (fun h => c_X9_at (bd_l Γ) (bd_D Γ) ε 14 x2 (by decide) S h) mw_237 nm_42 mw_236 mw_72 by_X9_at ⟨rfl, rfl, by decide, by decide⟩ rfl rfl (Nat.le_of_ble_eq_true rfl) dX7_joinings_18 (fun r1 S2 eS2 => ?_)
  refine bs_if_lt hC 28 dX7_joinings_21 (by decide) (fun c5 => ?_) (fun c5 => ?_)
  · refine bs_iconst hC (0 : Int32) dX7_joinings_28 rfl ?_
    refine bs_iadd hC dX7_joinings_29 ?_
    refine bs_leti (fun z3 ez3 => ?_)
    refine bs_istore_n hC [(1, .int z3), (0, .ref (bd_a ε 8)), (2, .int x2)] dX7_joinings_30 rfl (by decide) rfl ?_
    refine bs_iinc hC 2 [(2, .int (x2 + 1)), (1, .int z3), (0, .ref (bd_a ε 8))] dX7_joinings_31 rfl rfl (by decide) rfl ?_
    refine bs_goto hC 4 dX7_joinings_34 (by decide) ?_
    refine bs_some ?_
    refine bs_pick [2, 1, 0] rfl ?_
    exact hk z3 (x2 + 1) S2
  refine bs_iconst hC (1 : Int32) dX7_joinings_24 rfl ?_
  refine bs_goto hC 29 dX7_joinings_25 (by decide) ?_
  refine bs_iadd hC dX7_joinings_29 ?_
  refine bs_leti (fun z4 ez4 => ?_)
  refine bs_istore_n hC [(1, .int z4), (0, .ref (bd_a ε 8)), (2, .int x2)] dX7_joinings_30 rfl (by decide) rfl ?_
  refine bs_iinc hC 2 [(2, .int (x2 + 1)), (1, .int z4), (0, .ref (bd_a ε 8))] dX7_joinings_31 rfl rfl (by decide) rfl ?_
  refine bs_goto hC 4 dX7_joinings_34 (by decide) ?_
  refine bs_some ?_
  refine bs_pick [2, 1, 0] rfl ?_
  exact hk z4 (x2 + 1) S2
set_option maxRecDepth 100000 in
set_option maxHeartbeats 4000000 in
theorem b_X7_joinings {Γ : bd_G} {ε : bd_E} {t0 : Option (Int32 × bd_T)} (hC : bd_C Γ cX7_joinings 3 RX7 (some .int) ({ frames := 1, cells := 0, slots := 0, locals := 21 } : Room) ε (cX ε) bd_vi t0)  (S : bd_T) : bd_S Γ 3 t0 ((f_X7_joinings S).bind some) (cX ε S) 0 [(0, .ref (bd_a ε 8))] [] := by
  unfold f_X7_joinings
  refine bs_iconst hC (0 : Int32) dX7_joinings_0 rfl ?_
  refine bs_istore_n hC [(1, .int (0 : Int32)), (0, .ref (bd_a ε 8))] dX7_joinings_1 rfl (by decide) rfl ?_
  refine bs_iconst hC (0 : Int32) dX7_joinings_2 rfl ?_
  refine bs_istore_n hC [(2, .int (0 : Int32)), (1, .int (0 : Int32)), (0, .ref (bd_a ε 8))] dX7_joinings_3 rfl (by decide) rfl ?_
  refine bs_pick [2, 1, 0] rfl ?_
  refine bs_loopK (fun (q : Int32 × Int32 × bd_T) t => bd_S Γ 3 t0 t (cX ε (q.2.2)) 4 [(0, .ref (bd_a ε 8)), (1, .int (q.1)), (2, .int (q.2.1))] []) (fun (q : Int32 × bd_T) t => bd_S Γ 3 t0 t (cX ε (q.2)) 37 [(1, .int (q.1))] []) (fun q => fb_X7_joinings_4 q.1 q.2.1 q.2.2) (fun _ => bs_none) (fun K hk hx q => lb_X7_joinings_4 hC    (fun a0 a1 S => hk (a0, a1, S)) (fun b0 S => hx (b0, S))  (q.1) (q.2.1) (q.2.2)) (fun r => ?_) bd_K ((0 : Int32), (0 : Int32), S)
  obtain ⟨y7, S8⟩ := r
  show bd_S Γ 3 t0 (Option.bind _ _) (cX ε S8) 37 [(1, .int y7)] []
  try dsimp only
  refine bs_iload_n hC 0 dX7_joinings_37 rfl rfl ?_
  exact bs_iret hC dX7_joinings_38 rfl
theorem c_X7_joinings (l : Launch) (D : va_G) (ε : bd_E)  (S : bd_T) (h0 : (f_X7_joinings S).isSome = true) : bd_Con l yX7_joinings (Cond.code yX7_joinings cX7_joinings 3 (some .int) :: bd_tbl) ({ frames := 1, cells := 0, slots := 0, locals := 21 } : Room) D ε (cX ε) bd_vi [.ref (bd_a ε 8)] S (f_X7_joinings S) :=
  bd_con (by decide +kernel) (Nat.le_of_ble_eq_true rfl) ⟨rfl, rfl⟩ h0 (fun Γ _ _ hC => bs_eq bs_bs (b_X7_joinings hC S))
set_option maxRecDepth 100000 in
set_option maxHeartbeats 4000000 in
theorem b_X9_count {Γ : bd_G} {ε : bd_E} {t0 : Option (Int32 × bd_T)} (hC : bd_C Γ cX9_count 2 RX9 (some .int) ({ frames := 2, cells := 0, slots := 0, locals := 43 } : Room) ε (cX ε) bd_vi t0) (x1 : Int32)  (S : bd_T) : bd_S Γ 2 t0 ((f_X9_count x1 S).bind some) (cX ε S) 0 [(0, .ref (bd_a ε 0)), (1, .int x1)] [] := by
  unfold f_X9_count
  refine bs_iload_n hC 1 dX9_count_0 rfl rfl ?_
  refine bs_case (c := x1 = 0) (fun c1 => ?_) (fun c1 => ?_)
  · refine bs_tabIn hC (0 : Int32) (43) 44 dX9_count_1 c1 (by decide) (by decide) rfl (by decide) ?_
    refine bs_aload_n hC 0 dX9_count_44 rfl rfl ?_
    refine bs_get hC (v := .ref (bd_a ε 1)) hin_X9 0 (cX_o0 ε S) rfl 0 (by decide) mw_206 rfl dX9_count_45 ?_
    refine bs_getN hC (v := .ref (bd_a ε 8)) hin_X8 1 (cX_o1 ε S) rfl 0 (by decide) nf_18 rfl dX9_count_48 ?_
    refine bs_getN hC (v := .int (bd_I S 17)) hin_X7 8 (cX_o8 ε S) rfl 0 (by decide) nf_0 rfl dX9_count_51 ?_
    exact bs_iret hC dX9_count_54 rfl
  refine bs_case (c := x1 = 1) (fun c2 => ?_) (fun c2 => ?_)
  · refine bs_tabIn hC (1 : Int32) (54) 55 dX9_count_1 c2 (by decide) (by decide) rfl (by decide) ?_
    refine bs_aload_n hC 0 dX9_count_55 rfl rfl ?_
    refine bs_get hC (v := .ref (bd_a ε 1)) hin_X9 0 (cX_o0 ε S) rfl 0 (by decide) mw_206 rfl dX9_count_56 ?_
    refine bs_getN hC (v := .ref (bd_a ε 9)) hin_X8 1 (cX_o1 ε S) rfl 1 (by decide) nf_20 rfl dX9_count_59 ?_
    refine bs_getN hC (v := .int (bd_I S 18)) hin_X4 9 (cX_o9 ε S) rfl 0 (by decide) nf_11 rfl dX9_count_62 ?_
    exact bs_iret hC dX9_count_65 rfl
  refine bs_case (c := x1 = 2) (fun c3 => ?_) (fun c3 => ?_)
  · refine bs_tabIn hC (2 : Int32) (65) 66 dX9_count_1 c3 (by decide) (by decide) rfl (by decide) ?_
    refine bs_aload_n hC 0 dX9_count_66 rfl rfl ?_
    refine bs_get hC (v := .ref (bd_a ε 1)) hin_X9 0 (cX_o0 ε S) rfl 0 (by decide) mw_206 rfl dX9_count_67 ?_
    refine bs_getN hC (v := .ref (bd_a ε 9)) hin_X8 1 (cX_o1 ε S) rfl 1 (by decide) nf_20 rfl dX9_count_70 ?_
    refine bs_getN hC (v := .int (bd_I S 19)) hin_X4 9 (cX_o9 ε S) rfl 1 (by decide) nf_13 rfl dX9_count_73 ?_
    refine bs_callS_i hC (rm := ({ frames := 0, cells := 0, slots := 0, locals := 0 } : Room)) [.int (bd_I S 19)] [] (fun h => c_J6_bitCount_0f7a4 (bd_l Γ) (bd_D Γ) ε (bd_I S 19) S h) mw_492 mw_490 mw_491 mw_84 by_J6_bitCount_0f7a4 ⟨rfl, rfl, by decide, by decide⟩ rfl rfl (Nat.le_of_ble_eq_true rfl) dX9_count_76 (fun r4 S5 eS5 => ?_)
    exact bs_iret hC dX9_count_79 rfl
  refine bs_case (c := x1 = 3) (fun c6 => ?_) (fun c6 => ?_)
  · refine bs_tabIn hC (3 : Int32) (79) 80 dX9_count_1 c6 (by decide) (by decide) rfl (by decide) ?_
    refine bs_aload_n hC 0 dX9_count_80 rfl rfl ?_
    refine bs_get hC (v := .ref (bd_a ε 1)) hin_X9 0 (cX_o0 ε S) rfl 0 (by decide) mw_206 rfl dX9_count_81 ?_
    refine bs_getN hC (v := .ref (bd_a ε 8)) hin_X8 1 (cX_o1 ε S) rfl 0 (by decide) nf_18 rfl dX9_count_84 ?_
    refine bs_callVN_i hC (rm := ({ frames := 1, cells := 0, slots := 0, locals := 21 } : Room)) [] [] (fun h => c_X7_joinings (bd_l Γ) (bd_D Γ) ε S h) mw_553 nm_56 mw_552 mw_74 mw_47 (cX_o8 ε S) rfl by_X7_joinings ⟨rfl, rfl, by decide, by decide⟩ rfl rfl (Nat.le_of_ble_eq_true rfl) dX9_count_87 (fun r7 S8 eS8 => ?_)
    exact bs_iret hC dX9_count_90 rfl
  refine bs_case (c := x1 = 4) (fun c9 => ?_) (fun c9 => ?_)
  · refine bs_tabIn hC (4 : Int32) (90) 91 dX9_count_1 c9 (by decide) (by decide) rfl (by decide) ?_
    refine bs_aload_n hC 0 dX9_count_91 rfl rfl ?_
    refine bs_get hC (v := .ref (bd_a ε 1)) hin_X9 0 (cX_o0 ε S) rfl 0 (by decide) mw_206 rfl dX9_count_92 ?_
    refine bs_getN hC (v := .int (bd_I S 5)) hin_X8 1 (cX_o1 ε S) rfl 5 (by decide) nf_24 rfl dX9_count_95 ?_
    exact bs_iret hC dX9_count_98 rfl
  refine bs_case (c := x1 = 5) (fun c10 => ?_) (fun c10 => ?_)
  · refine bs_tabIn hC (5 : Int32) (98) 99 dX9_count_1 c10 (by decide) (by decide) rfl (by decide) ?_
    refine bs_aload_n hC 0 dX9_count_99 rfl rfl ?_
    refine bs_get hC (v := .ref (bd_a ε 3)) hin_X9 0 (cX_o0 ε S) rfl 3 (by decide) mw_209 rfl dX9_count_100 ?_
    refine bs_getN hC (v := .int (bd_I S 10)) hin_X6 3 (cX_o3 ε S) rfl 1 (by decide) nf_29 rfl dX9_count_103 ?_
    exact bs_iret hC dX9_count_106 rfl
  refine bs_case (c := x1 = 6) (fun c11 => ?_) (fun c11 => ?_)
  · refine bs_tabIn hC (6 : Int32) (106) 107 dX9_count_1 c11 (by decide) (by decide) rfl (by decide) ?_
    refine bs_aload_n hC 0 dX9_count_107 rfl rfl ?_
    refine bs_get hC (v := .int (bd_I S 1)) hin_X9 0 (cX_o0 ε S) rfl 5 (by decide) mw_211 rfl dX9_count_108 ?_
    exact bs_iret hC dX9_count_111 rfl
  refine bs_tabOut hC 112 dX9_count_1 (by have h0 := lv_neT (k := (0 : Int32)) (a := 0) c1 rfl; have h1 := lv_neT (k := (1 : Int32)) (a := 1) c2 rfl; have h2 := lv_neT (k := (2 : Int32)) (a := 2) c3 rfl; have h3 := lv_neT (k := (3 : Int32)) (a := 3) c6 rfl; have h4 := lv_neT (k := (4 : Int32)) (a := 4) c9 rfl; have h5 := lv_neT (k := (5 : Int32)) (a := 5) c10 rfl; have h6 := lv_neT (k := (6 : Int32)) (a := 6) c11 rfl; omega) (by decide) ?_
  refine bs_iload_n hC 1 dX9_count_112 rfl rfl ?_
  refine bs_bipush hC (11 : Int32) dX9_count_113 rfl ?_
  refine bs_icmp_lt hC 138 dX9_count_115 (by decide) (fun c15 => ?_) (fun c15 => ?_)
  · refine bs_bipush hC (-9 : Int32) dX9_count_138 rfl ?_
    exact bs_iret hC dX9_count_140 rfl
  refine bs_iload_n hC 1 dX9_count_118 rfl rfl ?_
  refine bs_bipush hC (16 : Int32) dX9_count_119 rfl ?_
  refine bs_icmp_gt hC 138 dX9_count_121 (by decide) (fun c14 => ?_) (fun c14 => ?_)
  · refine bs_bipush hC (-9 : Int32) dX9_count_138 rfl ?_
    exact bs_iret hC dX9_count_140 rfl
  refine bs_aload_n hC 0 dX9_count_124 rfl rfl ?_
  refine bs_get hC (v := .ref (bd_a ε (12 + 1))) hin_X9 0 (cX_o0 ε S) rfl 6 (by decide) mw_212 rfl dX9_count_125 ?_
  refine bs_iload_n hC 1 dX9_count_128 rfl rfl ?_
  refine bs_bipush hC (11 : Int32) dX9_count_129 rfl ?_
  refine bs_isub hC dX9_count_131 ?_
  refine bs_callS_i hC (rm := ({ frames := 0, cells := 0, slots := 0, locals := 0 } : Room)) [.ref (bd_a ε (12 + 1)), .int (x1 - (11 : Int32))] [] (fun h => c_X9_at (bd_l Γ) (bd_D Γ) ε 1 (x1 - (11 : Int32)) (by decide) S h) mw_237 mw_235 mw_236 mw_72 by_X9_at ⟨rfl, rfl, by decide, by decide⟩ rfl rfl (Nat.le_of_ble_eq_true rfl) dX9_count_132 (fun r12 S13 eS13 => ?_)
  refine bs_goto hC 140 dX9_count_135 (by decide) ?_
  exact bs_iret hC dX9_count_140 rfl
theorem c_X9_count (l : Launch) (D : va_G) (ε : bd_E) (x1 : Int32)  (S : bd_T) (h0 : (f_X9_count x1 S).isSome = true) : bd_Con l yX9_count (Cond.code yX9_count cX9_count 2 (some .int) :: bd_tbl) ({ frames := 2, cells := 0, slots := 0, locals := 43 } : Room) D ε (cX ε) bd_vi [.ref (bd_a ε 0), .int x1] S (f_X9_count x1 S) :=
  bd_con (by decide +kernel) (Nat.le_of_ble_eq_true rfl) ⟨rfl, rfl⟩ h0 (fun Γ _ _ hC => bs_eq bs_bs (b_X9_count hC x1 S))
