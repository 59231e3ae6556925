theorem dX7_init_0 : decode cX7_init 0 = .ok (.aload_n 0, 1) := by decide +kernel
theorem dX7_init_1 : decode cX7_init 1 = .ok (.invokespecial 3, 3) := by decide +kernel
theorem dX7_init_4 : decode cX7_init 4 = .ok (.aload_n 0, 1) := by decide +kernel
theorem dX7_init_5 : decode cX7_init 5 = .ok (.bipush 6, 2) := by decide +kernel
theorem dX7_init_7 : decode cX7_init 7 = .ok (.newarray .int, 2) := by decide +kernel
theorem dX7_init_9 : decode cX7_init 9 = .ok (.putfield 9, 3) := by decide +kernel
theorem dX7_init_12 : decode cX7_init 12 = .ok (.aload_n 0, 1) := by decide +kernel
theorem dX7_init_13 : decode cX7_init 13 = .ok (.bipush 6, 2) := by decide +kernel
theorem dX7_init_15 : decode cX7_init 15 = .ok (.newarray .int, 2) := by decide +kernel
theorem dX7_init_17 : decode cX7_init 17 = .ok (.putfield 15, 3) := by decide +kernel
theorem dX7_init_20 : decode cX7_init 20 = .ok (.aload_n 0, 1) := by decide +kernel
theorem dX7_init_21 : decode cX7_init 21 = .ok (.bipush 6, 2) := by decide +kernel
theorem dX7_init_23 : decode cX7_init 23 = .ok (.newarray .int, 2) := by decide +kernel
theorem dX7_init_25 : decode cX7_init 25 = .ok (.putfield 18, 3) := by decide +kernel
theorem dX7_init_28 : decode cX7_init 28 = .ok (.aload_n 0, 1) := by decide +kernel
theorem dX7_init_29 : decode cX7_init 29 = .ok (.bipush 6, 2) := by decide +kernel
theorem dX7_init_31 : decode cX7_init 31 = .ok (.newarray .int, 2) := by decide +kernel
theorem dX7_init_33 : decode cX7_init 33 = .ok (.putfield 21, 3) := by decide +kernel
theorem dX7_init_36 : decode cX7_init 36 = .ok (.aload_n 0, 1) := by decide +kernel
theorem dX7_init_37 : decode cX7_init 37 = .ok (.bipush 6, 2) := by decide +kernel
theorem dX7_init_39 : decode cX7_init 39 = .ok (.newarray .int, 2) := by decide +kernel
theorem dX7_init_41 : decode cX7_init 41 = .ok (.putfield 24, 3) := by decide +kernel
theorem dX7_init_44 : decode cX7_init 44 = .ok (.aload_n 0, 1) := by decide +kernel
theorem dX7_init_45 : decode cX7_init 45 = .ok (.bipush 6, 2) := by decide +kernel
theorem dX7_init_47 : decode cX7_init 47 = .ok (.newarray .int, 2) := by decide +kernel
theorem dX7_init_49 : decode cX7_init 49 = .ok (.putfield 27, 3) := by decide +kernel
theorem dX7_init_52 : decode cX7_init 52 = .ok (.return_, 1) := by decide +kernel
theorem dX4_init_0 : decode cX4_init 0 = .ok (.aload_n 0, 1) := by decide +kernel
theorem dX4_init_1 : decode cX4_init 1 = .ok (.invokespecial 3, 3) := by decide +kernel
theorem dX4_init_4 : decode cX4_init 4 = .ok (.aload_n 0, 1) := by decide +kernel
theorem dX4_init_5 : decode cX4_init 5 = .ok (.bipush 10, 2) := by decide +kernel
theorem dX4_init_7 : decode cX4_init 7 = .ok (.newarray .int, 2) := by decide +kernel
theorem dX4_init_9 : decode cX4_init 9 = .ok (.putfield 9, 3) := by decide +kernel
theorem dX4_init_12 : decode cX4_init 12 = .ok (.aload_n 0, 1) := by decide +kernel
theorem dX4_init_13 : decode cX4_init 13 = .ok (.bipush 10, 2) := by decide +kernel
theorem dX4_init_15 : decode cX4_init 15 = .ok (.newarray .int, 2) := by decide +kernel
theorem dX4_init_17 : decode cX4_init 17 = .ok (.putfield 15, 3) := by decide +kernel
theorem dX4_init_20 : decode cX4_init 20 = .ok (.aload_n 0, 1) := by decide +kernel
theorem dX4_init_21 : decode cX4_init 21 = .ok (.bipush 10, 2) := by decide +kernel
theorem dX4_init_23 : decode cX4_init 23 = .ok (.newarray .int, 2) := by decide +kernel
theorem dX4_init_25 : decode cX4_init 25 = .ok (.putfield 18, 3) := by decide +kernel
theorem dX4_init_28 : decode cX4_init 28 = .ok (.aload_n 0, 1) := by decide +kernel
theorem dX4_init_29 : decode cX4_init 29 = .ok (.bipush 10, 2) := by decide +kernel
theorem dX4_init_31 : decode cX4_init 31 = .ok (.newarray .int, 2) := by decide +kernel
theorem dX4_init_33 : decode cX4_init 33 = .ok (.putfield 21, 3) := by decide +kernel
theorem dX4_init_36 : decode cX4_init 36 = .ok (.return_, 1) := by decide +kernel
theorem dX8_init_0 : decode cX8_init 0 = .ok (.aload_n 0, 1) := by decide +kernel
theorem dX8_init_1 : decode cX8_init 1 = .ok (.invokespecial 3, 3) := by decide +kernel
theorem dX8_init_4 : decode cX8_init 4 = .ok (.aload_n 0, 1) := by decide +kernel
theorem dX8_init_5 : decode cX8_init 5 = .ok (.new 9, 3) := by decide +kernel
theorem dX8_init_8 : decode cX8_init 8 = .ok (.dup, 1) := by decide +kernel
theorem dX8_init_9 : decode cX8_init 9 = .ok (.invokespecial 11, 3) := by decide +kernel
theorem dX8_init_12 : decode cX8_init 12 = .ok (.putfield 12, 3) := by decide +kernel
theorem dX8_init_15 : decode cX8_init 15 = .ok (.aload_n 0, 1) := by decide +kernel
theorem dX8_init_16 : decode cX8_init 16 = .ok (.new 18, 3) := by decide +kernel
theorem dX8_init_19 : decode cX8_init 19 = .ok (.dup, 1) := by decide +kernel
theorem dX8_init_20 : decode cX8_init 20 = .ok (.invokespecial 20, 3) := by decide +kernel
theorem dX8_init_23 : decode cX8_init 23 = .ok (.putfield 21, 3) := by decide +kernel
theorem dX8_init_26 : decode cX8_init 26 = .ok (.aload_n 0, 1) := by decide +kernel
theorem dX8_init_27 : decode cX8_init 27 = .ok (.sipush 200, 3) := by decide +kernel
theorem dX8_init_30 : decode cX8_init 30 = .ok (.putfield 25, 3) := by decide +kernel
theorem dX8_init_33 : decode cX8_init 33 = .ok (.aload_n 0, 1) := by decide +kernel
theorem dX8_init_34 : decode cX8_init 34 = .ok (.iconst 0, 1) := by decide +kernel
theorem dX8_init_35 : decode cX8_init 35 = .ok (.putfield 29, 3) := by decide +kernel
theorem dX8_init_38 : decode cX8_init 38 = .ok (.aload_n 0, 1) := by decide +kernel
theorem dX8_init_39 : decode cX8_init 39 = .ok (.iconst (-1), 1) := by decide +kernel
theorem dX8_init_40 : decode cX8_init 40 = .ok (.putfield 32, 3) := by decide +kernel
theorem dX8_init_43 : decode cX8_init 43 = .ok (.aload_n 0, 1) := by decide +kernel
theorem dX8_init_44 : decode cX8_init 44 = .ok (.iconst 4, 1) := by decide +kernel
theorem dX8_init_45 : decode cX8_init 45 = .ok (.newarray .int, 2) := by decide +kernel
theorem dX8_init_47 : decode cX8_init 47 = .ok (.putfield 35, 3) := by decide +kernel
theorem dX8_init_50 : decode cX8_init 50 = .ok (.aload_n 0, 1) := by decide +kernel
theorem dX8_init_51 : decode cX8_init 51 = .ok (.iconst 4, 1) := by decide +kernel
theorem dX8_init_52 : decode cX8_init 52 = .ok (.newarray .int, 2) := by decide +kernel
theorem dX8_init_54 : decode cX8_init 54 = .ok (.putfield 39, 3) := by decide +kernel
theorem dX8_init_57 : decode cX8_init 57 = .ok (.aload_n 0, 1) := by decide +kernel
theorem dX8_init_58 : decode cX8_init 58 = .ok (.sipush 300, 3) := by decide +kernel
theorem dX8_init_61 : decode cX8_init 61 = .ok (.newarray .int, 2) := by decide +kernel
theorem dX8_init_63 : decode cX8_init 63 = .ok (.putfield 42, 3) := by decide +kernel
theorem dX8_init_66 : decode cX8_init 66 = .ok (.return_, 1) := by decide +kernel
theorem dX6_init_0 : decode cX6_init 0 = .ok (.aload_n 0, 1) := by decide +kernel
theorem dX6_init_1 : decode cX6_init 1 = .ok (.invokespecial 3, 3) := by decide +kernel
theorem dX6_init_4 : decode cX6_init 4 = .ok (.aload_n 0, 1) := by decide +kernel
theorem dX6_init_5 : decode cX6_init 5 = .ok (.bipush 20, 2) := by decide +kernel
theorem dX6_init_7 : decode cX6_init 7 = .ok (.newarray .int, 2) := by decide +kernel
theorem dX6_init_9 : decode cX6_init 9 = .ok (.putfield 9, 3) := by decide +kernel
theorem dX6_init_12 : decode cX6_init 12 = .ok (.return_, 1) := by decide +kernel
theorem dX0_init_0 : decode cX0_init 0 = .ok (.aload_n 0, 1) := by decide +kernel
theorem dX0_init_1 : decode cX0_init 1 = .ok (.invokespecial 3, 3) := by decide +kernel
theorem dX0_init_4 : decode cX0_init 4 = .ok (.aload_n 0, 1) := by decide +kernel
theorem dX0_init_5 : decode cX0_init 5 = .ok (.sipush 1800, 3) := by decide +kernel
theorem dX0_init_8 : decode cX0_init 8 = .ok (.newarray .int, 2) := by decide +kernel
theorem dX0_init_10 : decode cX0_init 10 = .ok (.putfield 9, 3) := by decide +kernel
theorem dX0_init_13 : decode cX0_init 13 = .ok (.return_, 1) := by decide +kernel
theorem dX2_init_0 : decode cX2_init 0 = .ok (.aload_n 0, 1) := by decide +kernel
theorem dX2_init_1 : decode cX2_init 1 = .ok (.invokespecial 3, 3) := by decide +kernel
theorem dX2_init_4 : decode cX2_init 4 = .ok (.aload_n 0, 1) := by decide +kernel
theorem dX2_init_5 : decode cX2_init 5 = .ok (.sipush 1800, 3) := by decide +kernel
theorem dX2_init_8 : decode cX2_init 8 = .ok (.newarray .long, 2) := by decide +kernel
theorem dX2_init_10 : decode cX2_init 10 = .ok (.putfield 9, 3) := by decide +kernel
theorem dX2_init_13 : decode cX2_init 13 = .ok (.aload_n 0, 1) := by decide +kernel
theorem dX2_init_14 : decode cX2_init 14 = .ok (.bipush 6, 2) := by decide +kernel
theorem dX2_init_16 : decode cX2_init 16 = .ok (.newarray .int, 2) := by decide +kernel
theorem dX2_init_18 : decode cX2_init 18 = .ok (.putfield 15, 3) := by decide +kernel
theorem dX2_init_21 : decode cX2_init 21 = .ok (.return_, 1) := by decide +kernel
theorem dX5_init_0 : decode cX5_init 0 = .ok (.aload_n 0, 1) := by decide +kernel
theorem dX5_init_1 : decode cX5_init 1 = .ok (.invokespecial 3, 3) := by decide +kernel
theorem dX5_init_4 : decode cX5_init 4 = .ok (.return_, 1) := by decide +kernel
theorem dX1_init_0 : decode cX1_init 0 = .ok (.aload_n 0, 1) := by decide +kernel
theorem dX1_init_1 : decode cX1_init 1 = .ok (.invokespecial 3, 3) := by decide +kernel
theorem dX1_init_4 : decode cX1_init 4 = .ok (.aload_n 0, 1) := by decide +kernel
theorem dX1_init_5 : decode cX1_init 5 = .ok (.sipush 301, 3) := by decide +kernel
theorem dX1_init_8 : decode cX1_init 8 = .ok (.newarray .long, 2) := by decide +kernel
theorem dX1_init_10 : decode cX1_init 10 = .ok (.putfield 9, 3) := by decide +kernel
theorem dX1_init_13 : decode cX1_init 13 = .ok (.return_, 1) := by decide +kernel
theorem dX3_init_0 : decode cX3_init 0 = .ok (.aload_n 0, 1) := by decide +kernel
theorem dX3_init_1 : decode cX3_init 1 = .ok (.invokespecial 3, 3) := by decide +kernel
theorem dX3_init_4 : decode cX3_init 4 = .ok (.aload_n 0, 1) := by decide +kernel
theorem dX3_init_5 : decode cX3_init 5 = .ok (.sipush 2700, 3) := by decide +kernel
theorem dX3_init_8 : decode cX3_init 8 = .ok (.newarray .long, 2) := by decide +kernel
theorem dX3_init_10 : decode cX3_init 10 = .ok (.putfield 11, 3) := by decide +kernel
theorem dX3_init_13 : decode cX3_init 13 = .ok (.return_, 1) := by decide +kernel
theorem dX9_init_0 : decode cX9_init 0 = .ok (.aload_n 0, 1) := by decide +kernel
theorem dX9_init_1 : decode cX9_init 1 = .ok (.invokespecial 3, 3) := by decide +kernel
theorem dX9_init_4 : decode cX9_init 4 = .ok (.aload_n 0, 1) := by decide +kernel
theorem dX9_init_5 : decode cX9_init 5 = .ok (.new 9, 3) := by decide +kernel
theorem dX9_init_8 : decode cX9_init 8 = .ok (.dup, 1) := by decide +kernel
theorem dX9_init_9 : decode cX9_init 9 = .ok (.invokespecial 11, 3) := by decide +kernel
theorem dX9_init_12 : decode cX9_init 12 = .ok (.putfield 12, 3) := by decide +kernel
theorem dX9_init_15 : decode cX9_init 15 = .ok (.aload_n 0, 1) := by decide +kernel
theorem dX9_init_16 : decode cX9_init 16 = .ok (.new 9, 3) := by decide +kernel
theorem dX9_init_19 : decode cX9_init 19 = .ok (.dup, 1) := by decide +kernel
theorem dX9_init_20 : decode cX9_init 20 = .ok (.invokespecial 11, 3) := by decide +kernel
theorem dX9_init_23 : decode cX9_init 23 = .ok (.putfield 16, 3) := by decide +kernel
theorem dX9_init_26 : decode cX9_init 26 = .ok (.aload_n 0, 1) := by decide +kernel
theorem dX9_init_27 : decode cX9_init 27 = .ok (.new 19, 3) := by decide +kernel
theorem dX9_init_30 : decode cX9_init 30 = .ok (.dup, 1) := by decide +kernel
theorem dX9_init_31 : decode cX9_init 31 = .ok (.invokespecial 21, 3) := by decide +kernel
theorem dX9_init_34 : decode cX9_init 34 = .ok (.putfield 22, 3) := by decide +kernel
theorem dX9_init_37 : decode cX9_init 37 = .ok (.aload_n 0, 1) := by decide +kernel
theorem dX9_init_38 : decode cX9_init 38 = .ok (.bipush 6, 2) := by decide +kernel
theorem dX9_init_40 : decode cX9_init 40 = .ok (.newarray .int, 2) := by decide +kernel
theorem dX9_init_42 : decode cX9_init 42 = .ok (.putfield 26, 3) := by decide +kernel
theorem dX9_init_45 : decode cX9_init 45 = .ok (.aload_n 0, 1) := by decide +kernel
theorem dX9_init_46 : decode cX9_init 46 = .ok (.bipush 6, 2) := by decide +kernel
theorem dX9_init_48 : decode cX9_init 48 = .ok (.newarray .int, 2) := by decide +kernel
theorem dX9_init_50 : decode cX9_init 50 = .ok (.putfield 30, 3) := by decide +kernel
theorem dX9_init_53 : decode cX9_init 53 = .ok (.aload_n 0, 1) := by decide +kernel
theorem dX9_init_54 : decode cX9_init 54 = .ok (.new 33, 3) := by decide +kernel
theorem dX9_init_57 : decode cX9_init 57 = .ok (.dup, 1) := by decide +kernel
theorem dX9_init_58 : decode cX9_init 58 = .ok (.invokespecial 35, 3) := by decide +kernel
theorem dX9_init_61 : decode cX9_init 61 = .ok (.putfield 36, 3) := by decide +kernel
theorem dX9_init_64 : decode cX9_init 64 = .ok (.aload_n 0, 1) := by decide +kernel
theorem dX9_init_65 : decode cX9_init 65 = .ok (.new 40, 3) := by decide +kernel
theorem dX9_init_68 : decode cX9_init 68 = .ok (.dup, 1) := by decide +kernel
theorem dX9_init_69 : decode cX9_init 69 = .ok (.invokespecial 42, 3) := by decide +kernel
theorem dX9_init_72 : decode cX9_init 72 = .ok (.putfield 43, 3) := by decide +kernel
theorem dX9_init_75 : decode cX9_init 75 = .ok (.aload_n 0, 1) := by decide +kernel
theorem dX9_init_76 : decode cX9_init 76 = .ok (.new 47, 3) := by decide +kernel
theorem dX9_init_79 : decode cX9_init 79 = .ok (.dup, 1) := by decide +kernel
theorem dX9_init_80 : decode cX9_init 80 = .ok (.invokespecial 49, 3) := by decide +kernel
theorem dX9_init_83 : decode cX9_init 83 = .ok (.putfield 50, 3) := by decide +kernel
theorem dX9_init_86 : decode cX9_init 86 = .ok (.aload_n 0, 1) := by decide +kernel
theorem dX9_init_87 : decode cX9_init 87 = .ok (.new 54, 3) := by decide +kernel
theorem dX9_init_90 : decode cX9_init 90 = .ok (.dup, 1) := by decide +kernel
theorem dX9_init_91 : decode cX9_init 91 = .ok (.invokespecial 56, 3) := by decide +kernel
theorem dX9_init_94 : decode cX9_init 94 = .ok (.putfield 57, 3) := by decide +kernel
theorem dX9_init_97 : decode cX9_init 97 = .ok (.return_, 1) := by decide +kernel
theorem dX10_init_0 : decode cX10_init 0 = .ok (.aload_n 0, 1) := by decide +kernel
theorem dX10_init_1 : decode cX10_init 1 = .ok (.invokespecial 1, 3) := by decide +kernel
theorem dX10_init_4 : decode cX10_init 4 = .ok (.aload_n 0, 1) := by decide +kernel
theorem dX10_init_5 : decode cX10_init 5 = .ok (.bipush 7, 2) := by decide +kernel
theorem dX10_init_7 : decode cX10_init 7 = .ok (.newarray .int, 2) := by decide +kernel
theorem dX10_init_9 : decode cX10_init 9 = .ok (.putfield 7, 3) := by decide +kernel
theorem dX10_init_12 : decode cX10_init 12 = .ok (.aload_n 0, 1) := by decide +kernel
theorem dX10_init_13 : decode cX10_init 13 = .ok (.bipush 20, 2) := by decide +kernel
theorem dX10_init_15 : decode cX10_init 15 = .ok (.newarray .int, 2) := by decide +kernel
theorem dX10_init_17 : decode cX10_init 17 = .ok (.putfield 13, 3) := by decide +kernel
theorem dX10_init_20 : decode cX10_init 20 = .ok (.aload_n 0, 1) := by decide +kernel
theorem dX10_init_21 : decode cX10_init 21 = .ok (.bipush 6, 2) := by decide +kernel
theorem dX10_init_23 : decode cX10_init 23 = .ok (.newarray .int, 2) := by decide +kernel
theorem dX10_init_25 : decode cX10_init 25 = .ok (.putfield 16, 3) := by decide +kernel
theorem dX10_init_28 : decode cX10_init 28 = .ok (.aload_n 0, 1) := by decide +kernel
theorem dX10_init_29 : decode cX10_init 29 = .ok (.bipush 6, 2) := by decide +kernel
theorem dX10_init_31 : decode cX10_init 31 = .ok (.newarray .int, 2) := by decide +kernel
theorem dX10_init_33 : decode cX10_init 33 = .ok (.putfield 19, 3) := by decide +kernel
theorem dX10_init_36 : decode cX10_init 36 = .ok (.aload_n 0, 1) := by decide +kernel
theorem dX10_init_37 : decode cX10_init 37 = .ok (.bipush 6, 2) := by decide +kernel
theorem dX10_init_39 : decode cX10_init 39 = .ok (.newarray .int, 2) := by decide +kernel
theorem dX10_init_41 : decode cX10_init 41 = .ok (.putfield 22, 3) := by decide +kernel
theorem dX10_init_44 : decode cX10_init 44 = .ok (.aload_n 0, 1) := by decide +kernel
theorem dX10_init_45 : decode cX10_init 45 = .ok (.iconst 4, 1) := by decide +kernel
theorem dX10_init_46 : decode cX10_init 46 = .ok (.newarray .int, 2) := by decide +kernel
theorem dX10_init_48 : decode cX10_init 48 = .ok (.putfield 25, 3) := by decide +kernel
theorem dX10_init_51 : decode cX10_init 51 = .ok (.aload_n 0, 1) := by decide +kernel
theorem dX10_init_52 : decode cX10_init 52 = .ok (.iconst 4, 1) := by decide +kernel
theorem dX10_init_53 : decode cX10_init 53 = .ok (.newarray .int, 2) := by decide +kernel
theorem dX10_init_55 : decode cX10_init 55 = .ok (.putfield 28, 3) := by decide +kernel
theorem dX10_init_58 : decode cX10_init 58 = .ok (.aload_n 0, 1) := by decide +kernel
theorem dX10_init_59 : decode cX10_init 59 = .ok (.sipush 200, 3) := by decide +kernel
theorem dX10_init_62 : decode cX10_init 62 = .ok (.putfield 31, 3) := by decide +kernel
theorem dX10_init_65 : decode cX10_init 65 = .ok (.aload_n 0, 1) := by decide +kernel
theorem dX10_init_66 : decode cX10_init 66 = .ok (.iconst (-1), 1) := by decide +kernel
theorem dX10_init_67 : decode cX10_init 67 = .ok (.putfield 35, 3) := by decide +kernel
theorem dX10_init_70 : decode cX10_init 70 = .ok (.aload_n 0, 1) := by decide +kernel
theorem dX10_init_71 : decode cX10_init 71 = .ok (.iconst (-1), 1) := by decide +kernel
theorem dX10_init_72 : decode cX10_init 72 = .ok (.putfield 38, 3) := by decide +kernel
theorem dX10_init_75 : decode cX10_init 75 = .ok (.aload_n 0, 1) := by decide +kernel
theorem dX10_init_76 : decode cX10_init 76 = .ok (.iconst 1, 1) := by decide +kernel
theorem dX10_init_77 : decode cX10_init 77 = .ok (.putfield 41, 3) := by decide +kernel
theorem dX10_init_80 : decode cX10_init 80 = .ok (.aload_n 0, 1) := by decide +kernel
theorem dX10_init_81 : decode cX10_init 81 = .ok (.bipush 10, 2) := by decide +kernel
theorem dX10_init_83 : decode cX10_init 83 = .ok (.newarray .int, 2) := by decide +kernel
theorem dX10_init_85 : decode cX10_init 85 = .ok (.putfield 45, 3) := by decide +kernel
theorem dX10_init_88 : decode cX10_init 88 = .ok (.aload_n 0, 1) := by decide +kernel
theorem dX10_init_89 : decode cX10_init 89 = .ok (.bipush 10, 2) := by decide +kernel
theorem dX10_init_91 : decode cX10_init 91 = .ok (.newarray .int, 2) := by decide +kernel
theorem dX10_init_93 : decode cX10_init 93 = .ok (.putfield 48, 3) := by decide +kernel
theorem dX10_init_96 : decode cX10_init 96 = .ok (.aload_n 0, 1) := by decide +kernel
theorem dX10_init_97 : decode cX10_init 97 = .ok (.bipush 10, 2) := by decide +kernel
theorem dX10_init_99 : decode cX10_init 99 = .ok (.newarray .int, 2) := by decide +kernel
theorem dX10_init_101 : decode cX10_init 101 = .ok (.putfield 51, 3) := by decide +kernel
theorem dX10_init_104 : decode cX10_init 104 = .ok (.aload_n 0, 1) := by decide +kernel
theorem dX10_init_105 : decode cX10_init 105 = .ok (.bipush 10, 2) := by decide +kernel
theorem dX10_init_107 : decode cX10_init 107 = .ok (.newarray .int, 2) := by decide +kernel
theorem dX10_init_109 : decode cX10_init 109 = .ok (.putfield 54, 3) := by decide +kernel
theorem dX10_init_112 : decode cX10_init 112 = .ok (.aload_n 0, 1) := by decide +kernel
theorem dX10_init_113 : decode cX10_init 113 = .ok (.bipush 10, 2) := by decide +kernel
theorem dX10_init_115 : decode cX10_init 115 = .ok (.newarray .int, 2) := by decide +kernel
theorem dX10_init_117 : decode cX10_init 117 = .ok (.putfield 57, 3) := by decide +kernel
theorem dX10_init_120 : decode cX10_init 120 = .ok (.aload_n 0, 1) := by decide +kernel
theorem dX10_init_121 : decode cX10_init 121 = .ok (.bipush 6, 2) := by decide +kernel
theorem dX10_init_123 : decode cX10_init 123 = .ok (.newarray .int, 2) := by decide +kernel
theorem dX10_init_125 : decode cX10_init 125 = .ok (.putfield 60, 3) := by decide +kernel
theorem dX10_init_128 : decode cX10_init 128 = .ok (.aload_n 0, 1) := by decide +kernel
theorem dX10_init_129 : decode cX10_init 129 = .ok (.bipush 6, 2) := by decide +kernel
theorem dX10_init_131 : decode cX10_init 131 = .ok (.newarray .int, 2) := by decide +kernel
theorem dX10_init_133 : decode cX10_init 133 = .ok (.putfield 63, 3) := by decide +kernel
theorem dX10_init_136 : decode cX10_init 136 = .ok (.aload_n 0, 1) := by decide +kernel
theorem dX10_init_137 : decode cX10_init 137 = .ok (.bipush 6, 2) := by decide +kernel
theorem dX10_init_139 : decode cX10_init 139 = .ok (.newarray .int, 2) := by decide +kernel
theorem dX10_init_141 : decode cX10_init 141 = .ok (.putfield 66, 3) := by decide +kernel
theorem dX10_init_144 : decode cX10_init 144 = .ok (.aload_n 0, 1) := by decide +kernel
theorem dX10_init_145 : decode cX10_init 145 = .ok (.sipush 3000, 3) := by decide +kernel
theorem dX10_init_148 : decode cX10_init 148 = .ok (.newarray .boolean, 2) := by decide +kernel
theorem dX10_init_150 : decode cX10_init 150 = .ok (.putfield 69, 3) := by decide +kernel
theorem dX10_init_153 : decode cX10_init 153 = .ok (.aload_n 0, 1) := by decide +kernel
theorem dX10_init_154 : decode cX10_init 154 = .ok (.bipush 6, 2) := by decide +kernel
theorem dX10_init_156 : decode cX10_init 156 = .ok (.newarray .int, 2) := by decide +kernel
theorem dX10_init_158 : decode cX10_init 158 = .ok (.putfield 73, 3) := by decide +kernel
theorem dX10_init_161 : decode cX10_init 161 = .ok (.aload_n 0, 1) := by decide +kernel
theorem dX10_init_162 : decode cX10_init 162 = .ok (.bipush 6, 2) := by decide +kernel
theorem dX10_init_164 : decode cX10_init 164 = .ok (.newarray .int, 2) := by decide +kernel
theorem dX10_init_166 : decode cX10_init 166 = .ok (.putfield 76, 3) := by decide +kernel
theorem dX10_init_169 : decode cX10_init 169 = .ok (.aload_n 0, 1) := by decide +kernel
theorem dX10_init_170 : decode cX10_init 170 = .ok (.sipush 1800, 3) := by decide +kernel
theorem dX10_init_173 : decode cX10_init 173 = .ok (.newarray .long, 2) := by decide +kernel
theorem dX10_init_175 : decode cX10_init 175 = .ok (.putfield 79, 3) := by decide +kernel
theorem dX10_init_178 : decode cX10_init 178 = .ok (.aload_n 0, 1) := by decide +kernel
theorem dX10_init_179 : decode cX10_init 179 = .ok (.sipush 301, 3) := by decide +kernel
theorem dX10_init_182 : decode cX10_init 182 = .ok (.newarray .long, 2) := by decide +kernel
theorem dX10_init_184 : decode cX10_init 184 = .ok (.putfield 83, 3) := by decide +kernel
theorem dX10_init_187 : decode cX10_init 187 = .ok (.aload_n 0, 1) := by decide +kernel
theorem dX10_init_188 : decode cX10_init 188 = .ok (.sipush 300, 3) := by decide +kernel
theorem dX10_init_191 : decode cX10_init 191 = .ok (.newarray .boolean, 2) := by decide +kernel
theorem dX10_init_193 : decode cX10_init 193 = .ok (.putfield 86, 3) := by decide +kernel
theorem dX10_init_196 : decode cX10_init 196 = .ok (.aload_n 0, 1) := by decide +kernel
theorem dX10_init_197 : decode cX10_init 197 = .ok (.bipush 6, 2) := by decide +kernel
theorem dX10_init_199 : decode cX10_init 199 = .ok (.newarray .int, 2) := by decide +kernel
theorem dX10_init_201 : decode cX10_init 201 = .ok (.putfield 89, 3) := by decide +kernel
theorem dX10_init_204 : decode cX10_init 204 = .ok (.aload_n 0, 1) := by decide +kernel
theorem dX10_init_205 : decode cX10_init 205 = .ok (.sipush 10000, 3) := by decide +kernel
theorem dX10_init_208 : decode cX10_init 208 = .ok (.newarray .int, 2) := by decide +kernel
theorem dX10_init_210 : decode cX10_init 210 = .ok (.putfield 92, 3) := by decide +kernel
theorem dX10_init_213 : decode cX10_init 213 = .ok (.aload_n 0, 1) := by decide +kernel
theorem dX10_init_214 : decode cX10_init 214 = .ok (.sipush 150, 3) := by decide +kernel
theorem dX10_init_217 : decode cX10_init 217 = .ok (.newarray .int, 2) := by decide +kernel
theorem dX10_init_219 : decode cX10_init 219 = .ok (.putfield 95, 3) := by decide +kernel
theorem dX10_init_222 : decode cX10_init 222 = .ok (.iconst 0, 1) := by decide +kernel
theorem dX10_init_223 : decode cX10_init 223 = .ok (.istore_n 1, 1) := by decide +kernel
theorem dX10_init_224 : decode cX10_init 224 = .ok (.iload_n 1, 1) := by decide +kernel
theorem dX10_init_225 : decode cX10_init 225 = .ok (.bipush 6, 2) := by decide +kernel
theorem dX10_init_227 : decode cX10_init 227 = .ok (.if_icmp .ge 16, 3) := by decide +kernel
theorem dX10_init_230 : decode cX10_init 230 = .ok (.aload_n 0, 1) := by decide +kernel
theorem dX10_init_231 : decode cX10_init 231 = .ok (.getfield 60, 3) := by decide +kernel
theorem dX10_init_234 : decode cX10_init 234 = .ok (.iload_n 1, 1) := by decide +kernel
theorem dX10_init_235 : decode cX10_init 235 = .ok (.iconst (-1), 1) := by decide +kernel
theorem dX10_init_236 : decode cX10_init 236 = .ok (.iastore, 1) := by decide +kernel
theorem dX10_init_237 : decode cX10_init 237 = .ok (.iinc 1 1, 3) := by decide +kernel
theorem dX10_init_240 : decode cX10_init 240 = .ok (.goto (-16), 3) := by decide +kernel
theorem dX10_init_243 : decode cX10_init 243 = .ok (.return_, 1) := by decide +kernel
theorem by_X7_init : bd_Y yX7_init 0 := ⟨by decide +kernel, by decide +kernel, by decide +kernel⟩
theorem by_X4_init : bd_Y yX4_init 0 := ⟨by decide +kernel, by decide +kernel, by decide +kernel⟩
theorem by_X8_init : bd_Y yX8_init 0 := ⟨by decide +kernel, by decide +kernel, by decide +kernel⟩
theorem by_X6_init : bd_Y yX6_init 0 := ⟨by decide +kernel, by decide +kernel, by decide +kernel⟩
theorem by_X0_init : bd_Y yX0_init 0 := ⟨by decide +kernel, by decide +kernel, by decide +kernel⟩
theorem by_X2_init : bd_Y yX2_init 0 := ⟨by decide +kernel, by decide +kernel, by decide +kernel⟩
theorem by_X5_init : bd_Y yX5_init 0 := ⟨by decide +kernel, by decide +kernel, by decide +kernel⟩
theorem by_X1_init : bd_Y yX1_init 0 := ⟨by decide +kernel, by decide +kernel, by decide +kernel⟩
theorem by_X3_init : bd_Y yX3_init 0 := ⟨by decide +kernel, by decide +kernel, by decide +kernel⟩
theorem by_X9_init : bd_Y yX9_init 0 := ⟨by decide +kernel, by decide +kernel, by decide +kernel⟩
theorem by_X10_init : bd_Y yX10_init 0 := ⟨by decide +kernel, by decide +kernel, by decide +kernel⟩
def G_X7_init (ε : bd_E) (h : Nat) (u : Nat → Nat) : va_W := ([(h, .inr (6, [.int 0, .ref (u 0), .ref (u 1), .ref (u 2), .ref (u 3), .ref (u 4), .ref (u 5)]))] ++ [((u 0), .inl (ε.1, 6, .inl (fun _ => 0))), ((u 1), .inl (ε.1, 6, .inl (fun _ => 0))), ((u 2), .inl (ε.1, 6, .inl (fun _ => 0))), ((u 3), .inl (ε.1, 6, .inl (fun _ => 0))), ((u 4), .inl (ε.1, 6, .inl (fun _ => 0))), ((u 5), .inl (ε.1, 6, .inl (fun _ => 0)))])
set_option maxRecDepth 100000 in
set_option maxHeartbeats 4000000 in
theorem k_X7_init (l : Launch) (D : va_G) (ε : bd_E) (h : Nat) : bk_Con l yX7_init (Cond.code yX7_init cX7_init 1 none :: bd_tbl) ({ frames := 1, cells := 6, slots := 36, locals := 12 } : Room) D ε h [(h, .inr (6, [.int 0, .null, .null, .null, .null, .null, .null]))] (G_X7_init ε h) 6 36 :=
  bk_con (by decide +kernel) rfl (Nat.le_of_ble_eq_true rfl) ⟨rfl, rfl⟩ (fun Γ _ _ hC => by
    refine bk_aload_n hC 0 dX7_init_0 rfl rfl ?_
    refine bk_obj hC mw_102 mw_91 mw_92 (Nat.le_of_ble_eq_true rfl) (Nat.le_of_ble_eq_true rfl) dX7_init_1 ?_
    refine bk_aload_n hC 0 dX7_init_4 rfl rfl ?_
    refine bk_bipush hC (6 : Int32) dX7_init_5 rfl ?_
    refine bk_newI hC 6 mw_117 (by decide) rfl (Nat.le_of_ble_eq_true rfl) (Nat.le_of_ble_eq_true rfl) (Nat.le_of_ble_eq_true rfl) (fun q1 => [(h, .inr (6, [.int 0, .null, .null, .null, .null, .null, .null])), (q1, .inl (ε.1, 6, .inl (fun _ => 0)))]) (fun _ => rfl) dX7_init_7 (fun q1 => ?_)
    refine bk_putF hC [.int 0, .ref q1, .null, .null, .null, .null, .null] hin_X7 tyX7 tyX7_ok nmX7 rfl 1 (by decide) mw_104 rfl rfl rfl rfl (Nat.le_of_ble_eq_true rfl) rfl dX7_init_9 ?_
    refine bk_aload_n hC 0 dX7_init_12 rfl rfl ?_
    refine bk_bipush hC (6 : Int32) dX7_init_13 rfl ?_
    refine bk_newI hC 6 mw_117 (by decide) rfl (Nat.le_of_ble_eq_true rfl) (Nat.le_of_ble_eq_true rfl) (Nat.le_of_ble_eq_true rfl) (fun q2 => [(h, .inr (6, [.int 0, .ref q1, .null, .null, .null, .null, .null])), (q1, .inl (ε.1, 6, .inl (fun _ => 0))), (q2, .inl (ε.1, 6, .inl (fun _ => 0)))]) (fun _ => rfl) dX7_init_15 (fun q2 => ?_)
    refine bk_putF hC [.int 0, .ref q1, .ref q2, .null, .null, .null, .null] hin_X7 tyX7 tyX7_ok nmX7 rfl 2 (by decide) mw_105 rfl rfl rfl rfl (Nat.le_of_ble_eq_true rfl) rfl dX7_init_17 ?_
    refine bk_aload_n hC 0 dX7_init_20 rfl rfl ?_
    refine bk_bipush hC (6 : Int32) dX7_init_21 rfl ?_
    refine bk_newI hC 6 mw_117 (by decide) rfl (Nat.le_of_ble_eq_true rfl) (Nat.le_of_ble_eq_true rfl) (Nat.le_of_ble_eq_true rfl) (fun q3 => [(h, .inr (6, [.int 0, .ref q1, .ref q2, .null, .null, .null, .null])), (q1, .inl (ε.1, 6, .inl (fun _ => 0))), (q2, .inl (ε.1, 6, .inl (fun _ => 0))), (q3, .inl (ε.1, 6, .inl (fun _ => 0)))]) (fun _ => rfl) dX7_init_23 (fun q3 => ?_)
    refine bk_putF hC [.int 0, .ref q1, .ref q2, .ref q3, .null, .null, .null] hin_X7 tyX7 tyX7_ok nmX7 rfl 3 (by decide) mw_106 rfl rfl rfl rfl (Nat.le_of_ble_eq_true rfl) rfl dX7_init_25 ?_
    refine bk_aload_n hC 0 dX7_init_28 rfl rfl ?_
    refine bk_bipush hC (6 : Int32) dX7_init_29 rfl ?_
    refine bk_newI hC 6 mw_117 (by decide) rfl (Nat.le_of_ble_eq_true rfl) (Nat.le_of_ble_eq_true rfl) (Nat.le_of_ble_eq_true rfl) (fun q4 => [(h, .inr (6, [.int 0, .ref q1, .ref q2, .ref q3, .null, .null, .null])), (q1, .inl (ε.1, 6, .inl (fun _ => 0))), (q2, .inl (ε.1, 6, .inl (fun _ => 0))), (q3, .inl (ε.1, 6, .inl (fun _ => 0))), (q4, .inl (ε.1, 6, .inl (fun _ => 0)))]) (fun _ => rfl) dX7_init_31 (fun q4 => ?_)
    refine bk_putF hC [.int 0, .ref q1, .ref q2, .ref q3, .ref q4, .null, .null] hin_X7 tyX7 tyX7_ok nmX7 rfl 4 (by decide) mw_107 rfl rfl rfl rfl (Nat.le_of_ble_eq_true rfl) rfl dX7_init_33 ?_
    refine bk_aload_n hC 0 dX7_init_36 rfl rfl ?_
    refine bk_bipush hC (6 : Int32) dX7_init_37 rfl ?_
    refine bk_newI hC 6 mw_117 (by decide) rfl (Nat.le_of_ble_eq_true rfl) (Nat.le_of_ble_eq_true rfl) (Nat.le_of_ble_eq_true rfl) (fun q5 => [(h, .inr (6, [.int 0, .ref q1, .ref q2, .ref q3, .ref q4, .null, .null])), (q1, .inl (ε.1, 6, .inl (fun _ => 0))), (q2, .inl (ε.1, 6, .inl (fun _ => 0))), (q3, .inl (ε.1, 6, .inl (fun _ => 0))), (q4, .inl (ε.1, 6, .inl (fun _ => 0))), (q5, .inl (ε.1, 6, .inl (fun _ => 0)))]) (fun _ => rfl) dX7_init_39 (fun q5 => ?_)
    refine bk_putF hC [.int 0, .ref q1, .ref q2, .ref q3, .ref q4, .ref q5, .null] hin_X7 tyX7 tyX7_ok nmX7 rfl 5 (by decide) mw_108 rfl rfl rfl rfl (Nat.le_of_ble_eq_true rfl) rfl dX7_init_41 ?_
    refine bk_aload_n hC 0 dX7_init_44 rfl rfl ?_
    refine bk_bipush hC (6 : Int32) dX7_init_45 rfl ?_
    refine bk_newI hC 6 mw_117 (by decide) rfl (Nat.le_of_ble_eq_true rfl) (Nat.le_of_ble_eq_true rfl) (Nat.le_of_ble_eq_true rfl) (fun q6 => [(h, .inr (6, [.int 0, .ref q1, .ref q2, .ref q3, .ref q4, .ref q5, .null])), (q1, .inl (ε.1, 6, .inl (fun _ => 0))), (q2, .inl (ε.1, 6, .inl (fun _ => 0))), (q3, .inl (ε.1, 6, .inl (fun _ => 0))), (q4, .inl (ε.1, 6, .inl (fun _ => 0))), (q5, .inl (ε.1, 6, .inl (fun _ => 0))), (q6, .inl (ε.1, 6, .inl (fun _ => 0)))]) (fun _ => rfl) dX7_init_47 (fun q6 => ?_)
    refine bk_putF hC [.int 0, .ref q1, .ref q2, .ref q3, .ref q4, .ref q5, .ref q6] hin_X7 tyX7 tyX7_ok nmX7 rfl 6 (by decide) mw_109 rfl rfl rfl rfl (Nat.le_of_ble_eq_true rfl) rfl dX7_init_49 ?_
    exact bk_ret hC (fun i => ([q1, q2, q3, q4, q5, q6] : List Nat).getD i 0) rfl rfl rfl dX7_init_52)
def G_X4_init (ε : bd_E) (h : Nat) (u : Nat → Nat) : va_W := ([(h, .inr (4, [.int 0, .int 0, .ref (u 0), .ref (u 1), .ref (u 2), .ref (u 3)]))] ++ [((u 0), .inl (ε.1, 10, .inl (fun _ => 0))), ((u 1), .inl (ε.1, 10, .inl (fun _ => 0))), ((u 2), .inl (ε.1, 10, .inl (fun _ => 0))), ((u 3), .inl (ε.1, 10, .inl (fun _ => 0)))])
set_option maxRecDepth 100000 in
set_option maxHeartbeats 4000000 in
theorem k_X4_init (l : Launch) (D : va_G) (ε : bd_E) (h : Nat) : bk_Con l yX4_init (Cond.code yX4_init cX4_init 1 none :: bd_tbl) ({ frames := 1, cells := 4, slots := 40, locals := 12 } : Room) D ε h [(h, .inr (4, [.int 0, .int 0, .null, .null, .null, .null]))] (G_X4_init ε h) 4 40 :=
  bk_con (by decide +kernel) rfl (Nat.le_of_ble_eq_true rfl) ⟨rfl, rfl⟩ (fun Γ _ _ hC => by
    refine bk_aload_n hC 0 dX4_init_0 rfl rfl ?_
    refine bk_obj hC mw_122 mw_91 mw_92 (Nat.le_of_ble_eq_true rfl) (Nat.le_of_ble_eq_true rfl) dX4_init_1 ?_
    refine bk_aload_n hC 0 dX4_init_4 rfl rfl ?_
    refine bk_bipush hC (10 : Int32) dX4_init_5 rfl ?_
    refine bk_newI hC 10 mw_117 (by decide) rfl (Nat.le_of_ble_eq_true rfl) (Nat.le_of_ble_eq_true rfl) (Nat.le_of_ble_eq_true rfl) (fun q1 => [(h, .inr (4, [.int 0, .int 0, .null, .null, .null, .null])), (q1, .inl (ε.1, 10, .inl (fun _ => 0)))]) (fun _ => rfl) dX4_init_7 (fun q1 => ?_)
    refine bk_putF hC [.int 0, .int 0, .ref q1, .null, .null, .null] hin_X4 tyX4 tyX4_ok nmX4 rfl 2 (by decide) mw_125 rfl rfl rfl rfl (Nat.le_of_ble_eq_true rfl) rfl dX4_init_9 ?_
    refine bk_aload_n hC 0 dX4_init_12 rfl rfl ?_
    refine bk_bipush hC (10 : Int32) dX4_init_13 rfl ?_
    refine bk_newI hC 10 mw_117 (by decide) rfl (Nat.le_of_ble_eq_true rfl) (Nat.le_of_ble_eq_true rfl) (Nat.le_of_ble_eq_true rfl) (fun q2 => [(h, .inr (4, [.int 0, .int 0, .ref q1, .null, .null, .null])), (q1, .inl (ε.1, 10, .inl (fun _ => 0))), (q2, .inl (ε.1, 10, .inl (fun _ => 0)))]) (fun _ => rfl) dX4_init_15 (fun q2 => ?_)
    refine bk_putF hC [.int 0, .int 0, .ref q1, .ref q2, .null, .null] hin_X4 tyX4 tyX4_ok nmX4 rfl 3 (by decide) mw_126 rfl rfl rfl rfl (Nat.le_of_ble_eq_true rfl) rfl dX4_init_17 ?_
    refine bk_aload_n hC 0 dX4_init_20 rfl rfl ?_
    refine bk_bipush hC (10 : Int32) dX4_init_21 rfl ?_
    refine bk_newI hC 10 mw_117 (by decide) rfl (Nat.le_of_ble_eq_true rfl) (Nat.le_of_ble_eq_true rfl) (Nat.le_of_ble_eq_true rfl) (fun q3 => [(h, .inr (4, [.int 0, .int 0, .ref q1, .ref q2, .null, .null])), (q1, .inl (ε.1, 10, .inl (fun _ => 0))), (q2, .inl (ε.1, 10, .inl (fun _ => 0))), (q3, .inl (ε.1, 10, .inl (fun _ => 0)))]) (fun _ => rfl) dX4_init_23 (fun q3 => ?_)
    refine bk_putF hC [.int 0, .int 0, .ref q1, .ref q2, .ref q3, .null] hin_X4 tyX4 tyX4_ok nmX4 rfl 4 (by decide) mw_127 rfl rfl rfl rfl (Nat.le_of_ble_eq_true rfl) rfl dX4_init_25 ?_
    refine bk_aload_n hC 0 dX4_init_28 rfl rfl ?_
    refine bk_bipush hC (10 : Int32) dX4_init_29 rfl ?_
    refine bk_newI hC 10 mw_117 (by decide) rfl (Nat.le_of_ble_eq_true rfl) (Nat.le_of_ble_eq_true rfl) (Nat.le_of_ble_eq_true rfl) (fun q4 => [(h, .inr (4, [.int 0, .int 0, .ref q1, .ref q2, .ref q3, .null])), (q1, .inl (ε.1, 10, .inl (fun _ => 0))), (q2, .inl (ε.1, 10, .inl (fun _ => 0))), (q3, .inl (ε.1, 10, .inl (fun _ => 0))), (q4, .inl (ε.1, 10, .inl (fun _ => 0)))]) (fun _ => rfl) dX4_init_31 (fun q4 => ?_)
    refine bk_putF hC [.int 0, .int 0, .ref q1, .ref q2, .ref q3, .ref q4] hin_X4 tyX4 tyX4_ok nmX4 rfl 5 (by decide) mw_128 rfl rfl rfl rfl (Nat.le_of_ble_eq_true rfl) rfl dX4_init_33 ?_
    exact bk_ret hC (fun i => ([q1, q2, q3, q4] : List Nat).getD i 0) rfl rfl rfl dX4_init_36)
def G_X8_init (ε : bd_E) (h : Nat) (u : Nat → Nat) : va_W := ((([(h, .inr (7, [.ref (u 0), .ref (u 7), .int 200, .int 0, .int (-1), .int 0, .ref (u 12), .ref (u 13), .ref (u 14)]))] ++ G_X7_init ε (u 0) (fun i => u (1 + i))) ++ G_X4_init ε (u 7) (fun i => u (8 + i))) ++ [((u 12), .inl (ε.1, 4, .inl (fun _ => 0))), ((u 13), .inl (ε.1, 4, .inl (fun _ => 0))), ((u 14), .inl (ε.1, 300, .inl (fun _ => 0)))])
set_option maxRecDepth 100000 in
set_option maxHeartbeats 4000000 in
theorem k_X8_init (l : Launch) (D : va_G) (ε : bd_E) (h : Nat) : bk_Con l yX8_init (Cond.code yX8_init cX8_init 1 none :: bd_tbl) ({ frames := 2, cells := 15, slots := 397, locals := 32 } : Room) D ε h [(h, .inr (7, [.null, .null, .int 0, .int 0, .int 0, .int 0, .null, .null, .null]))] (G_X8_init ε h) 15 397 :=
  bk_con (by decide +kernel) rfl (Nat.le_of_ble_eq_true rfl) ⟨rfl, rfl⟩ (fun Γ _ _ hC => by
    refine bk_aload_n hC 0 dX8_init_0 rfl rfl ?_
    refine bk_obj hC mw_97 mw_91 mw_92 (Nat.le_of_ble_eq_true rfl) (Nat.le_of_ble_eq_true rfl) dX8_init_1 ?_
    refine bk_aload_n hC 0 dX8_init_4 rfl rfl ?_
    refine bk_new hC [.int 0, .null, .null, .null, .null, .null, .null] hin_X7 tyX7 tyX7_ok (ci := 6) mw_98 mw_99 mw_74 rfl (fun j hj => by match j, hj with | 0, _ => rfl | 1, _ => rfl | 2, _ => rfl | 3, _ => rfl | 4, _ => rfl | 5, _ => rfl | 6, _ => rfl | j + 7, h => exact absurd h (by omega)) (Nat.le_of_ble_eq_true rfl) (Nat.le_of_ble_eq_true rfl) (fun q1 => [(h, .inr (7, [.null, .null, .int 0, .int 0, .int 0, .int 0, .null, .null, .null])), (q1, .inr (6, [.int 0, .null, .null, .null, .null, .null, .null]))]) (fun _ => rfl) dX8_init_5 (fun q1 => ?_)
    refine bk_dup hC dX8_init_8 rfl ?_
    refine bk_callN (cells := 1) (slots := 7) (wr := (h, .inr (7, [.null, .null, .int 0, .int 0, .int 0, .int 0, .null, .null, .null])) :: []) hC (rm := ({ frames := 1, cells := 6, slots := 36, locals := 12 } : Room)) [.ref q1, .ref h] (k_X7_init (bd_l Γ) (bd_D Γ) ε q1) mw_101 nm_1 mw_100 mw_74 by_X7_init rfl ⟨rfl, rfl, Nat.le_of_ble_eq_true rfl, Nat.le_of_ble_eq_true rfl⟩ (Nat.le_of_ble_eq_true rfl) (Nat.le_of_ble_eq_true rfl) (Nat.le_of_ble_eq_true rfl) dX8_init_9 (fun u2 => ?_)
    refine bk_putF hC [.ref q1, .null, .int 0, .int 0, .int 0, .int 0, .null, .null, .null] hin_X8 tyX8 tyX8_ok nmX8 rfl 0 (by decide) mw_135 rfl rfl rfl rfl (Nat.le_of_ble_eq_true rfl) rfl dX8_init_12 ?_
    refine bk_aload_n hC 0 dX8_init_15 rfl rfl ?_
    refine bk_new hC [.int 0, .int 0, .null, .null, .null, .null] hin_X4 tyX4 tyX4_ok (ci := 4) mw_118 mw_119 mw_75 rfl (fun j hj => by match j, hj with | 0, _ => rfl | 1, _ => rfl | 2, _ => rfl | 3, _ => rfl | 4, _ => rfl | 5, _ => rfl | j + 6, h => exact absurd h (by omega)) (Nat.le_of_ble_eq_true rfl) (Nat.le_of_ble_eq_true rfl) _ (fun _ => rfl) dX8_init_16 (fun q3 => ?_)
    refine bk_dup hC dX8_init_19 rfl ?_
    refine bk_callN (cells := 8) (slots := 49) (wr := (h, .inr (7, [.ref q1, .null, .int 0, .int 0, .int 0, .int 0, .null, .null, .null])) :: ([] ++ G_X7_init ε q1 u2)) hC (rm := ({ frames := 1, cells := 4, slots := 40, locals := 12 } : Room)) [.ref q3, .ref h] (k_X4_init (bd_l Γ) (bd_D Γ) ε q3) mw_121 nm_2 mw_120 mw_75 by_X4_init rfl ⟨rfl, rfl, Nat.le_of_ble_eq_true rfl, Nat.le_of_ble_eq_true rfl⟩ (Nat.le_of_ble_eq_true rfl) (Nat.le_of_ble_eq_true rfl) (Nat.le_of_ble_eq_true rfl) dX8_init_20 (fun u4 => ?_)
    refine bk_putF hC [.ref q1, .ref q3, .int 0, .int 0, .int 0, .int 0, .null, .null, .null] hin_X8 tyX8 tyX8_ok nmX8 rfl 1 (by decide) mw_136 rfl rfl rfl rfl (Nat.le_of_ble_eq_true rfl) rfl dX8_init_23 ?_
    refine bk_aload_n hC 0 dX8_init_26 rfl rfl ?_
    refine bk_sipush hC (200 : Int32) dX8_init_27 rfl ?_
    refine bk_put hC [.ref q1, .ref q3, .int 200, .int 0, .int 0, .int 0, .null, .null, .null] hin_X8 tyX8 tyX8_ok nmX8 rfl 2 (by decide) mw_137 rfl rfl rfl (Nat.le_of_ble_eq_true rfl) rfl dX8_init_30 ?_
    refine bk_aload_n hC 0 dX8_init_33 rfl rfl ?_
    refine bk_iconst hC (0 : Int32) dX8_init_34 rfl ?_
    refine bk_put hC [.ref q1, .ref q3, .int 200, .int 0, .int 0, .int 0, .null, .null, .null] hin_X8 tyX8 tyX8_ok nmX8 rfl 3 (by decide) mw_138 rfl rfl rfl (Nat.le_of_ble_eq_true rfl) rfl dX8_init_35 ?_
    refine bk_aload_n hC 0 dX8_init_38 rfl rfl ?_
    refine bk_iconst hC (-1 : Int32) dX8_init_39 rfl ?_
    refine bk_put hC [.ref q1, .ref q3, .int 200, .int 0, .int (-1), .int 0, .null, .null, .null] hin_X8 tyX8 tyX8_ok nmX8 rfl 4 (by decide) mw_139 rfl rfl rfl (Nat.le_of_ble_eq_true rfl) rfl dX8_init_40 ?_
    refine bk_aload_n hC 0 dX8_init_43 rfl rfl ?_
    refine bk_iconst hC (4 : Int32) dX8_init_44 rfl ?_
    refine bk_newI hC 4 mw_117 (by decide) rfl (Nat.le_of_ble_eq_true rfl) (Nat.le_of_ble_eq_true rfl) (Nat.le_of_ble_eq_true rfl) _ (fun _ => rfl) dX8_init_45 (fun q5 => ?_)
    refine bk_putF hC [.ref q1, .ref q3, .int 200, .int 0, .int (-1), .int 0, .ref q5, .null, .null] hin_X8 tyX8 tyX8_ok nmX8 rfl 6 (by decide) mw_141 rfl rfl rfl rfl (Nat.le_of_ble_eq_true rfl) rfl dX8_init_47 ?_
    refine bk_aload_n hC 0 dX8_init_50 rfl rfl ?_
    refine bk_iconst hC (4 : Int32) dX8_init_51 rfl ?_
    refine bk_newI hC 4 mw_117 (by decide) rfl (Nat.le_of_ble_eq_true rfl) (Nat.le_of_ble_eq_true rfl) (Nat.le_of_ble_eq_true rfl) _ (fun _ => rfl) dX8_init_52 (fun q6 => ?_)
    refine bk_putF hC [.ref q1, .ref q3, .int 200, .int 0, .int (-1), .int 0, .ref q5, .ref q6, .null] hin_X8 tyX8 tyX8_ok nmX8 rfl 7 (by decide) mw_142 rfl rfl rfl rfl (Nat.le_of_ble_eq_true rfl) rfl dX8_init_54 ?_
    refine bk_aload_n hC 0 dX8_init_57 rfl rfl ?_
    refine bk_sipush hC (300 : Int32) dX8_init_58 rfl ?_
    refine bk_newI hC 300 mw_117 (by decide) rfl (Nat.le_of_ble_eq_true rfl) (Nat.le_of_ble_eq_true rfl) (Nat.le_of_ble_eq_true rfl) _ (fun _ => rfl) dX8_init_61 (fun q7 => ?_)
    refine bk_putF hC [.ref q1, .ref q3, .int 200, .int 0, .int (-1), .int 0, .ref q5, .ref q6, .ref q7] hin_X8 tyX8 tyX8_ok nmX8 rfl 8 (by decide) mw_143 rfl rfl rfl rfl (Nat.le_of_ble_eq_true rfl) rfl dX8_init_63 ?_
    exact bk_ret hC (fun i => ([q1, (u2 0), (u2 1), (u2 2), (u2 3), (u2 4), (u2 5), q3, (u4 0), (u4 1), (u4 2), (u4 3), q5, q6, q7] : List Nat).getD i 0) rfl rfl rfl dX8_init_66)
def G_X6_init (ε : bd_E) (h : Nat) (u : Nat → Nat) : va_W := ([(h, .inr (5, [.ref (u 0), .int 0, .int 0, .int 0, .int 0, .int 0]))] ++ [((u 0), .inl (ε.1, 20, .inl (fun _ => 0)))])
set_option maxRecDepth 100000 in
set_option maxHeartbeats 4000000 in
theorem k_X6_init (l : Launch) (D : va_G) (ε : bd_E) (h : Nat) : bk_Con l yX6_init (Cond.code yX6_init cX6_init 1 none :: bd_tbl) ({ frames := 1, cells := 1, slots := 20, locals := 12 } : Room) D ε h [(h, .inr (5, [.null, .int 0, .int 0, .int 0, .int 0, .int 0]))] (G_X6_init ε h) 1 20 :=
  bk_con (by decide +kernel) rfl (Nat.le_of_ble_eq_true rfl) ⟨rfl, rfl⟩ (fun Γ _ _ hC => by
    refine bk_aload_n hC 0 dX6_init_0 rfl rfl ?_
    refine bk_obj hC mw_157 mw_91 mw_92 (Nat.le_of_ble_eq_true rfl) (Nat.le_of_ble_eq_true rfl) dX6_init_1 ?_
    refine bk_aload_n hC 0 dX6_init_4 rfl rfl ?_
    refine bk_bipush hC (20 : Int32) dX6_init_5 rfl ?_
    refine bk_newI hC 20 mw_117 (by decide) rfl (Nat.le_of_ble_eq_true rfl) (Nat.le_of_ble_eq_true rfl) (Nat.le_of_ble_eq_true rfl) (fun q1 => [(h, .inr (5, [.null, .int 0, .int 0, .int 0, .int 0, .int 0])), (q1, .inl (ε.1, 20, .inl (fun _ => 0)))]) (fun _ => rfl) dX6_init_7 (fun q1 => ?_)
    refine bk_putF hC [.ref q1, .int 0, .int 0, .int 0, .int 0, .int 0] hin_X6 tyX6 tyX6_ok nmX6 rfl 0 (by decide) mw_158 rfl rfl rfl rfl (Nat.le_of_ble_eq_true rfl) rfl dX6_init_9 ?_
    exact bk_ret hC (fun i => ([q1] : List Nat).getD i 0) rfl rfl rfl dX6_init_12)
def G_X0_init (ε : bd_E) (h : Nat) (u : Nat → Nat) : va_W := ([(h, .inr (0, [.ref (u 0), .int 0]))] ++ [((u 0), .inl (ε.1, 1800, .inl (fun _ => 0)))])
set_option maxRecDepth 100000 in
set_option maxHeartbeats 4000000 in
theorem k_X0_init (l : Launch) (D : va_G) (ε : bd_E) (h : Nat) : bk_Con l yX0_init (Cond.code yX0_init cX0_init 1 none :: bd_tbl) ({ frames := 1, cells := 1, slots := 1800, locals := 12 } : Room) D ε h [(h, .inr (0, [.null, .int 0]))] (G_X0_init ε h) 1 1800 :=
  bk_con (by decide +kernel) rfl (Nat.le_of_ble_eq_true rfl) ⟨rfl, rfl⟩ (fun Γ _ _ hC => by
    refine bk_aload_n hC 0 dX0_init_0 rfl rfl ?_
    refine bk_obj hC mw_174 mw_91 mw_92 (Nat.le_of_ble_eq_true rfl) (Nat.le_of_ble_eq_true rfl) dX0_init_1 ?_
    refine bk_aload_n hC 0 dX0_init_4 rfl rfl ?_
    refine bk_sipush hC (1800 : Int32) dX0_init_5 rfl ?_
    refine bk_newI hC 1800 mw_117 (by decide) rfl (Nat.le_of_ble_eq_true rfl) (Nat.le_of_ble_eq_true rfl) (Nat.le_of_ble_eq_true rfl) (fun q1 => [(h, .inr (0, [.null, .int 0])), (q1, .inl (ε.1, 1800, .inl (fun _ => 0)))]) (fun _ => rfl) dX0_init_8 (fun q1 => ?_)
    refine bk_putF hC [.ref q1, .int 0] hin_X0 tyX0 tyX0_ok nmX0 rfl 0 (by decide) mw_175 rfl rfl rfl rfl (Nat.le_of_ble_eq_true rfl) rfl dX0_init_10 ?_
    exact bk_ret hC (fun i => ([q1] : List Nat).getD i 0) rfl rfl rfl dX0_init_13)
def G_X2_init (ε : bd_E) (h : Nat) (u : Nat → Nat) : va_W := ([(h, .inr (2, [.ref (u 0), .ref (u 1), .int 0]))] ++ [((u 0), .inl (ε.2.1, 1800, .inr (.inl (fun _ => 0)))), ((u 1), .inl (ε.1, 6, .inl (fun _ => 0)))])
set_option maxRecDepth 100000 in
set_option maxHeartbeats 4000000 in
theorem k_X2_init (l : Launch) (D : va_G) (ε : bd_E) (h : Nat) : bk_Con l yX2_init (Cond.code yX2_init cX2_init 1 none :: bd_tbl) ({ frames := 1, cells := 2, slots := 1806, locals := 12 } : Room) D ε h [(h, .inr (2, [.null, .null, .int 0]))] (G_X2_init ε h) 2 1806 :=
  bk_con (by decide +kernel) rfl (Nat.le_of_ble_eq_true rfl) ⟨rfl, rfl⟩ (fun Γ _ _ hC => by
    refine bk_aload_n hC 0 dX2_init_0 rfl rfl ?_
    refine bk_obj hC mw_183 mw_91 mw_92 (Nat.le_of_ble_eq_true rfl) (Nat.le_of_ble_eq_true rfl) dX2_init_1 ?_
    refine bk_aload_n hC 0 dX2_init_4 rfl rfl ?_
    refine bk_sipush hC (1800 : Int32) dX2_init_5 rfl ?_
    refine bk_newJ hC 1800 mw_190 (by decide) rfl (Nat.le_of_ble_eq_true rfl) (Nat.le_of_ble_eq_true rfl) (Nat.le_of_ble_eq_true rfl) (fun q1 => [(h, .inr (2, [.null, .null, .int 0])), (q1, .inl (ε.2.1, 1800, .inr (.inl (fun _ => 0))))]) (fun _ => rfl) dX2_init_8 (fun q1 => ?_)
    refine bk_putF hC [.ref q1, .null, .int 0] hin_X2 tyX2 tyX2_ok nmX2 rfl 0 (by decide) mw_184 rfl rfl rfl rfl (Nat.le_of_ble_eq_true rfl) rfl dX2_init_10 ?_
    refine bk_aload_n hC 0 dX2_init_13 rfl rfl ?_
    refine bk_bipush hC (6 : Int32) dX2_init_14 rfl ?_
    refine bk_newI hC 6 mw_117 (by decide) rfl (Nat.le_of_ble_eq_true rfl) (Nat.le_of_ble_eq_true rfl) (Nat.le_of_ble_eq_true rfl) (fun q2 => [(h, .inr (2, [.ref q1, .null, .int 0])), (q1, .inl (ε.2.1, 1800, .inr (.inl (fun _ => 0)))), (q2, .inl (ε.1, 6, .inl (fun _ => 0)))]) (fun _ => rfl) dX2_init_16 (fun q2 => ?_)
    refine bk_putF hC [.ref q1, .ref q2, .int 0] hin_X2 tyX2 tyX2_ok nmX2 rfl 1 (by decide) mw_185 rfl rfl rfl rfl (Nat.le_of_ble_eq_true rfl) rfl dX2_init_18 ?_
    exact bk_ret hC (fun i => ([q1, q2] : List Nat).getD i 0) rfl rfl rfl dX2_init_21)
theorem k_X5_init (l : Launch) (D : va_G) (ε : bd_E) (h ci : Nat) (fs : List Value) : bk_Con l yX5_init (Cond.code yX5_init cX5_init 1 none :: bd_tbl) ({ frames := 1, cells := 0, slots := 0, locals := 12 } : Room) D ε h [(h, .inr (ci, fs))] (fun _ => [(h, .inr (ci, fs))]) 0 0 :=
  bk_con (by decide +kernel) rfl (Nat.le_of_ble_eq_true rfl) ⟨rfl, rfl⟩ (fun Γ _ _ hC => by
    refine bk_aload_n hC 0 dX5_init_0 rfl rfl ?_
    refine bk_obj hC mw_197 mw_91 mw_92 (Nat.le_of_ble_eq_true rfl) (Nat.le_of_ble_eq_true rfl) dX5_init_1 ?_
    exact bk_ret hC (fun _ => 0) rfl rfl rfl dX5_init_4)
def G_X1_init (ε : bd_E) (h : Nat) (u : Nat → Nat) : va_W := ([(h, .inr (1, [.ref (u 0)]))] ++ [((u 0), .inl (ε.2.1, 301, .inr (.inl (fun _ => 0))))])
set_option maxRecDepth 100000 in
set_option maxHeartbeats 4000000 in
theorem k_X1_init (l : Launch) (D : va_G) (ε : bd_E) (h : Nat) : bk_Con l yX1_init (Cond.code yX1_init cX1_init 1 none :: bd_tbl) ({ frames := 2, cells := 1, slots := 301, locals := 32 } : Room) D ε h [(h, .inr (1, [.null]))] (G_X1_init ε h) 1 301 :=
  bk_con (by decide +kernel) rfl (Nat.le_of_ble_eq_true rfl) ⟨rfl, rfl⟩ (fun Γ _ _ hC => by
    refine bk_aload_n hC 0 dX1_init_0 rfl rfl ?_
    refine bk_callN (wr := []) hC (rm := ({ frames := 1, cells := 0, slots := 0, locals := 12 } : Room)) [] (k_X5_init (bd_l Γ) (bd_D Γ) ε h 1 [.null]) mw_196 nm_7 mw_195 mw_79 by_X5_init rfl ⟨rfl, rfl, Nat.le_of_ble_eq_true rfl, Nat.le_of_ble_eq_true rfl⟩ (Nat.le_of_ble_eq_true rfl) (Nat.le_of_ble_eq_true rfl) (Nat.le_of_ble_eq_true rfl) dX1_init_1 (fun _ => ?_)
    show bd_U Γ 1 0 0 [(h, .inr (1, [.null]))] _ _ _
    refine bk_aload_n hC 0 dX1_init_4 rfl rfl ?_
    refine bk_sipush hC (301 : Int32) dX1_init_5 rfl ?_
    refine bk_newJ hC 301 mw_190 (by decide) rfl (Nat.le_of_ble_eq_true rfl) (Nat.le_of_ble_eq_true rfl) (Nat.le_of_ble_eq_true rfl) (fun q1 => [(h, .inr (1, [.null])), (q1, .inl (ε.2.1, 301, .inr (.inl (fun _ => 0))))]) (fun _ => rfl) dX1_init_8 (fun q1 => ?_)
    refine bk_putF hC [.ref q1] hin_X1 tyX1 tyX1_ok nmX1 rfl 0 (by decide) mw_198 rfl rfl rfl rfl (Nat.le_of_ble_eq_true rfl) rfl dX1_init_10 ?_
    exact bk_ret hC (fun i => ([q1] : List Nat).getD i 0) rfl rfl rfl dX1_init_13)
def G_X3_init (ε : bd_E) (h : Nat) (u : Nat → Nat) : va_W := ([(h, .inr (3, [.ref (u 0)]))] ++ [((u 0), .inl (ε.2.1, 2700, .inr (.inl (fun _ => 0))))])
set_option maxRecDepth 100000 in
set_option maxHeartbeats 4000000 in
theorem k_X3_init (l : Launch) (D : va_G) (ε : bd_E) (h : Nat) : bk_Con l yX3_init (Cond.code yX3_init cX3_init 1 none :: bd_tbl) ({ frames := 2, cells := 1, slots := 2700, locals := 32 } : Room) D ε h [(h, .inr (3, [.null]))] (G_X3_init ε h) 1 2700 :=
  bk_con (by decide +kernel) rfl (Nat.le_of_ble_eq_true rfl) ⟨rfl, rfl⟩ (fun Γ _ _ hC => by
    refine bk_aload_n hC 0 dX3_init_0 rfl rfl ?_
    refine bk_callN (wr := []) hC (rm := ({ frames := 1, cells := 0, slots := 0, locals := 12 } : Room)) [] (k_X5_init (bd_l Γ) (bd_D Γ) ε h 3 [.null]) mw_196 nm_9 mw_195 mw_79 by_X5_init rfl ⟨rfl, rfl, Nat.le_of_ble_eq_true rfl, Nat.le_of_ble_eq_true rfl⟩ (Nat.le_of_ble_eq_true rfl) (Nat.le_of_ble_eq_true rfl) (Nat.le_of_ble_eq_true rfl) dX3_init_1 (fun _ => ?_)
    show bd_U Γ 1 0 0 [(h, .inr (3, [.null]))] _ _ _
    refine bk_aload_n hC 0 dX3_init_4 rfl rfl ?_
    refine bk_sipush hC (2700 : Int32) dX3_init_5 rfl ?_
    refine bk_newJ hC 2700 mw_190 (by decide) rfl (Nat.le_of_ble_eq_true rfl) (Nat.le_of_ble_eq_true rfl) (Nat.le_of_ble_eq_true rfl) (fun q1 => [(h, .inr (3, [.null])), (q1, .inl (ε.2.1, 2700, .inr (.inl (fun _ => 0))))]) (fun _ => rfl) dX3_init_8 (fun q1 => ?_)
    refine bk_putF hC [.ref q1] hin_X3 tyX3 tyX3_ok nmX3 rfl 0 (by decide) mw_204 rfl rfl rfl rfl (Nat.le_of_ble_eq_true rfl) rfl dX3_init_10 ?_
    exact bk_ret hC (fun i => ([q1] : List Nat).getD i 0) rfl rfl rfl dX3_init_13)
def G_X9_init (ε : bd_E) (h : Nat) (u : Nat → Nat) : va_W := (((((((([(h, .inr (8, [.ref (u 0), .ref (u 16), .int 0, .ref (u 32), .ref (u 34), .int 0, .ref (u 35), .ref (u 36), .ref (u 38), .ref (u 41), .ref (u 43)]))] ++ G_X8_init ε (u 0) (fun i => u (1 + i))) ++ G_X8_init ε (u 16) (fun i => u (17 + i))) ++ G_X6_init ε (u 32) (fun i => u (33 + i))) ++ [((u 34), .inl (ε.1, 6, .inl (fun _ => 0))), ((u 35), .inl (ε.1, 6, .inl (fun _ => 0)))]) ++ G_X0_init ε (u 36) (fun i => u (37 + i))) ++ G_X2_init ε (u 38) (fun i => u (39 + i))) ++ G_X1_init ε (u 41) (fun i => u (42 + i))) ++ G_X3_init ε (u 43) (fun i => u (44 + i)))
set_option maxRecDepth 100000 in
set_option maxHeartbeats 4000000 in
theorem k_X9_init (l : Launch) (D : va_G) (ε : bd_E) (h : Nat) : bk_Con l yX9_init (Cond.code yX9_init cX9_init 1 none :: bd_tbl) ({ frames := 3, cells := 45, slots := 7464, locals := 52 } : Room) D ε h [(h, .inr (8, [.null, .null, .int 0, .null, .null, .int 0, .null, .null, .null, .null, .null]))] (G_X9_init ε h) 45 7464 :=
  bk_con (by decide +kernel) rfl (Nat.le_of_ble_eq_true rfl) ⟨rfl, rfl⟩ (fun Γ _ _ hC => by
    refine bk_aload_n hC 0 dX9_init_0 rfl rfl ?_
    refine bk_obj hC mw_90 mw_91 mw_92 (Nat.le_of_ble_eq_true rfl) (Nat.le_of_ble_eq_true rfl) dX9_init_1 ?_
    refine bk_aload_n hC 0 dX9_init_4 rfl rfl ?_
    refine bk_new hC [.null, .null, .int 0, .int 0, .int 0, .int 0, .null, .null, .null] hin_X8 tyX8 tyX8_ok (ci := 7) mw_93 mw_94 mw_73 rfl (fun j hj => by match j, hj with | 0, _ => rfl | 1, _ => rfl | 2, _ => rfl | 3, _ => rfl | 4, _ => rfl | 5, _ => rfl | 6, _ => rfl | 7, _ => rfl | 8, _ => rfl | j + 9, h => exact absurd h (by omega)) (Nat.le_of_ble_eq_true rfl) (Nat.le_of_ble_eq_true rfl) (fun q1 => [(h, .inr (8, [.null, .null, .int 0, .null, .null, .int 0, .null, .null, .null, .null, .null])), (q1, .inr (7, [.null, .null, .int 0, .int 0, .int 0, .int 0, .null, .null, .null]))]) (fun _ => rfl) dX9_init_5 (fun q1 => ?_)
    refine bk_dup hC dX9_init_8 rfl ?_
    refine bk_callN (cells := 1) (slots := 9) (wr := (h, .inr (8, [.null, .null, .int 0, .null, .null, .int 0, .null, .null, .null, .null, .null])) :: []) hC (rm := ({ frames := 2, cells := 15, slots := 397, locals := 32 } : Room)) [.ref q1, .ref h] (k_X8_init (bd_l Γ) (bd_D Γ) ε q1) mw_96 nm_0 mw_95 mw_73 by_X8_init rfl ⟨rfl, rfl, Nat.le_of_ble_eq_true rfl, Nat.le_of_ble_eq_true rfl⟩ (Nat.le_of_ble_eq_true rfl) (Nat.le_of_ble_eq_true rfl) (Nat.le_of_ble_eq_true rfl) dX9_init_9 (fun u2 => ?_)
    refine bk_putF hC [.ref q1, .null, .int 0, .null, .null, .int 0, .null, .null, .null, .null, .null] hin_X9 tyX9 tyX9_ok nmX9 rfl 0 (by decide) mw_206 rfl rfl rfl rfl (Nat.le_of_ble_eq_true rfl) rfl dX9_init_12 ?_
    refine bk_aload_n hC 0 dX9_init_15 rfl rfl ?_
    refine bk_new hC [.null, .null, .int 0, .int 0, .int 0, .int 0, .null, .null, .null] hin_X8 tyX8 tyX8_ok (ci := 7) mw_93 mw_94 mw_73 rfl (fun j hj => by match j, hj with | 0, _ => rfl | 1, _ => rfl | 2, _ => rfl | 3, _ => rfl | 4, _ => rfl | 5, _ => rfl | 6, _ => rfl | 7, _ => rfl | 8, _ => rfl | j + 9, h => exact absurd h (by omega)) (Nat.le_of_ble_eq_true rfl) (Nat.le_of_ble_eq_true rfl) _ (fun _ => rfl) dX9_init_16 (fun q3 => ?_)
    refine bk_dup hC dX9_init_19 rfl ?_
    refine bk_callN (cells := 17) (slots := 415) (wr := (h, .inr (8, [.ref q1, .null, .int 0, .null, .null, .int 0, .null, .null, .null, .null, .null])) :: ([] ++ G_X8_init ε q1 u2)) hC (rm := ({ frames := 2, cells := 15, slots := 397, locals := 32 } : Room)) [.ref q3, .ref h] (k_X8_init (bd_l Γ) (bd_D Γ) ε q3) mw_96 nm_0 mw_95 mw_73 by_X8_init rfl ⟨rfl, rfl, Nat.le_of_ble_eq_true rfl, Nat.le_of_ble_eq_true rfl⟩ (Nat.le_of_ble_eq_true rfl) (Nat.le_of_ble_eq_true rfl) (Nat.le_of_ble_eq_true rfl) dX9_init_20 (fun u4 => ?_)
    refine bk_putF hC [.ref q1, .ref q3, .int 0, .null, .null, .int 0, .null, .null, .null, .null, .null] hin_X9 tyX9 tyX9_ok nmX9 rfl 1 (by decide) mw_207 rfl rfl rfl rfl (Nat.le_of_ble_eq_true rfl) rfl dX9_init_23 ?_
    refine bk_aload_n hC 0 dX9_init_26 rfl rfl ?_
    refine bk_new hC [.null, .int 0, .int 0, .int 0, .int 0, .int 0] hin_X6 tyX6 tyX6_ok (ci := 5) mw_153 mw_154 mw_76 rfl (fun j hj => by match j, hj with | 0, _ => rfl | 1, _ => rfl | 2, _ => rfl | 3, _ => rfl | 4, _ => rfl | 5, _ => rfl | j + 6, h => exact absurd h (by omega)) (Nat.le_of_ble_eq_true rfl) (Nat.le_of_ble_eq_true rfl) _ (fun _ => rfl) dX9_init_27 (fun q5 => ?_)
    refine bk_dup hC dX9_init_30 rfl ?_
    refine bk_callN (cells := 33) (slots := 818) (wr := (h, .inr (8, [.ref q1, .ref q3, .int 0, .null, .null, .int 0, .null, .null, .null, .null, .null])) :: (([] ++ G_X8_init ε q1 u2) ++ G_X8_init ε q3 u4)) hC (rm := ({ frames := 1, cells := 1, slots := 20, locals := 12 } : Room)) [.ref q5, .ref h] (k_X6_init (bd_l Γ) (bd_D Γ) ε q5) mw_156 nm_3 mw_155 mw_76 by_X6_init rfl ⟨rfl, rfl, Nat.le_of_ble_eq_true rfl, Nat.le_of_ble_eq_true rfl⟩ (Nat.le_of_ble_eq_true rfl) (Nat.le_of_ble_eq_true rfl) (Nat.le_of_ble_eq_true rfl) dX9_init_31 (fun u6 => ?_)
    refine bk_putF hC [.ref q1, .ref q3, .int 0, .ref q5, .null, .int 0, .null, .null, .null, .null, .null] hin_X9 tyX9 tyX9_ok nmX9 rfl 3 (by decide) mw_209 rfl rfl rfl rfl (Nat.le_of_ble_eq_true rfl) rfl dX9_init_34 ?_
    refine bk_aload_n hC 0 dX9_init_37 rfl rfl ?_
    refine bk_bipush hC (6 : Int32) dX9_init_38 rfl ?_
    refine bk_newI hC 6 mw_117 (by decide) rfl (Nat.le_of_ble_eq_true rfl) (Nat.le_of_ble_eq_true rfl) (Nat.le_of_ble_eq_true rfl) _ (fun _ => rfl) dX9_init_40 (fun q7 => ?_)
    refine bk_putF hC [.ref q1, .ref q3, .int 0, .ref q5, .ref q7, .int 0, .null, .null, .null, .null, .null] hin_X9 tyX9 tyX9_ok nmX9 rfl 4 (by decide) mw_210 rfl rfl rfl rfl (Nat.le_of_ble_eq_true rfl) rfl dX9_init_42 ?_
    refine bk_aload_n hC 0 dX9_init_45 rfl rfl ?_
    refine bk_bipush hC (6 : Int32) dX9_init_46 rfl ?_
    refine bk_newI hC 6 mw_117 (by decide) rfl (Nat.le_of_ble_eq_true rfl) (Nat.le_of_ble_eq_true rfl) (Nat.le_of_ble_eq_true rfl) _ (fun _ => rfl) dX9_init_48 (fun q8 => ?_)
    refine bk_putF hC [.ref q1, .ref q3, .int 0, .ref q5, .ref q7, .int 0, .ref q8, .null, .null, .null, .null] hin_X9 tyX9 tyX9_ok nmX9 rfl 6 (by decide) mw_212 rfl rfl rfl rfl (Nat.le_of_ble_eq_true rfl) rfl dX9_init_50 ?_
    refine bk_aload_n hC 0 dX9_init_53 rfl rfl ?_
    refine bk_new hC [.null, .int 0] hin_X0 tyX0 tyX0_ok (ci := 0) mw_170 mw_171 mw_77 rfl (fun j hj => by match j, hj with | 0, _ => rfl | 1, _ => rfl | j + 2, h => exact absurd h (by omega)) (Nat.le_of_ble_eq_true rfl) (Nat.le_of_ble_eq_true rfl) _ (fun _ => rfl) dX9_init_54 (fun q9 => ?_)
    refine bk_dup hC dX9_init_57 rfl ?_
    refine bk_callN (cells := 37) (slots := 852) (wr := (h, .inr (8, [.ref q1, .ref q3, .int 0, .ref q5, .ref q7, .int 0, .ref q8, .null, .null, .null, .null])) :: ((((([] ++ G_X8_init ε q1 u2) ++ G_X8_init ε q3 u4) ++ G_X6_init ε q5 u6) ++ [(q7, .inl (ε.1, 6, .inl (fun _ => 0)))]) ++ [(q8, .inl (ε.1, 6, .inl (fun _ => 0)))])) hC (rm := ({ frames := 1, cells := 1, slots := 1800, locals := 12 } : Room)) [.ref q9, .ref h] (k_X0_init (bd_l Γ) (bd_D Γ) ε q9) mw_173 nm_4 mw_172 mw_77 by_X0_init rfl ⟨rfl, rfl, Nat.le_of_ble_eq_true rfl, Nat.le_of_ble_eq_true rfl⟩ (Nat.le_of_ble_eq_true rfl) (Nat.le_of_ble_eq_true rfl) (Nat.le_of_ble_eq_true rfl) dX9_init_58 (fun u10 => ?_)
    refine bk_putF hC [.ref q1, .ref q3, .int 0, .ref q5, .ref q7, .int 0, .ref q8, .ref q9, .null, .null, .null] hin_X9 tyX9 tyX9_ok nmX9 rfl 7 (by decide) mw_213 rfl rfl rfl rfl (Nat.le_of_ble_eq_true rfl) rfl dX9_init_61 ?_
    refine bk_aload_n hC 0 dX9_init_64 rfl rfl ?_
    refine bk_new hC [.null, .null, .int 0] hin_X2 tyX2 tyX2_ok (ci := 2) mw_179 mw_180 mw_78 rfl (fun j hj => by match j, hj with | 0, _ => rfl | 1, _ => rfl | 2, _ => rfl | j + 3, h => exact absurd h (by omega)) (Nat.le_of_ble_eq_true rfl) (Nat.le_of_ble_eq_true rfl) _ (fun _ => rfl) dX9_init_65 (fun q11 => ?_)
    refine bk_dup hC dX9_init_68 rfl ?_
    refine bk_callN (cells := 39) (slots := 2655) (wr := (h, .inr (8, [.ref q1, .ref q3, .int 0, .ref q5, .ref q7, .int 0, .ref q8, .ref q9, .null, .null, .null])) :: (((((([] ++ G_X8_init ε q1 u2) ++ G_X8_init ε q3 u4) ++ G_X6_init ε q5 u6) ++ [(q7, .inl (ε.1, 6, .inl (fun _ => 0)))]) ++ [(q8, .inl (ε.1, 6, .inl (fun _ => 0)))]) ++ G_X0_init ε q9 u10)) hC (rm := ({ frames := 1, cells := 2, slots := 1806, locals := 12 } : Room)) [.ref q11, .ref h] (k_X2_init (bd_l Γ) (bd_D Γ) ε q11) mw_182 nm_5 mw_181 mw_78 by_X2_init rfl ⟨rfl, rfl, Nat.le_of_ble_eq_true rfl, Nat.le_of_ble_eq_true rfl⟩ (Nat.le_of_ble_eq_true rfl) (Nat.le_of_ble_eq_true rfl) (Nat.le_of_ble_eq_true rfl) dX9_init_69 (fun u12 => ?_)
    refine bk_putF hC [.ref q1, .ref q3, .int 0, .ref q5, .ref q7, .int 0, .ref q8, .ref q9, .ref q11, .null, .null] hin_X9 tyX9 tyX9_ok nmX9 rfl 8 (by decide) mw_214 rfl rfl rfl rfl (Nat.le_of_ble_eq_true rfl) rfl dX9_init_72 ?_
    refine bk_aload_n hC 0 dX9_init_75 rfl rfl ?_
    refine bk_new hC [.null] hin_X1 tyX1 tyX1_ok (ci := 1) mw_191 mw_192 mw_80 rfl (fun j hj => by match j, hj with | 0, _ => rfl | j + 1, h => exact absurd h (by omega)) (Nat.le_of_ble_eq_true rfl) (Nat.le_of_ble_eq_true rfl) _ (fun _ => rfl) dX9_init_76 (fun q13 => ?_)
    refine bk_dup hC dX9_init_79 rfl ?_
    refine bk_callN (cells := 42) (slots := 4462) (wr := (h, .inr (8, [.ref q1, .ref q3, .int 0, .ref q5, .ref q7, .int 0, .ref q8, .ref q9, .ref q11, .null, .null])) :: ((((((([] ++ G_X8_init ε q1 u2) ++ G_X8_init ε q3 u4) ++ G_X6_init ε q5 u6) ++ [(q7, .inl (ε.1, 6, .inl (fun _ => 0)))]) ++ [(q8, .inl (ε.1, 6, .inl (fun _ => 0)))]) ++ G_X0_init ε q9 u10) ++ G_X2_init ε q11 u12)) hC (rm := ({ frames := 2, cells := 1, slots := 301, locals := 32 } : Room)) [.ref q13, .ref h] (k_X1_init (bd_l Γ) (bd_D Γ) ε q13) mw_194 nm_6 mw_193 mw_80 by_X1_init rfl ⟨rfl, rfl, Nat.le_of_ble_eq_true rfl, Nat.le_of_ble_eq_true rfl⟩ (Nat.le_of_ble_eq_true rfl) (Nat.le_of_ble_eq_true rfl) (Nat.le_of_ble_eq_true rfl) dX9_init_80 (fun u14 => ?_)
    refine bk_putF hC [.ref q1, .ref q3, .int 0, .ref q5, .ref q7, .int 0, .ref q8, .ref q9, .ref q11, .ref q13, .null] hin_X9 tyX9 tyX9_ok nmX9 rfl 9 (by decide) mw_215 rfl rfl rfl rfl (Nat.le_of_ble_eq_true rfl) rfl dX9_init_83 ?_
    refine bk_aload_n hC 0 dX9_init_86 rfl rfl ?_
    refine bk_new hC [.null] hin_X3 tyX3 tyX3_ok (ci := 3) mw_200 mw_201 mw_81 rfl (fun j hj => by match j, hj with | 0, _ => rfl | j + 1, h => exact absurd h (by omega)) (Nat.le_of_ble_eq_true rfl) (Nat.le_of_ble_eq_true rfl) _ (fun _ => rfl) dX9_init_87 (fun q15 => ?_)
    refine bk_dup hC dX9_init_90 rfl ?_
    refine bk_callN (cells := 44) (slots := 4764) (wr := (h, .inr (8, [.ref q1, .ref q3, .int 0, .ref q5, .ref q7, .int 0, .ref q8, .ref q9, .ref q11, .ref q13, .null])) :: (((((((([] ++ G_X8_init ε q1 u2) ++ G_X8_init ε q3 u4) ++ G_X6_init ε q5 u6) ++ [(q7, .inl (ε.1, 6, .inl (fun _ => 0)))]) ++ [(q8, .inl (ε.1, 6, .inl (fun _ => 0)))]) ++ G_X0_init ε q9 u10) ++ G_X2_init ε q11 u12) ++ G_X1_init ε q13 u14)) hC (rm := ({ frames := 2, cells := 1, slots := 2700, locals := 32 } : Room)) [.ref q15, .ref h] (k_X3_init (bd_l Γ) (bd_D Γ) ε q15) mw_203 nm_8 mw_202 mw_81 by_X3_init rfl ⟨rfl, rfl, Nat.le_of_ble_eq_true rfl, Nat.le_of_ble_eq_true rfl⟩ (Nat.le_of_ble_eq_true rfl) (Nat.le_of_ble_eq_true rfl) (Nat.le_of_ble_eq_true rfl) dX9_init_91 (fun u16 => ?_)
    refine bk_putF hC [.ref q1, .ref q3, .int 0, .ref q5, .ref q7, .int 0, .ref q8, .ref q9, .ref q11, .ref q13, .ref q15] hin_X9 tyX9 tyX9_ok nmX9 rfl 10 (by decide) mw_216 rfl rfl rfl rfl (Nat.le_of_ble_eq_true rfl) rfl dX9_init_94 ?_
    exact bk_ret hC (fun i => ([q1, (u2 0), (u2 1), (u2 2), (u2 3), (u2 4), (u2 5), (u2 6), (u2 7), (u2 8), (u2 9), (u2 10), (u2 11), (u2 12), (u2 13), (u2 14), q3, (u4 0), (u4 1), (u4 2), (u4 3), (u4 4), (u4 5), (u4 6), (u4 7), (u4 8), (u4 9), (u4 10), (u4 11), (u4 12), (u4 13), (u4 14), q5, (u6 0), q7, q8, q9, (u10 0), q11, (u12 0), (u12 1), q13, (u14 0), q15, (u16 0)] : List Nat).getD i 0) rfl rfl rfl dX9_init_97)
def G_X10_init (ε : bd_E) (h : Nat) (u : Nat → Nat) : va_W := ([(h, .inr (9, [.ref (u 0), .ref (u 1), .ref (u 2), .ref (u 3), .ref (u 4), .int 0, .int 0, .int 0, .ref (u 5), .ref (u 6), .int 200, .int (-1), .int (-1), .int 0, .int 1, .ref (u 7), .ref (u 8), .ref (u 9), .ref (u 10), .ref (u 11), .int 0, .ref (u 12), .ref (u 13), .ref (u 14), .ref (u 15), .ref (u 16), .ref (u 17), .ref (u 18), .ref (u 19), .int 0, .ref (u 20), .ref (u 21), .int 0, .ref (u 22), .ref (u 23), .int 0, .int 0, .int 0]))] ++ [((u 0), .inl (ε.1, 7, .inl (fun _ => 0))), ((u 1), .inl (ε.1, 20, .inl (fun _ => 0))), ((u 2), .inl (ε.1, 6, .inl (fun _ => 0))), ((u 3), .inl (ε.1, 6, .inl (fun _ => 0))), ((u 4), .inl (ε.1, 6, .inl (fun _ => 0))), ((u 5), .inl (ε.1, 4, .inl (fun _ => 0))), ((u 6), .inl (ε.1, 4, .inl (fun _ => 0))), ((u 7), .inl (ε.1, 10, .inl (fun _ => 0))), ((u 8), .inl (ε.1, 10, .inl (fun _ => 0))), ((u 9), .inl (ε.1, 10, .inl (fun _ => 0))), ((u 10), .inl (ε.1, 10, .inl (fun _ => 0))), ((u 11), .inl (ε.1, 10, .inl (fun _ => 0))), ((u 12), .inl (ε.1, 6, .inl (fun i => if i < 6 then (-1) else 0))), ((u 13), .inl (ε.1, 6, .inl (fun _ => 0))), ((u 14), .inl (ε.1, 6, .inl (fun _ => 0))), ((u 15), .inl (ε.2.2.1, 3000, .inl (fun _ => 0))), ((u 16), .inl (ε.1, 6, .inl (fun _ => 0))), ((u 17), .inl (ε.1, 6, .inl (fun _ => 0))), ((u 18), .inl (ε.2.1, 1800, .inr (.inl (fun _ => 0)))), ((u 19), .inl (ε.2.1, 301, .inr (.inl (fun _ => 0)))), ((u 20), .inl (ε.2.2.1, 300, .inl (fun _ => 0))), ((u 21), .inl (ε.1, 6, .inl (fun _ => 0))), ((u 22), .inl (ε.1, 10000, .inl (fun _ => 0))), ((u 23), .inl (ε.1, 150, .inl (fun _ => 0)))])
set_option maxRecDepth 100000 in
set_option maxHeartbeats 4000000 in
theorem k_X10_init (l : Launch) (D : va_G) (ε : bd_E) (h : Nat) : bk_Con l yX10_init (Cond.code yX10_init cX10_init 2 none :: bd_tbl) ({ frames := 1, cells := 24, slots := 15690, locals := 12 } : Room) D ε h [(h, .inr (9, [.null, .null, .null, .null, .null, .int 0, .int 0, .int 0, .null, .null, .int 0, .int 0, .int 0, .int 0, .int 0, .null, .null, .null, .null, .null, .int 0, .null, .null, .null, .null, .null, .null, .null, .null, .int 0, .null, .null, .int 0, .null, .null, .int 0, .int 0, .int 0]))] (G_X10_init ε h) 24 15690 :=
  bk_con (by decide +kernel) rfl (Nat.le_of_ble_eq_true rfl) ⟨rfl, rfl⟩ (fun Γ _ _ hC => by
    refine bk_aload_n hC 0 dX10_init_0 rfl rfl ?_
    refine bk_obj hC mw_559 mw_91 mw_92 (Nat.le_of_ble_eq_true rfl) (Nat.le_of_ble_eq_true rfl) dX10_init_1 ?_
    refine bk_aload_n hC 0 dX10_init_4 rfl rfl ?_
    refine bk_bipush hC (7 : Int32) dX10_init_5 rfl ?_
    refine bk_newI hC 7 mw_117 (by decide) rfl (Nat.le_of_ble_eq_true rfl) (Nat.le_of_ble_eq_true rfl) (Nat.le_of_ble_eq_true rfl) (fun q1 => [(h, .inr (9, [.null, .null, .null, .null, .null, .int 0, .int 0, .int 0, .null, .null, .int 0, .int 0, .int 0, .int 0, .int 0, .null, .null, .null, .null, .null, .int 0, .null, .null, .null, .null, .null, .null, .null, .null, .int 0, .null, .null, .int 0, .null, .null, .int 0, .int 0, .int 0])), (q1, .inl (ε.1, 7, .inl (fun _ => 0)))]) (fun _ => rfl) dX10_init_7 (fun q1 => ?_)
    refine bk_putF hC [.ref q1, .null, .null, .null, .null, .int 0, .int 0, .int 0, .null, .null, .int 0, .int 0, .int 0, .int 0, .int 0, .null, .null, .null, .null, .null, .int 0, .null, .null, .null, .null, .null, .null, .null, .null, .int 0, .null, .null, .int 0, .null, .null, .int 0, .int 0, .int 0] hin_X10 tyX10 tyX10_ok nmX10 rfl 0 (by decide) mw_560 rfl rfl rfl rfl (Nat.le_of_ble_eq_true rfl) rfl dX10_init_9 ?_
    refine bk_aload_n hC 0 dX10_init_12 rfl rfl ?_
    refine bk_bipush hC (20 : Int32) dX10_init_13 rfl ?_
    refine bk_newI hC 20 mw_117 (by decide) rfl (Nat.le_of_ble_eq_true rfl) (Nat.le_of_ble_eq_true rfl) (Nat.le_of_ble_eq_true rfl) (fun q2 => [(h, .inr (9, [.ref q1, .null, .null, .null, .null, .int 0, .int 0, .int 0, .null, .null, .int 0, .int 0, .int 0, .int 0, .int 0, .null, .null, .null, .null, .null, .int 0, .null, .null, .null, .null, .null, .null, .null, .null, .int 0, .null, .null, .int 0, .null, .null, .int 0, .int 0, .int 0])), (q1, .inl (ε.1, 7, .inl (fun _ => 0))), (q2, .inl (ε.1, 20, .inl (fun _ => 0)))]) (fun _ => rfl) dX10_init_15 (fun q2 => ?_)
    refine bk_putF hC [.ref q1, .ref q2, .null, .null, .null, .int 0, .int 0, .int 0, .null, .null, .int 0, .int 0, .int 0, .int 0, .int 0, .null, .null, .null, .null, .null, .int 0, .null, .null, .null, .null, .null, .null, .null, .null, .int 0, .null, .null, .int 0, .null, .null, .int 0, .int 0, .int 0] hin_X10 tyX10 tyX10_ok nmX10 rfl 1 (by decide) mw_561 rfl rfl rfl rfl (Nat.le_of_ble_eq_true rfl) rfl dX10_init_17 ?_
    refine bk_aload_n hC 0 dX10_init_20 rfl rfl ?_
    refine bk_bipush hC (6 : Int32) dX10_init_21 rfl ?_
    refine bk_newI hC 6 mw_117 (by decide) rfl (Nat.le_of_ble_eq_true rfl) (Nat.le_of_ble_eq_true rfl) (Nat.le_of_ble_eq_true rfl) (fun q3 => [(h, .inr (9, [.ref q1, .ref q2, .null, .null, .null, .int 0, .int 0, .int 0, .null, .null, .int 0, .int 0, .int 0, .int 0, .int 0, .null, .null, .null, .null, .null, .int 0, .null, .null, .null, .null, .null, .null, .null, .null, .int 0, .null, .null, .int 0, .null, .null, .int 0, .int 0, .int 0])), (q1, .inl (ε.1, 7, .inl (fun _ => 0))), (q2, .inl (ε.1, 20, .inl (fun _ => 0))), (q3, .inl (ε.1, 6, .inl (fun _ => 0)))]) (fun _ => rfl) dX10_init_23 (fun q3 => ?_)
    refine bk_putF hC [.ref q1, .ref q2, .ref q3, .null, .null, .int 0, .int 0, .int 0, .null, .null, .int 0, .int 0, .int 0, .int 0, .int 0, .null, .null, .null, .null, .null, .int 0, .null, .null, .null, .null, .null, .null, .null, .null, .int 0, .null, .null, .int 0, .null, .null, .int 0, .int 0, .int 0] hin_X10 tyX10 tyX10_ok nmX10 rfl 2 (by decide) mw_562 rfl rfl rfl rfl (Nat.le_of_ble_eq_true rfl) rfl dX10_init_25 ?_
    refine bk_aload_n hC 0 dX10_init_28 rfl rfl ?_
    refine bk_bipush hC (6 : Int32) dX10_init_29 rfl ?_
    refine bk_newI hC 6 mw_117 (by decide) rfl (Nat.le_of_ble_eq_true rfl) (Nat.le_of_ble_eq_true rfl) (Nat.le_of_ble_eq_true rfl) (fun q4 => [(h, .inr (9, [.ref q1, .ref q2, .ref q3, .null, .null, .int 0, .int 0, .int 0, .null, .null, .int 0, .int 0, .int 0, .int 0, .int 0, .null, .null, .null, .null, .null, .int 0, .null, .null, .null, .null, .null, .null, .null, .null, .int 0, .null, .null, .int 0, .null, .null, .int 0, .int 0, .int 0])), (q1, .inl (ε.1, 7, .inl (fun _ => 0))), (q2, .inl (ε.1, 20, .inl (fun _ => 0))), (q3, .inl (ε.1, 6, .inl (fun _ => 0))), (q4, .inl (ε.1, 6, .inl (fun _ => 0)))]) (fun _ => rfl) dX10_init_31 (fun q4 => ?_)
    refine bk_putF hC [.ref q1, .ref q2, .ref q3, .ref q4, .null, .int 0, .int 0, .int 0, .null, .null, .int 0, .int 0, .int 0, .int 0, .int 0, .null, .null, .null, .null, .null, .int 0, .null, .null, .null, .null, .null, .null, .null, .null, .int 0, .null, .null, .int 0, .null, .null, .int 0, .int 0, .int 0] hin_X10 tyX10 tyX10_ok nmX10 rfl 3 (by decide) mw_563 rfl rfl rfl rfl (Nat.le_of_ble_eq_true rfl) rfl dX10_init_33 ?_
    refine bk_aload_n hC 0 dX10_init_36 rfl rfl ?_
    refine bk_bipush hC (6 : Int32) dX10_init_37 rfl ?_
    refine bk_newI hC 6 mw_117 (by decide) rfl (Nat.le_of_ble_eq_true rfl) (Nat.le_of_ble_eq_true rfl) (Nat.le_of_ble_eq_true rfl) (fun q5 => [(h, .inr (9, [.ref q1, .ref q2, .ref q3, .ref q4, .null, .int 0, .int 0, .int 0, .null, .null, .int 0, .int 0, .int 0, .int 0, .int 0, .null, .null, .null, .null, .null, .int 0, .null, .null, .null, .null, .null, .null, .null, .null, .int 0, .null, .null, .int 0, .null, .null, .int 0, .int 0, .int 0])), (q1, .inl (ε.1, 7, .inl (fun _ => 0))), (q2, .inl (ε.1, 20, .inl (fun _ => 0))), (q3, .inl (ε.1, 6, .inl (fun _ => 0))), (q4, .inl (ε.1, 6, .inl (fun _ => 0))), (q5, .inl (ε.1, 6, .inl (fun _ => 0)))]) (fun _ => rfl) dX10_init_39 (fun q5 => ?_)
    refine bk_putF hC [.ref q1, .ref q2, .ref q3, .ref q4, .ref q5, .int 0, .int 0, .int 0, .null, .null, .int 0, .int 0, .int 0, .int 0, .int 0, .null, .null, .null, .null, .null, .int 0, .null, .null, .null, .null, .null, .null, .null, .null, .int 0, .null, .null, .int 0, .null, .null, .int 0, .int 0, .int 0] hin_X10 tyX10 tyX10_ok nmX10 rfl 4 (by decide) mw_564 rfl rfl rfl rfl (Nat.le_of_ble_eq_true rfl) rfl dX10_init_41 ?_
    refine bk_aload_n hC 0 dX10_init_44 rfl rfl ?_
    refine bk_iconst hC (4 : Int32) dX10_init_45 rfl ?_
    refine bk_newI hC 4 mw_117 (by decide) rfl (Nat.le_of_ble_eq_true rfl) (Nat.le_of_ble_eq_true rfl) (Nat.le_of_ble_eq_true rfl) (fun q6 => [(h, .inr (9, [.ref q1, .ref q2, .ref q3, .ref q4, .ref q5, .int 0, .int 0, .int 0, .null, .null, .int 0, .int 0, .int 0, .int 0, .int 0, .null, .null, .null, .null, .null, .int 0, .null, .null, .null, .null, .null, .null, .null, .null, .int 0, .null, .null, .int 0, .null, .null, .int 0, .int 0, .int 0])), (q1, .inl (ε.1, 7, .inl (fun _ => 0))), (q2, .inl (ε.1, 20, .inl (fun _ => 0))), (q3, .inl (ε.1, 6, .inl (fun _ => 0))), (q4, .inl (ε.1, 6, .inl (fun _ => 0))), (q5, .inl (ε.1, 6, .inl (fun _ => 0))), (q6, .inl (ε.1, 4, .inl (fun _ => 0)))]) (fun _ => rfl) dX10_init_46 (fun q6 => ?_)
    refine bk_putF hC [.ref q1, .ref q2, .ref q3, .ref q4, .ref q5, .int 0, .int 0, .int 0, .ref q6, .null, .int 0, .int 0, .int 0, .int 0, .int 0, .null, .null, .null, .null, .null, .int 0, .null, .null, .null, .null, .null, .null, .null, .null, .int 0, .null, .null, .int 0, .null, .null, .int 0, .int 0, .int 0] hin_X10 tyX10 tyX10_ok nmX10 rfl 8 (by decide) mw_568 rfl rfl rfl rfl (Nat.le_of_ble_eq_true rfl) rfl dX10_init_48 ?_
    refine bk_aload_n hC 0 dX10_init_51 rfl rfl ?_
    refine bk_iconst hC (4 : Int32) dX10_init_52 rfl ?_
    refine bk_newI hC 4 mw_117 (by decide) rfl (Nat.le_of_ble_eq_true rfl) (Nat.le_of_ble_eq_true rfl) (Nat.le_of_ble_eq_true rfl) (fun q7 => [(h, .inr (9, [.ref q1, .ref q2, .ref q3, .ref q4, .ref q5, .int 0, .int 0, .int 0, .ref q6, .null, .int 0, .int 0, .int 0, .int 0, .int 0, .null, .null, .null, .null, .null, .int 0, .null, .null, .null, .null, .null, .null, .null, .null, .int 0, .null, .null, .int 0, .null, .null, .int 0, .int 0, .int 0])), (q1, .inl (ε.1, 7, .inl (fun _ => 0))), (q2, .inl (ε.1, 20, .inl (fun _ => 0))), (q3, .inl (ε.1, 6, .inl (fun _ => 0))), (q4, .inl (ε.1, 6, .inl (fun _ => 0))), (q5, .inl (ε.1, 6, .inl (fun _ => 0))), (q6, .inl (ε.1, 4, .inl (fun _ => 0))), (q7, .inl (ε.1, 4, .inl (fun _ => 0)))]) (fun _ => rfl) dX10_init_53 (fun q7 => ?_)
    refine bk_putF hC [.ref q1, .ref q2, .ref q3, .ref q4, .ref q5, .int 0, .int 0, .int 0, .ref q6, .ref q7, .int 0, .int 0, .int 0, .int 0, .int 0, .null, .null, .null, .null, .null, .int 0, .null, .null, .null, .null, .null, .null, .null, .null, .int 0, .null, .null, .int 0, .null, .null, .int 0, .int 0, .int 0] hin_X10 tyX10 tyX10_ok nmX10 rfl 9 (by decide) mw_569 rfl rfl rfl rfl (Nat.le_of_ble_eq_true rfl) rfl dX10_init_55 ?_
    refine bk_aload_n hC 0 dX10_init_58 rfl rfl ?_
    refine bk_sipush hC (200 : Int32) dX10_init_59 rfl ?_
    refine bk_put hC [.ref q1, .ref q2, .ref q3, .ref q4, .ref q5, .int 0, .int 0, .int 0, .ref q6, .ref q7, .int 200, .int 0, .int 0, .int 0, .int 0, .null, .null, .null, .null, .null, .int 0, .null, .null, .null, .null, .null, .null, .null, .null, .int 0, .null, .null, .int 0, .null, .null, .int 0, .int 0, .int 0] hin_X10 tyX10 tyX10_ok nmX10 rfl 10 (by decide) mw_570 rfl rfl rfl (Nat.le_of_ble_eq_true rfl) rfl dX10_init_62 ?_
    refine bk_aload_n hC 0 dX10_init_65 rfl rfl ?_
    refine bk_iconst hC (-1 : Int32) dX10_init_66 rfl ?_
    refine bk_put hC [.ref q1, .ref q2, .ref q3, .ref q4, .ref q5, .int 0, .int 0, .int 0, .ref q6, .ref q7, .int 200, .int (-1), .int 0, .int 0, .int 0, .null, .null, .null, .null, .null, .int 0, .null, .null, .null, .null, .null, .null, .null, .null, .int 0, .null, .null, .int 0, .null, .null, .int 0, .int 0, .int 0] hin_X10 tyX10 tyX10_ok nmX10 rfl 11 (by decide) mw_571 rfl rfl rfl (Nat.le_of_ble_eq_true rfl) rfl dX10_init_67 ?_
    refine bk_aload_n hC 0 dX10_init_70 rfl rfl ?_
    refine bk_iconst hC (-1 : Int32) dX10_init_71 rfl ?_
    refine bk_put hC [.ref q1, .ref q2, .ref q3, .ref q4, .ref q5, .int 0, .int 0, .int 0, .ref q6, .ref q7, .int 200, .int (-1), .int (-1), .int 0, .int 0, .null, .null, .null, .null, .null, .int 0, .null, .null, .null, .null, .null, .null, .null, .null, .int 0, .null, .null, .int 0, .null, .null, .int 0, .int 0, .int 0] hin_X10 tyX10 tyX10_ok nmX10 rfl 12 (by decide) mw_572 rfl rfl rfl (Nat.le_of_ble_eq_true rfl) rfl dX10_init_72 ?_
    refine bk_aload_n hC 0 dX10_init_75 rfl rfl ?_
    refine bk_iconst hC (1 : Int32) dX10_init_76 rfl ?_
    refine bk_put hC [.ref q1, .ref q2, .ref q3, .ref q4, .ref q5, .int 0, .int 0, .int 0, .ref q6, .ref q7, .int 200, .int (-1), .int (-1), .int 0, .int 1, .null, .null, .null, .null, .null, .int 0, .null, .null, .null, .null, .null, .null, .null, .null, .int 0, .null, .null, .int 0, .null, .null, .int 0, .int 0, .int 0] hin_X10 tyX10 tyX10_ok nmX10 rfl 14 (by decide) mw_574 rfl rfl rfl (Nat.le_of_ble_eq_true rfl) rfl dX10_init_77 ?_
    refine bk_aload_n hC 0 dX10_init_80 rfl rfl ?_
    refine bk_bipush hC (10 : Int32) dX10_init_81 rfl ?_
    refine bk_newI hC 10 mw_117 (by decide) rfl (Nat.le_of_ble_eq_true rfl) (Nat.le_of_ble_eq_true rfl) (Nat.le_of_ble_eq_true rfl) (fun q8 => [(h, .inr (9, [.ref q1, .ref q2, .ref q3, .ref q4, .ref q5, .int 0, .int 0, .int 0, .ref q6, .ref q7, .int 200, .int (-1), .int (-1), .int 0, .int 1, .null, .null, .null, .null, .null, .int 0, .null, .null, .null, .null, .null, .null, .null, .null, .int 0, .null, .null, .int 0, .null, .null, .int 0, .int 0, .int 0])), (q1, .inl (ε.1, 7, .inl (fun _ => 0))), (q2, .inl (ε.1, 20, .inl (fun _ => 0))), (q3, .inl (ε.1, 6, .inl (fun _ => 0))), (q4, .inl (ε.1, 6, .inl (fun _ => 0))), (q5, .inl (ε.1, 6, .inl (fun _ => 0))), (q6, .inl (ε.1, 4, .inl (fun _ => 0))), (q7, .inl (ε.1, 4, .inl (fun _ => 0))), (q8, .inl (ε.1, 10, .inl (fun _ => 0)))]) (fun _ => rfl) dX10_init_83 (fun q8 => ?_)
    refine bk_putF hC [.ref q1, .ref q2, .ref q3, .ref q4, .ref q5, .int 0, .int 0, .int 0, .ref q6, .ref q7, .int 200, .int (-1), .int (-1), .int 0, .int 1, .ref q8, .null, .null, .null, .null, .int 0, .null, .null, .null, .null, .null, .null, .null, .null, .int 0, .null, .null, .int 0, .null, .null, .int 0, .int 0, .int 0] hin_X10 tyX10 tyX10_ok nmX10 rfl 15 (by decide) mw_575 rfl rfl rfl rfl (Nat.le_of_ble_eq_true rfl) rfl dX10_init_85 ?_
    refine bk_aload_n hC 0 dX10_init_88 rfl rfl ?_
    refine bk_bipush hC (10 : Int32) dX10_init_89 rfl ?_
    refine bk_newI hC 10 mw_117 (by decide) rfl (Nat.le_of_ble_eq_true rfl) (Nat.le_of_ble_eq_true rfl) (Nat.le_of_ble_eq_true rfl) (fun q9 => [(h, .inr (9, [.ref q1, .ref q2, .ref q3, .ref q4, .ref q5, .int 0, .int 0, .int 0, .ref q6, .ref q7, .int 200, .int (-1), .int (-1), .int 0, .int 1, .ref q8, .null, .null, .null, .null, .int 0, .null, .null, .null, .null, .null, .null, .null, .null, .int 0, .null, .null, .int 0, .null, .null, .int 0, .int 0, .int 0])), (q1, .inl (ε.1, 7, .inl (fun _ => 0))), (q2, .inl (ε.1, 20, .inl (fun _ => 0))), (q3, .inl (ε.1, 6, .inl (fun _ => 0))), (q4, .inl (ε.1, 6, .inl (fun _ => 0))), (q5, .inl (ε.1, 6, .inl (fun _ => 0))), (q6, .inl (ε.1, 4, .inl (fun _ => 0))), (q7, .inl (ε.1, 4, .inl (fun _ => 0))), (q8, .inl (ε.1, 10, .inl (fun _ => 0))), (q9, .inl (ε.1, 10, .inl (fun _ => 0)))]) (fun _ => rfl) dX10_init_91 (fun q9 => ?_)
    refine bk_putF hC [.ref q1, .ref q2, .ref q3, .ref q4, .ref q5, .int 0, .int 0, .int 0, .ref q6, .ref q7, .int 200, .int (-1), .int (-1), .int 0, .int 1, .ref q8, .ref q9, .null, .null, .null, .int 0, .null, .null, .null, .null, .null, .null, .null, .null, .int 0, .null, .null, .int 0, .null, .null, .int 0, .int 0, .int 0] hin_X10 tyX10 tyX10_ok nmX10 rfl 16 (by decide) mw_576 rfl rfl rfl rfl (Nat.le_of_ble_eq_true rfl) rfl dX10_init_93 ?_
    refine bk_aload_n hC 0 dX10_init_96 rfl rfl ?_
    refine bk_bipush hC (10 : Int32) dX10_init_97 rfl ?_
    refine bk_newI hC 10 mw_117 (by decide) rfl (Nat.le_of_ble_eq_true rfl) (Nat.le_of_ble_eq_true rfl) (Nat.le_of_ble_eq_true rfl) (fun q10 => [(h, .inr (9, [.ref q1, .ref q2, .ref q3, .ref q4, .ref q5, .int 0, .int 0, .int 0, .ref q6, .ref q7, .int 200, .int (-1), .int (-1), .int 0, .int 1, .ref q8, .ref q9, .null, .null, .null, .int 0, .null, .null, .null, .null, .null, .null, .null, .null, .int 0, .null, .null, .int 0, .null, .null, .int 0, .int 0, .int 0])), (q1, .inl (ε.1, 7, .inl (fun _ => 0))), (q2, .inl (ε.1, 20, .inl (fun _ => 0))), (q3, .inl (ε.1, 6, .inl (fun _ => 0))), (q4, .inl (ε.1, 6, .inl (fun _ => 0))), (q5, .inl (ε.1, 6, .inl (fun _ => 0))), (q6, .inl (ε.1, 4, .inl (fun _ => 0))), (q7, .inl (ε.1, 4, .inl (fun _ => 0))), (q8, .inl (ε.1, 10, .inl (fun _ => 0))), (q9, .inl (ε.1, 10, .inl (fun _ => 0))), (q10, .inl (ε.1, 10, .inl (fun _ => 0)))]) (fun _ => rfl) dX10_init_99 (fun q10 => ?_)
    refine bk_putF hC [.ref q1, .ref q2, .ref q3, .ref q4, .ref q5, .int 0, .int 0, .int 0, .ref q6, .ref q7, .int 200, .int (-1), .int (-1), .int 0, .int 1, .ref q8, .ref q9, .ref q10, .null, .null, .int 0, .null, .null, .null, .null, .null, .null, .null, .null, .int 0, .null, .null, .int 0, .null, .null, .int 0, .int 0, .int 0] hin_X10 tyX10 tyX10_ok nmX10 rfl 17 (by decide) mw_577 rfl rfl rfl rfl (Nat.le_of_ble_eq_true rfl) rfl dX10_init_101 ?_
    refine bk_aload_n hC 0 dX10_init_104 rfl rfl ?_
    refine bk_bipush hC (10 : Int32) dX10_init_105 rfl ?_
    refine bk_newI hC 10 mw_117 (by decide) rfl (Nat.le_of_ble_eq_true rfl) (Nat.le_of_ble_eq_true rfl) (Nat.le_of_ble_eq_true rfl) (fun q11 => [(h, .inr (9, [.ref q1, .ref q2, .ref q3, .ref q4, .ref q5, .int 0, .int 0, .int 0, .ref q6, .ref q7, .int 200, .int (-1), .int (-1), .int 0, .int 1, .ref q8, .ref q9, .ref q10, .null, .null, .int 0, .null, .null, .null, .null, .null, .null, .null, .null, .int 0, .null, .null, .int 0, .null, .null, .int 0, .int 0, .int 0])), (q1, .inl (ε.1, 7, .inl (fun _ => 0))), (q2, .inl (ε.1, 20, .inl (fun _ => 0))), (q3, .inl (ε.1, 6, .inl (fun _ => 0))), (q4, .inl (ε.1, 6, .inl (fun _ => 0))), (q5, .inl (ε.1, 6, .inl (fun _ => 0))), (q6, .inl (ε.1, 4, .inl (fun _ => 0))), (q7, .inl (ε.1, 4, .inl (fun _ => 0))), (q8, .inl (ε.1, 10, .inl (fun _ => 0))), (q9, .inl (ε.1, 10, .inl (fun _ => 0))), (q10, .inl (ε.1, 10, .inl (fun _ => 0))), (q11, .inl (ε.1, 10, .inl (fun _ => 0)))]) (fun _ => rfl) dX10_init_107 (fun q11 => ?_)
    refine bk_putF hC [.ref q1, .ref q2, .ref q3, .ref q4, .ref q5, .int 0, .int 0, .int 0, .ref q6, .ref q7, .int 200, .int (-1), .int (-1), .int 0, .int 1, .ref q8, .ref q9, .ref q10, .ref q11, .null, .int 0, .null, .null, .null, .null, .null, .null, .null, .null, .int 0, .null, .null, .int 0, .null, .null, .int 0, .int 0, .int 0] hin_X10 tyX10 tyX10_ok nmX10 rfl 18 (by decide) mw_578 rfl rfl rfl rfl (Nat.le_of_ble_eq_true rfl) rfl dX10_init_109 ?_
    refine bk_aload_n hC 0 dX10_init_112 rfl rfl ?_
    refine bk_bipush hC (10 : Int32) dX10_init_113 rfl ?_
    refine bk_newI hC 10 mw_117 (by decide) rfl (Nat.le_of_ble_eq_true rfl) (Nat.le_of_ble_eq_true rfl) (Nat.le_of_ble_eq_true rfl) (fun q12 => [(h, .inr (9, [.ref q1, .ref q2, .ref q3, .ref q4, .ref q5, .int 0, .int 0, .int 0, .ref q6, .ref q7, .int 200, .int (-1), .int (-1), .int 0, .int 1, .ref q8, .ref q9, .ref q10, .ref q11, .null, .int 0, .null, .null, .null, .null, .null, .null, .null, .null, .int 0, .null, .null, .int 0, .null, .null, .int 0, .int 0, .int 0])), (q1, .inl (ε.1, 7, .inl (fun _ => 0))), (q2, .inl (ε.1, 20, .inl (fun _ => 0))), (q3, .inl (ε.1, 6, .inl (fun _ => 0))), (q4, .inl (ε.1, 6, .inl (fun _ => 0))), (q5, .inl (ε.1, 6, .inl (fun _ => 0))), (q6, .inl (ε.1, 4, .inl (fun _ => 0))), (q7, .inl (ε.1, 4, .inl (fun _ => 0))), (q8, .inl (ε.1, 10, .inl (fun _ => 0))), (q9, .inl (ε.1, 10, .inl (fun _ => 0))), (q10, .inl (ε.1, 10, .inl (fun _ => 0))), (q11, .inl (ε.1, 10, .inl (fun _ => 0))), (q12, .inl (ε.1, 10, .inl (fun _ => 0)))]) (fun _ => rfl) dX10_init_115 (fun q12 => ?_)
    refine bk_putF hC [.ref q1, .ref q2, .ref q3, .ref q4, .ref q5, .int 0, .int 0, .int 0, .ref q6, .ref q7, .int 200, .int (-1), .int (-1), .int 0, .int 1, .ref q8, .ref q9, .ref q10, .ref q11, .ref q12, .int 0, .null, .null, .null, .null, .null, .null, .null, .null, .int 0, .null, .null, .int 0, .null, .null, .int 0, .int 0, .int 0] hin_X10 tyX10 tyX10_ok nmX10 rfl 19 (by decide) mw_579 rfl rfl rfl rfl (Nat.le_of_ble_eq_true rfl) rfl dX10_init_117 ?_
    refine bk_aload_n hC 0 dX10_init_120 rfl rfl ?_
    refine bk_bipush hC (6 : Int32) dX10_init_121 rfl ?_
    refine bk_newI hC 6 mw_117 (by decide) rfl (Nat.le_of_ble_eq_true rfl) (Nat.le_of_ble_eq_true rfl) (Nat.le_of_ble_eq_true rfl) (fun q13 => [(h, .inr (9, [.ref q1, .ref q2, .ref q3, .ref q4, .ref q5, .int 0, .int 0, .int 0, .ref q6, .ref q7, .int 200, .int (-1), .int (-1), .int 0, .int 1, .ref q8, .ref q9, .ref q10, .ref q11, .ref q12, .int 0, .null, .null, .null, .null, .null, .null, .null, .null, .int 0, .null, .null, .int 0, .null, .null, .int 0, .int 0, .int 0])), (q1, .inl (ε.1, 7, .inl (fun _ => 0))), (q2, .inl (ε.1, 20, .inl (fun _ => 0))), (q3, .inl (ε.1, 6, .inl (fun _ => 0))), (q4, .inl (ε.1, 6, .inl (fun _ => 0))), (q5, .inl (ε.1, 6, .inl (fun _ => 0))), (q6, .inl (ε.1, 4, .inl (fun _ => 0))), (q7, .inl (ε.1, 4, .inl (fun _ => 0))), (q8, .inl (ε.1, 10, .inl (fun _ => 0))), (q9, .inl (ε.1, 10, .inl (fun _ => 0))), (q10, .inl (ε.1, 10, .inl (fun _ => 0))), (q11, .inl (ε.1, 10, .inl (fun _ => 0))), (q12, .inl (ε.1, 10, .inl (fun _ => 0))), (q13, .inl (ε.1, 6, .inl (fun _ => 0)))]) (fun _ => rfl) dX10_init_123 (fun q13 => ?_)
    refine bk_putF hC [.ref q1, .ref q2, .ref q3, .ref q4, .ref q5, .int 0, .int 0, .int 0, .ref q6, .ref q7, .int 200, .int (-1), .int (-1), .int 0, .int 1, .ref q8, .ref q9, .ref q10, .ref q11, .ref q12, .int 0, .ref q13, .null, .null, .null, .null, .null, .null, .null, .int 0, .null, .null, .int 0, .null, .null, .int 0, .int 0, .int 0] hin_X10 tyX10 tyX10_ok nmX10 rfl 21 (by decide) mw_581 rfl rfl rfl rfl (Nat.le_of_ble_eq_true rfl) rfl dX10_init_125 ?_
    refine bk_aload_n hC 0 dX10_init_128 rfl rfl ?_
    refine bk_bipush hC (6 : Int32) dX10_init_129 rfl ?_
    refine bk_newI hC 6 mw_117 (by decide) rfl (Nat.le_of_ble_eq_true rfl) (Nat.le_of_ble_eq_true rfl) (Nat.le_of_ble_eq_true rfl) (fun q14 => [(h, .inr (9, [.ref q1, .ref q2, .ref q3, .ref q4, .ref q5, .int 0, .int 0, .int 0, .ref q6, .ref q7, .int 200, .int (-1), .int (-1), .int 0, .int 1, .ref q8, .ref q9, .ref q10, .ref q11, .ref q12, .int 0, .ref q13, .null, .null, .null, .null, .null, .null, .null, .int 0, .null, .null, .int 0, .null, .null, .int 0, .int 0, .int 0])), (q1, .inl (ε.1, 7, .inl (fun _ => 0))), (q2, .inl (ε.1, 20, .inl (fun _ => 0))), (q3, .inl (ε.1, 6, .inl (fun _ => 0))), (q4, .inl (ε.1, 6, .inl (fun _ => 0))), (q5, .inl (ε.1, 6, .inl (fun _ => 0))), (q6, .inl (ε.1, 4, .inl (fun _ => 0))), (q7, .inl (ε.1, 4, .inl (fun _ => 0))), (q8, .inl (ε.1, 10, .inl (fun _ => 0))), (q9, .inl (ε.1, 10, .inl (fun _ => 0))), (q10, .inl (ε.1, 10, .inl (fun _ => 0))), (q11, .inl (ε.1, 10, .inl (fun _ => 0))), (q12, .inl (ε.1, 10, .inl (fun _ => 0))), (q13, .inl (ε.1, 6, .inl (fun _ => 0))), (q14, .inl (ε.1, 6, .inl (fun _ => 0)))]) (fun _ => rfl) dX10_init_131 (fun q14 => ?_)
    refine bk_putF hC [.ref q1, .ref q2, .ref q3, .ref q4, .ref q5, .int 0, .int 0, .int 0, .ref q6, .ref q7, .int 200, .int (-1), .int (-1), .int 0, .int 1, .ref q8, .ref q9, .ref q10, .ref q11, .ref q12, .int 0, .ref q13, .ref q14, .null, .null, .null, .null, .null, .null, .int 0, .null, .null, .int 0, .null, .null, .int 0, .int 0, .int 0] hin_X10 tyX10 tyX10_ok nmX10 rfl 22 (by decide) mw_582 rfl rfl rfl rfl (Nat.le_of_ble_eq_true rfl) rfl dX10_init_133 ?_
    refine bk_aload_n hC 0 dX10_init_136 rfl rfl ?_
    refine bk_bipush hC (6 : Int32) dX10_init_137 rfl ?_
    refine bk_newI hC 6 mw_117 (by decide) rfl (Nat.le_of_ble_eq_true rfl) (Nat.le_of_ble_eq_true rfl) (Nat.le_of_ble_eq_true rfl) (fun q15 => [(h, .inr (9, [.ref q1, .ref q2, .ref q3, .ref q4, .ref q5, .int 0, .int 0, .int 0, .ref q6, .ref q7, .int 200, .int (-1), .int (-1), .int 0, .int 1, .ref q8, .ref q9, .ref q10, .ref q11, .ref q12, .int 0, .ref q13, .ref q14, .null, .null, .null, .null, .null, .null, .int 0, .null, .null, .int 0, .null, .null, .int 0, .int 0, .int 0])), (q1, .inl (ε.1, 7, .inl (fun _ => 0))), (q2, .inl (ε.1, 20, .inl (fun _ => 0))), (q3, .inl (ε.1, 6, .inl (fun _ => 0))), (q4, .inl (ε.1, 6, .inl (fun _ => 0))), (q5, .inl (ε.1, 6, .inl (fun _ => 0))), (q6, .inl (ε.1, 4, .inl (fun _ => 0))), (q7, .inl (ε.1, 4, .inl (fun _ => 0))), (q8, .inl (ε.1, 10, .inl (fun _ => 0))), (q9, .inl (ε.1, 10, .inl (fun _ => 0))), (q10, .inl (ε.1, 10, .inl (fun _ => 0))), (q11, .inl (ε.1, 10, .inl (fun _ => 0))), (q12, .inl (ε.1, 10, .inl (fun _ => 0))), (q13, .inl (ε.1, 6, .inl (fun _ => 0))), (q14, .inl (ε.1, 6, .inl (fun _ => 0))), (q15, .inl (ε.1, 6, .inl (fun _ => 0)))]) (fun _ => rfl) dX10_init_139 (fun q15 => ?_)
    refine bk_putF hC [.ref q1, .ref q2, .ref q3, .ref q4, .ref q5, .int 0, .int 0, .int 0, .ref q6, .ref q7, .int 200, .int (-1), .int (-1), .int 0, .int 1, .ref q8, .ref q9, .ref q10, .ref q11, .ref q12, .int 0, .ref q13, .ref q14, .ref q15, .null, .null, .null, .null, .null, .int 0, .null, .null, .int 0, .null, .null, .int 0, .int 0, .int 0] hin_X10 tyX10 tyX10_ok nmX10 rfl 23 (by decide) mw_583 rfl rfl rfl rfl (Nat.le_of_ble_eq_true rfl) rfl dX10_init_141 ?_
    refine bk_aload_n hC 0 dX10_init_144 rfl rfl ?_
    refine bk_sipush hC (3000 : Int32) dX10_init_145 rfl ?_
    refine bk_newZ hC 3000 mw_636 (by decide) rfl (Nat.le_of_ble_eq_true rfl) (Nat.le_of_ble_eq_true rfl) (Nat.le_of_ble_eq_true rfl) (fun q16 => [(h, .inr (9, [.ref q1, .ref q2, .ref q3, .ref q4, .ref q5, .int 0, .int 0, .int 0, .ref q6, .ref q7, .int 200, .int (-1), .int (-1), .int 0, .int 1, .ref q8, .ref q9, .ref q10, .ref q11, .ref q12, .int 0, .ref q13, .ref q14, .ref q15, .null, .null, .null, .null, .null, .int 0, .null, .null, .int 0, .null, .null, .int 0, .int 0, .int 0])), (q1, .inl (ε.1, 7, .inl (fun _ => 0))), (q2, .inl (ε.1, 20, .inl (fun _ => 0))), (q3, .inl (ε.1, 6, .inl (fun _ => 0))), (q4, .inl (ε.1, 6, .inl (fun _ => 0))), (q5, .inl (ε.1, 6, .inl (fun _ => 0))), (q6, .inl (ε.1, 4, .inl (fun _ => 0))), (q7, .inl (ε.1, 4, .inl (fun _ => 0))), (q8, .inl (ε.1, 10, .inl (fun _ => 0))), (q9, .inl (ε.1, 10, .inl (fun _ => 0))), (q10, .inl (ε.1, 10, .inl (fun _ => 0))), (q11, .inl (ε.1, 10, .inl (fun _ => 0))), (q12, .inl (ε.1, 10, .inl (fun _ => 0))), (q13, .inl (ε.1, 6, .inl (fun _ => 0))), (q14, .inl (ε.1, 6, .inl (fun _ => 0))), (q15, .inl (ε.1, 6, .inl (fun _ => 0))), (q16, .inl (ε.2.2.1, 3000, .inl (fun _ => 0)))]) (fun _ => rfl) dX10_init_148 (fun q16 => ?_)
    refine bk_putF hC [.ref q1, .ref q2, .ref q3, .ref q4, .ref q5, .int 0, .int 0, .int 0, .ref q6, .ref q7, .int 200, .int (-1), .int (-1), .int 0, .int 1, .ref q8, .ref q9, .ref q10, .ref q11, .ref q12, .int 0, .ref q13, .ref q14, .ref q15, .ref q16, .null, .null, .null, .null, .int 0, .null, .null, .int 0, .null, .null, .int 0, .int 0, .int 0] hin_X10 tyX10 tyX10_ok nmX10 rfl 24 (by decide) mw_584 rfl rfl rfl rfl (Nat.le_of_ble_eq_true rfl) rfl dX10_init_150 ?_
    refine bk_aload_n hC 0 dX10_init_153 rfl rfl ?_
    refine bk_bipush hC (6 : Int32) dX10_init_154 rfl ?_
    refine bk_newI hC 6 mw_117 (by decide) rfl (Nat.le_of_ble_eq_true rfl) (Nat.le_of_ble_eq_true rfl) (Nat.le_of_ble_eq_true rfl) (fun q17 => [(h, .inr (9, [.ref q1, .ref q2, .ref q3, .ref q4, .ref q5, .int 0, .int 0, .int 0, .ref q6, .ref q7, .int 200, .int (-1), .int (-1), .int 0, .int 1, .ref q8, .ref q9, .ref q10, .ref q11, .ref q12, .int 0, .ref q13, .ref q14, .ref q15, .ref q16, .null, .null, .null, .null, .int 0, .null, .null, .int 0, .null, .null, .int 0, .int 0, .int 0])), (q1, .inl (ε.1, 7, .inl (fun _ => 0))), (q2, .inl (ε.1, 20, .inl (fun _ => 0))), (q3, .inl (ε.1, 6, .inl (fun _ => 0))), (q4, .inl (ε.1, 6, .inl (fun _ => 0))), (q5, .inl (ε.1, 6, .inl (fun _ => 0))), (q6, .inl (ε.1, 4, .inl (fun _ => 0))), (q7, .inl (ε.1, 4, .inl (fun _ => 0))), (q8, .inl (ε.1, 10, .inl (fun _ => 0))), (q9, .inl (ε.1, 10, .inl (fun _ => 0))), (q10, .inl (ε.1, 10, .inl (fun _ => 0))), (q11, .inl (ε.1, 10, .inl (fun _ => 0))), (q12, .inl (ε.1, 10, .inl (fun _ => 0))), (q13, .inl (ε.1, 6, .inl (fun _ => 0))), (q14, .inl (ε.1, 6, .inl (fun _ => 0))), (q15, .inl (ε.1, 6, .inl (fun _ => 0))), (q16, .inl (ε.2.2.1, 3000, .inl (fun _ => 0))), (q17, .inl (ε.1, 6, .inl (fun _ => 0)))]) (fun _ => rfl) dX10_init_156 (fun q17 => ?_)
    refine bk_putF hC [.ref q1, .ref q2, .ref q3, .ref q4, .ref q5, .int 0, .int 0, .int 0, .ref q6, .ref q7, .int 200, .int (-1), .int (-1), .int 0, .int 1, .ref q8, .ref q9, .ref q10, .ref q11, .ref q12, .int 0, .ref q13, .ref q14, .ref q15, .ref q16, .ref q17, .null, .null, .null, .int 0, .null, .null, .int 0, .null, .null, .int 0, .int 0, .int 0] hin_X10 tyX10 tyX10_ok nmX10 rfl 25 (by decide) mw_585 rfl rfl rfl rfl (Nat.le_of_ble_eq_true rfl) rfl dX10_init_158 ?_
    refine bk_aload_n hC 0 dX10_init_161 rfl rfl ?_
    refine bk_bipush hC (6 : Int32) dX10_init_162 rfl ?_
    refine bk_newI hC 6 mw_117 (by decide) rfl (Nat.le_of_ble_eq_true rfl) (Nat.le_of_ble_eq_true rfl) (Nat.le_of_ble_eq_true rfl) (fun q18 => [(h, .inr (9, [.ref q1, .ref q2, .ref q3, .ref q4, .ref q5, .int 0, .int 0, .int 0, .ref q6, .ref q7, .int 200, .int (-1), .int (-1), .int 0, .int 1, .ref q8, .ref q9, .ref q10, .ref q11, .ref q12, .int 0, .ref q13, .ref q14, .ref q15, .ref q16, .ref q17, .null, .null, .null, .int 0, .null, .null, .int 0, .null, .null, .int 0, .int 0, .int 0])), (q1, .inl (ε.1, 7, .inl (fun _ => 0))), (q2, .inl (ε.1, 20, .inl (fun _ => 0))), (q3, .inl (ε.1, 6, .inl (fun _ => 0))), (q4, .inl (ε.1, 6, .inl (fun _ => 0))), (q5, .inl (ε.1, 6, .inl (fun _ => 0))), (q6, .inl (ε.1, 4, .inl (fun _ => 0))), (q7, .inl (ε.1, 4, .inl (fun _ => 0))), (q8, .inl (ε.1, 10, .inl (fun _ => 0))), (q9, .inl (ε.1, 10, .inl (fun _ => 0))), (q10, .inl (ε.1, 10, .inl (fun _ => 0))), (q11, .inl (ε.1, 10, .inl (fun _ => 0))), (q12, .inl (ε.1, 10, .inl (fun _ => 0))), (q13, .inl (ε.1, 6, .inl (fun _ => 0))), (q14, .inl (ε.1, 6, .inl (fun _ => 0))), (q15, .inl (ε.1, 6, .inl (fun _ => 0))), (q16, .inl (ε.2.2.1, 3000, .inl (fun _ => 0))), (q17, .inl (ε.1, 6, .inl (fun _ => 0))), (q18, .inl (ε.1, 6, .inl (fun _ => 0)))]) (fun _ => rfl) dX10_init_164 (fun q18 => ?_)
    refine bk_putF hC [.ref q1, .ref q2, .ref q3, .ref q4, .ref q5, .int 0, .int 0, .int 0, .ref q6, .ref q7, .int 200, .int (-1), .int (-1), .int 0, .int 1, .ref q8, .ref q9, .ref q10, .ref q11, .ref q12, .int 0, .ref q13, .ref q14, .ref q15, .ref q16, .ref q17, .ref q18, .null, .null, .int 0, .null, .null, .int 0, .null, .null, .int 0, .int 0, .int 0] hin_X10 tyX10 tyX10_ok nmX10 rfl 26 (by decide) mw_586 rfl rfl rfl rfl (Nat.le_of_ble_eq_true rfl) rfl dX10_init_166 ?_
    refine bk_aload_n hC 0 dX10_init_169 rfl rfl ?_
    refine bk_sipush hC (1800 : Int32) dX10_init_170 rfl ?_
    refine bk_newJ hC 1800 mw_190 (by decide) rfl (Nat.le_of_ble_eq_true rfl) (Nat.le_of_ble_eq_true rfl) (Nat.le_of_ble_eq_true rfl) (fun q19 => [(h, .inr (9, [.ref q1, .ref q2, .ref q3, .ref q4, .ref q5, .int 0, .int 0, .int 0, .ref q6, .ref q7, .int 200, .int (-1), .int (-1), .int 0, .int 1, .ref q8, .ref q9, .ref q10, .ref q11, .ref q12, .int 0, .ref q13, .ref q14, .ref q15, .ref q16, .ref q17, .ref q18, .null, .null, .int 0, .null, .null, .int 0, .null, .null, .int 0, .int 0, .int 0])), (q1, .inl (ε.1, 7, .inl (fun _ => 0))), (q2, .inl (ε.1, 20, .inl (fun _ => 0))), (q3, .inl (ε.1, 6, .inl (fun _ => 0))), (q4, .inl (ε.1, 6, .inl (fun _ => 0))), (q5, .inl (ε.1, 6, .inl (fun _ => 0))), (q6, .inl (ε.1, 4, .inl (fun _ => 0))), (q7, .inl (ε.1, 4, .inl (fun _ => 0))), (q8, .inl (ε.1, 10, .inl (fun _ => 0))), (q9, .inl (ε.1, 10, .inl (fun _ => 0))), (q10, .inl (ε.1, 10, .inl (fun _ => 0))), (q11, .inl (ε.1, 10, .inl (fun _ => 0))), (q12, .inl (ε.1, 10, .inl (fun _ => 0))), (q13, .inl (ε.1, 6, .inl (fun _ => 0))), (q14, .inl (ε.1, 6, .inl (fun _ => 0))), (q15, .inl (ε.1, 6, .inl (fun _ => 0))), (q16, .inl (ε.2.2.1, 3000, .inl (fun _ => 0))), (q17, .inl (ε.1, 6, .inl (fun _ => 0))), (q18, .inl (ε.1, 6, .inl (fun _ => 0))), (q19, .inl (ε.2.1, 1800, .inr (.inl (fun _ => 0))))]) (fun _ => rfl) dX10_init_173 (fun q19 => ?_)
    refine bk_putF hC [.ref q1, .ref q2, .ref q3, .ref q4, .ref q5, .int 0, .int 0, .int 0, .ref q6, .ref q7, .int 200, .int (-1), .int (-1), .int 0, .int 1, .ref q8, .ref q9, .ref q10, .ref q11, .ref q12, .int 0, .ref q13, .ref q14, .ref q15, .ref q16, .ref q17, .ref q18, .ref q19, .null, .int 0, .null, .null, .int 0, .null, .null, .int 0, .int 0, .int 0] hin_X10 tyX10 tyX10_ok nmX10 rfl 27 (by decide) mw_587 rfl rfl rfl rfl (Nat.le_of_ble_eq_true rfl) rfl dX10_init_175 ?_
    refine bk_aload_n hC 0 dX10_init_178 rfl rfl ?_
    refine bk_sipush hC (301 : Int32) dX10_init_179 rfl ?_
    refine bk_newJ hC 301 mw_190 (by decide) rfl (Nat.le_of_ble_eq_true rfl) (Nat.le_of_ble_eq_true rfl) (Nat.le_of_ble_eq_true rfl) (fun q20 => [(h, .inr (9, [.ref q1, .ref q2, .ref q3, .ref q4, .ref q5, .int 0, .int 0, .int 0, .ref q6, .ref q7, .int 200, .int (-1), .int (-1), .int 0, .int 1, .ref q8, .ref q9, .ref q10, .ref q11, .ref q12, .int 0, .ref q13, .ref q14, .ref q15, .ref q16, .ref q17, .ref q18, .ref q19, .null, .int 0, .null, .null, .int 0, .null, .null, .int 0, .int 0, .int 0])), (q1, .inl (ε.1, 7, .inl (fun _ => 0))), (q2, .inl (ε.1, 20, .inl (fun _ => 0))), (q3, .inl (ε.1, 6, .inl (fun _ => 0))), (q4, .inl (ε.1, 6, .inl (fun _ => 0))), (q5, .inl (ε.1, 6, .inl (fun _ => 0))), (q6, .inl (ε.1, 4, .inl (fun _ => 0))), (q7, .inl (ε.1, 4, .inl (fun _ => 0))), (q8, .inl (ε.1, 10, .inl (fun _ => 0))), (q9, .inl (ε.1, 10, .inl (fun _ => 0))), (q10, .inl (ε.1, 10, .inl (fun _ => 0))), (q11, .inl (ε.1, 10, .inl (fun _ => 0))), (q12, .inl (ε.1, 10, .inl (fun _ => 0))), (q13, .inl (ε.1, 6, .inl (fun _ => 0))), (q14, .inl (ε.1, 6, .inl (fun _ => 0))), (q15, .inl (ε.1, 6, .inl (fun _ => 0))), (q16, .inl (ε.2.2.1, 3000, .inl (fun _ => 0))), (q17, .inl (ε.1, 6, .inl (fun _ => 0))), (q18, .inl (ε.1, 6, .inl (fun _ => 0))), (q19, .inl (ε.2.1, 1800, .inr (.inl (fun _ => 0)))), (q20, .inl (ε.2.1, 301, .inr (.inl (fun _ => 0))))]) (fun _ => rfl) dX10_init_182 (fun q20 => ?_)
    refine bk_putF hC [.ref q1, .ref q2, .ref q3, .ref q4, .ref q5, .int 0, .int 0, .int 0, .ref q6, .ref q7, .int 200, .int (-1), .int (-1), .int 0, .int 1, .ref q8, .ref q9, .ref q10, .ref q11, .ref q12, .int 0, .ref q13, .ref q14, .ref q15, .ref q16, .ref q17, .ref q18, .ref q19, .ref q20, .int 0, .null, .null, .int 0, .null, .null, .int 0, .int 0, .int 0] hin_X10 tyX10 tyX10_ok nmX10 rfl 28 (by decide) mw_588 rfl rfl rfl rfl (Nat.le_of_ble_eq_true rfl) rfl dX10_init_184 ?_
    refine bk_aload_n hC 0 dX10_init_187 rfl rfl ?_
    refine bk_sipush hC (300 : Int32) dX10_init_188 rfl ?_
    refine bk_newZ hC 300 mw_636 (by decide) rfl (Nat.le_of_ble_eq_true rfl) (Nat.le_of_ble_eq_true rfl) (Nat.le_of_ble_eq_true rfl) (fun q21 => [(h, .inr (9, [.ref q1, .ref q2, .ref q3, .ref q4, .ref q5, .int 0, .int 0, .int 0, .ref q6, .ref q7, .int 200, .int (-1), .int (-1), .int 0, .int 1, .ref q8, .ref q9, .ref q10, .ref q11, .ref q12, .int 0, .ref q13, .ref q14, .ref q15, .ref q16, .ref q17, .ref q18, .ref q19, .ref q20, .int 0, .null, .null, .int 0, .null, .null, .int 0, .int 0, .int 0])), (q1, .inl (ε.1, 7, .inl (fun _ => 0))), (q2, .inl (ε.1, 20, .inl (fun _ => 0))), (q3, .inl (ε.1, 6, .inl (fun _ => 0))), (q4, .inl (ε.1, 6, .inl (fun _ => 0))), (q5, .inl (ε.1, 6, .inl (fun _ => 0))), (q6, .inl (ε.1, 4, .inl (fun _ => 0))), (q7, .inl (ε.1, 4, .inl (fun _ => 0))), (q8, .inl (ε.1, 10, .inl (fun _ => 0))), (q9, .inl (ε.1, 10, .inl (fun _ => 0))), (q10, .inl (ε.1, 10, .inl (fun _ => 0))), (q11, .inl (ε.1, 10, .inl (fun _ => 0))), (q12, .inl (ε.1, 10, .inl (fun _ => 0))), (q13, .inl (ε.1, 6, .inl (fun _ => 0))), (q14, .inl (ε.1, 6, .inl (fun _ => 0))), (q15, .inl (ε.1, 6, .inl (fun _ => 0))), (q16, .inl (ε.2.2.1, 3000, .inl (fun _ => 0))), (q17, .inl (ε.1, 6, .inl (fun _ => 0))), (q18, .inl (ε.1, 6, .inl (fun _ => 0))), (q19, .inl (ε.2.1, 1800, .inr (.inl (fun _ => 0)))), (q20, .inl (ε.2.1, 301, .inr (.inl (fun _ => 0)))), (q21, .inl (ε.2.2.1, 300, .inl (fun _ => 0)))]) (fun _ => rfl) dX10_init_191 (fun q21 => ?_)
    refine bk_putF hC [.ref q1, .ref q2, .ref q3, .ref q4, .ref q5, .int 0, .int 0, .int 0, .ref q6, .ref q7, .int 200, .int (-1), .int (-1), .int 0, .int 1, .ref q8, .ref q9, .ref q10, .ref q11, .ref q12, .int 0, .ref q13, .ref q14, .ref q15, .ref q16, .ref q17, .ref q18, .ref q19, .ref q20, .int 0, .ref q21, .null, .int 0, .null, .null, .int 0, .int 0, .int 0] hin_X10 tyX10 tyX10_ok nmX10 rfl 30 (by decide) mw_590 rfl rfl rfl rfl (Nat.le_of_ble_eq_true rfl) rfl dX10_init_193 ?_
    refine bk_aload_n hC 0 dX10_init_196 rfl rfl ?_
    refine bk_bipush hC (6 : Int32) dX10_init_197 rfl ?_
    refine bk_newI hC 6 mw_117 (by decide) rfl (Nat.le_of_ble_eq_true rfl) (Nat.le_of_ble_eq_true rfl) (Nat.le_of_ble_eq_true rfl) (fun q22 => [(h, .inr (9, [.ref q1, .ref q2, .ref q3, .ref q4, .ref q5, .int 0, .int 0, .int 0, .ref q6, .ref q7, .int 200, .int (-1), .int (-1), .int 0, .int 1, .ref q8, .ref q9, .ref q10, .ref q11, .ref q12, .int 0, .ref q13, .ref q14, .ref q15, .ref q16, .ref q17, .ref q18, .ref q19, .ref q20, .int 0, .ref q21, .null, .int 0, .null, .null, .int 0, .int 0, .int 0])), (q1, .inl (ε.1, 7, .inl (fun _ => 0))), (q2, .inl (ε.1, 20, .inl (fun _ => 0))), (q3, .inl (ε.1, 6, .inl (fun _ => 0))), (q4, .inl (ε.1, 6, .inl (fun _ => 0))), (q5, .inl (ε.1, 6, .inl (fun _ => 0))), (q6, .inl (ε.1, 4, .inl (fun _ => 0))), (q7, .inl (ε.1, 4, .inl (fun _ => 0))), (q8, .inl (ε.1, 10, .inl (fun _ => 0))), (q9, .inl (ε.1, 10, .inl (fun _ => 0))), (q10, .inl (ε.1, 10, .inl (fun _ => 0))), (q11, .inl (ε.1, 10, .inl (fun _ => 0))), (q12, .inl (ε.1, 10, .inl (fun _ => 0))), (q13, .inl (ε.1, 6, .inl (fun _ => 0))), (q14, .inl (ε.1, 6, .inl (fun _ => 0))), (q15, .inl (ε.1, 6, .inl (fun _ => 0))), (q16, .inl (ε.2.2.1, 3000, .inl (fun _ => 0))), (q17, .inl (ε.1, 6, .inl (fun _ => 0))), (q18, .inl (ε.1, 6, .inl (fun _ => 0))), (q19, .inl (ε.2.1, 1800, .inr (.inl (fun _ => 0)))), (q20, .inl (ε.2.1, 301, .inr (.inl (fun _ => 0)))), (q21, .inl (ε.2.2.1, 300, .inl (fun _ => 0))), (q22, .inl (ε.1, 6, .inl (fun _ => 0)))]) (fun _ => rfl) dX10_init_199 (fun q22 => ?_)
    refine bk_putF hC [.ref q1, .ref q2, .ref q3, .ref q4, .ref q5, .int 0, .int 0, .int 0, .ref q6, .ref q7, .int 200, .int (-1), .int (-1), .int 0, .int 1, .ref q8, .ref q9, .ref q10, .ref q11, .ref q12, .int 0, .ref q13, .ref q14, .ref q15, .ref q16, .ref q17, .ref q18, .ref q19, .ref q20, .int 0, .ref q21, .ref q22, .int 0, .null, .null, .int 0, .int 0, .int 0] hin_X10 tyX10 tyX10_ok nmX10 rfl 31 (by decide) mw_591 rfl rfl rfl rfl (Nat.le_of_ble_eq_true rfl) rfl dX10_init_201 ?_
    refine bk_aload_n hC 0 dX10_init_204 rfl rfl ?_
    refine bk_sipush hC (10000 : Int32) dX10_init_205 rfl ?_
    refine bk_newI hC 10000 mw_117 (by decide) rfl (Nat.le_of_ble_eq_true rfl) (Nat.le_of_ble_eq_true rfl) (Nat.le_of_ble_eq_true rfl) (fun q23 => [(h, .inr (9, [.ref q1, .ref q2, .ref q3, .ref q4, .ref q5, .int 0, .int 0, .int 0, .ref q6, .ref q7, .int 200, .int (-1), .int (-1), .int 0, .int 1, .ref q8, .ref q9, .ref q10, .ref q11, .ref q12, .int 0, .ref q13, .ref q14, .ref q15, .ref q16, .ref q17, .ref q18, .ref q19, .ref q20, .int 0, .ref q21, .ref q22, .int 0, .null, .null, .int 0, .int 0, .int 0])), (q1, .inl (ε.1, 7, .inl (fun _ => 0))), (q2, .inl (ε.1, 20, .inl (fun _ => 0))), (q3, .inl (ε.1, 6, .inl (fun _ => 0))), (q4, .inl (ε.1, 6, .inl (fun _ => 0))), (q5, .inl (ε.1, 6, .inl (fun _ => 0))), (q6, .inl (ε.1, 4, .inl (fun _ => 0))), (q7, .inl (ε.1, 4, .inl (fun _ => 0))), (q8, .inl (ε.1, 10, .inl (fun _ => 0))), (q9, .inl (ε.1, 10, .inl (fun _ => 0))), (q10, .inl (ε.1, 10, .inl (fun _ => 0))), (q11, .inl (ε.1, 10, .inl (fun _ => 0))), (q12, .inl (ε.1, 10, .inl (fun _ => 0))), (q13, .inl (ε.1, 6, .inl (fun _ => 0))), (q14, .inl (ε.1, 6, .inl (fun _ => 0))), (q15, .inl (ε.1, 6, .inl (fun _ => 0))), (q16, .inl (ε.2.2.1, 3000, .inl (fun _ => 0))), (q17, .inl (ε.1, 6, .inl (fun _ => 0))), (q18, .inl (ε.1, 6, .inl (fun _ => 0))), (q19, .inl (ε.2.1, 1800, .inr (.inl (fun _ => 0)))), (q20, .inl (ε.2.1, 301, .inr (.inl (fun _ => 0)))), (q21, .inl (ε.2.2.1, 300, .inl (fun _ => 0))), (q22, .inl (ε.1, 6, .inl (fun _ => 0))), (q23, .inl (ε.1, 10000, .inl (fun _ => 0)))]) (fun _ => rfl) dX10_init_208 (fun q23 => ?_)
    refine bk_putF hC [.ref q1, .ref q2, .ref q3, .ref q4, .ref q5, .int 0, .int 0, .int 0, .ref q6, .ref q7, .int 200, .int (-1), .int (-1), .int 0, .int 1, .ref q8, .ref q9, .ref q10, .ref q11, .ref q12, .int 0, .ref q13, .ref q14, .ref q15, .ref q16, .ref q17, .ref q18, .ref q19, .ref q20, .int 0, .ref q21, .ref q22, .int 0, .ref q23, .null, .int 0, .int 0, .int 0] hin_X10 tyX10 tyX10_ok nmX10 rfl 33 (by decide) mw_593 rfl rfl rfl rfl (Nat.le_of_ble_eq_true rfl) rfl dX10_init_210 ?_
    refine bk_aload_n hC 0 dX10_init_213 rfl rfl ?_
    refine bk_sipush hC (150 : Int32) dX10_init_214 rfl ?_
    refine bk_newI hC 150 mw_117 (by decide) rfl (Nat.le_of_ble_eq_true rfl) (Nat.le_of_ble_eq_true rfl) (Nat.le_of_ble_eq_true rfl) (fun q24 => [(h, .inr (9, [.ref q1, .ref q2, .ref q3, .ref q4, .ref q5, .int 0, .int 0, .int 0, .ref q6, .ref q7, .int 200, .int (-1), .int (-1), .int 0, .int 1, .ref q8, .ref q9, .ref q10, .ref q11, .ref q12, .int 0, .ref q13, .ref q14, .ref q15, .ref q16, .ref q17, .ref q18, .ref q19, .ref q20, .int 0, .ref q21, .ref q22, .int 0, .ref q23, .null, .int 0, .int 0, .int 0])), (q1, .inl (ε.1, 7, .inl (fun _ => 0))), (q2, .inl (ε.1, 20, .inl (fun _ => 0))), (q3, .inl (ε.1, 6, .inl (fun _ => 0))), (q4, .inl (ε.1, 6, .inl (fun _ => 0))), (q5, .inl (ε.1, 6, .inl (fun _ => 0))), (q6, .inl (ε.1, 4, .inl (fun _ => 0))), (q7, .inl (ε.1, 4, .inl (fun _ => 0))), (q8, .inl (ε.1, 10, .inl (fun _ => 0))), (q9, .inl (ε.1, 10, .inl (fun _ => 0))), (q10, .inl (ε.1, 10, .inl (fun _ => 0))), (q11, .inl (ε.1, 10, .inl (fun _ => 0))), (q12, .inl (ε.1, 10, .inl (fun _ => 0))), (q13, .inl (ε.1, 6, .inl (fun _ => 0))), (q14, .inl (ε.1, 6, .inl (fun _ => 0))), (q15, .inl (ε.1, 6, .inl (fun _ => 0))), (q16, .inl (ε.2.2.1, 3000, .inl (fun _ => 0))), (q17, .inl (ε.1, 6, .inl (fun _ => 0))), (q18, .inl (ε.1, 6, .inl (fun _ => 0))), (q19, .inl (ε.2.1, 1800, .inr (.inl (fun _ => 0)))), (q20, .inl (ε.2.1, 301, .inr (.inl (fun _ => 0)))), (q21, .inl (ε.2.2.1, 300, .inl (fun _ => 0))), (q22, .inl (ε.1, 6, .inl (fun _ => 0))), (q23, .inl (ε.1, 10000, .inl (fun _ => 0))), (q24, .inl (ε.1, 150, .inl (fun _ => 0)))]) (fun _ => rfl) dX10_init_217 (fun q24 => ?_)
    refine bk_putF hC [.ref q1, .ref q2, .ref q3, .ref q4, .ref q5, .int 0, .int 0, .int 0, .ref q6, .ref q7, .int 200, .int (-1), .int (-1), .int 0, .int 1, .ref q8, .ref q9, .ref q10, .ref q11, .ref q12, .int 0, .ref q13, .ref q14, .ref q15, .ref q16, .ref q17, .ref q18, .ref q19, .ref q20, .int 0, .ref q21, .ref q22, .int 0, .ref q23, .ref q24, .int 0, .int 0, .int 0] hin_X10 tyX10 tyX10_ok nmX10 rfl 34 (by decide) mw_594 rfl rfl rfl rfl (Nat.le_of_ble_eq_true rfl) rfl dX10_init_219 ?_
    refine bk_iconst hC (0 : Int32) dX10_init_222 rfl ?_
    refine bk_istore_n hC [(1, .int 0), (0, .ref h)] dX10_init_223 rfl (by decide) rfl ?_
    have hloop : ∀ (n i : Nat), i ≤ 6 → 6 ≤ i + n → bd_U Γ 2 24 15690 ([(h, .inr (9, [.ref q1, .ref q2, .ref q3, .ref q4, .ref q5, .int 0, .int 0, .int 0, .ref q6, .ref q7, .int 200, .int (-1), .int (-1), .int 0, .int 1, .ref q8, .ref q9, .ref q10, .ref q11, .ref q12, .int 0, .ref q13, .ref q14, .ref q15, .ref q16, .ref q17, .ref q18, .ref q19, .ref q20, .int 0, .ref q21, .ref q22, .int 0, .ref q23, .ref q24, .int 0, .int 0, .int 0])), (q1, .inl (ε.1, 7, .inl (fun _ => 0))), (q2, .inl (ε.1, 20, .inl (fun _ => 0))), (q3, .inl (ε.1, 6, .inl (fun _ => 0))), (q4, .inl (ε.1, 6, .inl (fun _ => 0))), (q5, .inl (ε.1, 6, .inl (fun _ => 0))), (q6, .inl (ε.1, 4, .inl (fun _ => 0))), (q7, .inl (ε.1, 4, .inl (fun _ => 0))), (q8, .inl (ε.1, 10, .inl (fun _ => 0))), (q9, .inl (ε.1, 10, .inl (fun _ => 0))), (q10, .inl (ε.1, 10, .inl (fun _ => 0))), (q11, .inl (ε.1, 10, .inl (fun _ => 0))), (q12, .inl (ε.1, 10, .inl (fun _ => 0))), (q13, .inl (ε.1, 6, .inl (fun j => if j < i then (-1) else 0))), (q14, .inl (ε.1, 6, .inl (fun _ => 0))), (q15, .inl (ε.1, 6, .inl (fun _ => 0))), (q16, .inl (ε.2.2.1, 3000, .inl (fun _ => 0))), (q17, .inl (ε.1, 6, .inl (fun _ => 0))), (q18, .inl (ε.1, 6, .inl (fun _ => 0))), (q19, .inl (ε.2.1, 1800, .inr (.inl (fun _ => 0)))), (q20, .inl (ε.2.1, 301, .inr (.inl (fun _ => 0)))), (q21, .inl (ε.2.2.1, 300, .inl (fun _ => 0))), (q22, .inl (ε.1, 6, .inl (fun _ => 0))), (q23, .inl (ε.1, 10000, .inl (fun _ => 0))), (q24, .inl (ε.1, 150, .inl (fun _ => 0)))]) 224 [(1, .int (nI i)), (0, .ref h)] [] := by
      intro n
      induction n with
      | zero =>
        intro i hi hn
        refine bk_iload_n hC 0 dX10_init_224 rfl rfl ?_
        refine bk_bipush hC (6 : Int32) dX10_init_225 rfl ?_
        refine bk_icmp_ge hC 243 dX10_init_227 (by decide) (fun c => ?_) (fun c => ?_)
        · have e : i = 6 := by
            rcases Nat.lt_or_ge i 6 with q | q
            · exact absurd c (nI_ge (b := 6) q (by omega))
            · omega
          subst e
          exact bk_ret hC (fun i => ([q1, q2, q3, q4, q5, q6, q7, q8, q9, q10, q11, q12, q13, q14, q15, q16, q17, q18, q19, q20, q21, q22, q23, q24] : List Nat).getD i 0) rfl rfl rfl dX10_init_243
        · exact absurd (nI_le (a := 6) (b := i) (by omega) (by omega)) c
      | succ n ih =>
        intro i hi hn
        refine bk_iload_n hC 0 dX10_init_224 rfl rfl ?_
        refine bk_bipush hC (6 : Int32) dX10_init_225 rfl ?_
        refine bk_icmp_ge hC 243 dX10_init_227 (by decide) (fun c => ?_) (fun c => ?_)
        · have e : i = 6 := by
            rcases Nat.lt_or_ge i 6 with q | q
            · exact absurd c (nI_ge (b := 6) q (by omega))
            · omega
          subst e
          exact bk_ret hC (fun i => ([q1, q2, q3, q4, q5, q6, q7, q8, q9, q10, q11, q12, q13, q14, q15, q16, q17, q18, q19, q20, q21, q22, q23, q24] : List Nat).getD i 0) rfl rfl rfl dX10_init_243
        · have hlt : i < 6 := by
            rcases Nat.lt_or_ge i 6 with q | q
            · exact q
            · exact absurd (nI_le (a := 6) q (by omega)) c
          refine bk_aload_n hC 1 dX10_init_230 rfl rfl ?_
          refine bk_get hC (v := .ref q13) hin_X10 rfl 21 (by decide) mw_581 rfl dX10_init_231 ?_
          refine bk_iload_n hC 0 dX10_init_234 rfl rfl ?_
          refine bk_iconst hC (-1 : Int32) dX10_init_235 rfl ?_
          refine bk_iast hC 13 rfl (vp_in_nI hlt (by omega)) (ws' := [(h, .inr (9, [.ref q1, .ref q2, .ref q3, .ref q4, .ref q5, .int 0, .int 0, .int 0, .ref q6, .ref q7, .int 200, .int (-1), .int (-1), .int 0, .int 1, .ref q8, .ref q9, .ref q10, .ref q11, .ref q12, .int 0, .ref q13, .ref q14, .ref q15, .ref q16, .ref q17, .ref q18, .ref q19, .ref q20, .int 0, .ref q21, .ref q22, .int 0, .ref q23, .ref q24, .int 0, .int 0, .int 0])), (q1, .inl (ε.1, 7, .inl (fun _ => 0))), (q2, .inl (ε.1, 20, .inl (fun _ => 0))), (q3, .inl (ε.1, 6, .inl (fun _ => 0))), (q4, .inl (ε.1, 6, .inl (fun _ => 0))), (q5, .inl (ε.1, 6, .inl (fun _ => 0))), (q6, .inl (ε.1, 4, .inl (fun _ => 0))), (q7, .inl (ε.1, 4, .inl (fun _ => 0))), (q8, .inl (ε.1, 10, .inl (fun _ => 0))), (q9, .inl (ε.1, 10, .inl (fun _ => 0))), (q10, .inl (ε.1, 10, .inl (fun _ => 0))), (q11, .inl (ε.1, 10, .inl (fun _ => 0))), (q12, .inl (ε.1, 10, .inl (fun _ => 0))), (q13, .inl (ε.1, 6, .inl (fun j => if j < i + 1 then (-1) else 0))), (q14, .inl (ε.1, 6, .inl (fun _ => 0))), (q15, .inl (ε.1, 6, .inl (fun _ => 0))), (q16, .inl (ε.2.2.1, 3000, .inl (fun _ => 0))), (q17, .inl (ε.1, 6, .inl (fun _ => 0))), (q18, .inl (ε.1, 6, .inl (fun _ => 0))), (q19, .inl (ε.2.1, 1800, .inr (.inl (fun _ => 0)))), (q20, .inl (ε.2.1, 301, .inr (.inl (fun _ => 0)))), (q21, .inl (ε.2.2.1, 300, .inl (fun _ => 0))), (q22, .inl (ε.1, 6, .inl (fun _ => 0))), (q23, .inl (ε.1, 10000, .inl (fun _ => 0))), (q24, .inl (ε.1, 150, .inl (fun _ => 0)))]) ?_ dX10_init_236 ?_
          · rw [nI_clamp (by omega)]
            have e : upd (fun j => if j < i then (-1) else 0) i (-1) = (fun j => if j < i + 1 then (-1) else 0) := by
              funext j
              unfold upd
              by_cases h1 : j = i
              · subst h1; simp
              · by_cases h2 : j < i
                · have : j < i + 1 := by omega
                  simp [h1, h2, this]
                · have : ¬ j < i + 1 := by omega
                  simp [h1, h2, this]
            rw [e]; rfl
          · refine bk_iinc hC 0 [(1, .int (nI (i + 1))), (0, .ref h)] dX10_init_237 rfl (nI_succ i).symm (by decide) rfl ?_
            refine bk_goto hC 224 dX10_init_240 (by decide) ?_
            exact ih (i + 1) (by omega) (by omega)
    exact hloop 6 0 (by omega) (by omega))
