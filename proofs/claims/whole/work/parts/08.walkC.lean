theorem dX10_no_0 : decode cX10_no 0 = .ok (.aload_n 0, 1) := by decide +kernel
theorem dX10_no_1 : decode cX10_no 1 = .ok (.getfield 7, 3) := by decide +kernel
theorem dX10_no_4 : decode cX10_no 4 = .ok (.iload_n 1, 1) := by decide +kernel
theorem dX10_no_5 : decode cX10_no 5 = .ok (.ineg, 1) := by decide +kernel
theorem dX10_no_6 : decode cX10_no 6 = .ok (.dup2, 1) := by decide +kernel
theorem dX10_no_7 : decode cX10_no 7 = .ok (.iaload, 1) := by decide +kernel
theorem dX10_no_8 : decode cX10_no 8 = .ok (.iconst 1, 1) := by decide +kernel
theorem dX10_no_9 : decode cX10_no 9 = .ok (.iadd, 1) := by decide +kernel
theorem dX10_no_10 : decode cX10_no 10 = .ok (.iastore, 1) := by decide +kernel
theorem dX10_no_11 : decode cX10_no 11 = .ok (.iload_n 1, 1) := by decide +kernel
theorem dX10_no_12 : decode cX10_no 12 = .ok (.ireturn, 1) := by decide +kernel
theorem dX10_isIn_0 : decode cX10_isIn 0 = .ok (.iload_n 0, 1) := by decide +kernel
theorem dX10_isIn_1 : decode cX10_isIn 1 = .ok (.iload_n 1, 1) := by decide +kernel
theorem dX10_isIn_2 : decode cX10_isIn 2 = .ok (.if_icmp .lt 12, 3) := by decide +kernel
theorem dX10_isIn_5 : decode cX10_isIn 5 = .ok (.iload_n 0, 1) := by decide +kernel
theorem dX10_isIn_6 : decode cX10_isIn 6 = .ok (.iload_n 2, 1) := by decide +kernel
theorem dX10_isIn_7 : decode cX10_isIn 7 = .ok (.if_icmp .gt 7, 3) := by decide +kernel
theorem dX10_isIn_10 : decode cX10_isIn 10 = .ok (.iconst 1, 1) := by decide +kernel
theorem dX10_isIn_11 : decode cX10_isIn 11 = .ok (.goto 4, 3) := by decide +kernel
theorem dX10_isIn_14 : decode cX10_isIn 14 = .ok (.iconst 0, 1) := by decide +kernel
theorem dX10_isIn_15 : decode cX10_isIn 15 = .ok (.ireturn, 1) := by decide +kernel
theorem dX10_out_0 : decode cX10_out 0 = .ok (.iload_n 0, 1) := by decide +kernel
theorem dX10_out_1 : decode cX10_out 1 = .ok (.iload_n 1, 1) := by decide +kernel
theorem dX10_out_2 : decode cX10_out 2 = .ok (.if_icmp .ge 8, 3) := by decide +kernel
theorem dX10_out_5 : decode cX10_out 5 = .ok (.bipush (-4), 2) := by decide +kernel
theorem dX10_out_7 : decode cX10_out 7 = .ok (.goto 14, 3) := by decide +kernel
theorem dX10_out_10 : decode cX10_out 10 = .ok (.iload_n 0, 1) := by decide +kernel
theorem dX10_out_11 : decode cX10_out 11 = .ok (.iload_n 2, 1) := by decide +kernel
theorem dX10_out_12 : decode cX10_out 12 = .ok (.if_icmp .le 8, 3) := by decide +kernel
theorem dX10_out_15 : decode cX10_out 15 = .ok (.bipush (-6), 2) := by decide +kernel
theorem dX10_out_17 : decode cX10_out 17 = .ok (.goto 4, 3) := by decide +kernel
theorem dX10_out_20 : decode cX10_out 20 = .ok (.iconst 0, 1) := by decide +kernel
theorem dX10_out_21 : decode cX10_out 21 = .ok (.ireturn, 1) := by decide +kernel
theorem dX10_why_0 : decode cX10_why 0 = .ok (.iload_n 0, 1) := by decide +kernel
theorem dX10_why_1 : decode cX10_why 1 = .ok (.ifCond .lt 7, 3) := by decide +kernel
theorem dX10_why_4 : decode cX10_why 4 = .ok (.iload_n 1, 1) := by decide +kernel
theorem dX10_why_5 : decode cX10_why 5 = .ok (.ifCond .ge 8, 3) := by decide +kernel
theorem dX10_why_8 : decode cX10_why 8 = .ok (.bipush (-4), 2) := by decide +kernel
theorem dX10_why_10 : decode cX10_why 10 = .ok (.goto 23, 3) := by decide +kernel
theorem dX10_why_13 : decode cX10_why 13 = .ok (.iload_n 0, 1) := by decide +kernel
theorem dX10_why_14 : decode cX10_why 14 = .ok (.sipush 300, 3) := by decide +kernel
theorem dX10_why_17 : decode cX10_why 17 = .ok (.if_icmp .ge 10, 3) := by decide +kernel
theorem dX10_why_20 : decode cX10_why 20 = .ok (.iload_n 1, 1) := by decide +kernel
theorem dX10_why_21 : decode cX10_why 21 = .ok (.sipush 300, 3) := by decide +kernel
theorem dX10_why_24 : decode cX10_why 24 = .ok (.if_icmp .lt 8, 3) := by decide +kernel
theorem dX10_why_27 : decode cX10_why 27 = .ok (.bipush (-6), 2) := by decide +kernel
theorem dX10_why_29 : decode cX10_why 29 = .ok (.goto 4, 3) := by decide +kernel
theorem dX10_why_32 : decode cX10_why 32 = .ok (.iconst 0, 1) := by decide +kernel
theorem dX10_why_33 : decode cX10_why 33 = .ok (.ireturn, 1) := by decide +kernel
theorem dX10_feed_0 : decode cX10_feed 0 = .ok (.iload_n 1, 1) := by decide +kernel
theorem dX10_feed_1 : decode cX10_feed 1 = .ok (.iconst 1, 1) := by decide +kernel
theorem dX10_feed_2 : decode cX10_feed 2 = .ok (.bipush 8, 2) := by decide +kernel
theorem dX10_feed_4 : decode cX10_feed 4 = .ok (.invokestatic 98, 3) := by decide +kernel
theorem dX10_feed_7 : decode cX10_feed 7 = .ok (.istore 4, 2) := by decide +kernel
theorem dX10_feed_9 : decode cX10_feed 9 = .ok (.iload 4, 2) := by decide +kernel
theorem dX10_feed_11 : decode cX10_feed 11 = .ok (.ifCond .ne 18, 3) := by decide +kernel
theorem dX10_feed_14 : decode cX10_feed 14 = .ok (.aload_n 0, 1) := by decide +kernel
theorem dX10_feed_15 : decode cX10_feed 15 = .ok (.getfield 102, 3) := by decide +kernel
theorem dX10_feed_18 : decode cX10_feed 18 = .ok (.iload_n 1, 1) := by decide +kernel
theorem dX10_feed_19 : decode cX10_feed 19 = .ok (.iadd, 1) := by decide +kernel
theorem dX10_feed_20 : decode cX10_feed 20 = .ok (.bipush 20, 2) := by decide +kernel
theorem dX10_feed_22 : decode cX10_feed 22 = .ok (.if_icmp .le 7, 3) := by decide +kernel
theorem dX10_feed_25 : decode cX10_feed 25 = .ok (.bipush (-6), 2) := by decide +kernel
theorem dX10_feed_27 : decode cX10_feed 27 = .ok (.istore 4, 2) := by decide +kernel
theorem dX10_feed_29 : decode cX10_feed 29 = .ok (.iload 4, 2) := by decide +kernel
theorem dX10_feed_31 : decode cX10_feed 31 = .ok (.ifCond .eq 10, 3) := by decide +kernel
theorem dX10_feed_34 : decode cX10_feed 34 = .ok (.aload_n 0, 1) := by decide +kernel
theorem dX10_feed_35 : decode cX10_feed 35 = .ok (.iload 4, 2) := by decide +kernel
theorem dX10_feed_37 : decode cX10_feed 37 = .ok (.invokevirtual 105, 3) := by decide +kernel
theorem dX10_feed_40 : decode cX10_feed 40 = .ok (.ireturn, 1) := by decide +kernel
theorem dX10_feed_41 : decode cX10_feed 41 = .ok (.iconst 0, 1) := by decide +kernel
theorem dX10_feed_42 : decode cX10_feed 42 = .ok (.istore 5, 2) := by decide +kernel
theorem dX10_feed_44 : decode cX10_feed 44 = .ok (.iload 5, 2) := by decide +kernel
theorem dX10_feed_46 : decode cX10_feed 46 = .ok (.iload_n 1, 1) := by decide +kernel
theorem dX10_feed_47 : decode cX10_feed 47 = .ok (.if_icmp .ge 40, 3) := by decide +kernel
theorem dX10_feed_50 : decode cX10_feed 50 = .ok (.aload_n 0, 1) := by decide +kernel
theorem dX10_feed_51 : decode cX10_feed 51 = .ok (.getfield 13, 3) := by decide +kernel
theorem dX10_feed_54 : decode cX10_feed 54 = .ok (.aload_n 0, 1) := by decide +kernel
theorem dX10_feed_55 : decode cX10_feed 55 = .ok (.getfield 102, 3) := by decide +kernel
theorem dX10_feed_58 : decode cX10_feed 58 = .ok (.lload_n 2, 1) := by decide +kernel
theorem dX10_feed_59 : decode cX10_feed 59 = .ok (.bipush 8, 2) := by decide +kernel
theorem dX10_feed_61 : decode cX10_feed 61 = .ok (.iload 5, 2) := by decide +kernel
theorem dX10_feed_63 : decode cX10_feed 63 = .ok (.imul, 1) := by decide +kernel
theorem dX10_feed_64 : decode cX10_feed 64 = .ok (.lshr, 1) := by decide +kernel
theorem dX10_feed_65 : decode cX10_feed 65 = .ok (.ldc2_w 109, 3) := by decide +kernel
theorem dX10_feed_68 : decode cX10_feed 68 = .ok (.land, 1) := by decide +kernel
theorem dX10_feed_69 : decode cX10_feed 69 = .ok (.l2i, 1) := by decide +kernel
theorem dX10_feed_70 : decode cX10_feed 70 = .ok (.iastore, 1) := by decide +kernel
theorem dX10_feed_71 : decode cX10_feed 71 = .ok (.aload_n 0, 1) := by decide +kernel
theorem dX10_feed_72 : decode cX10_feed 72 = .ok (.dup, 1) := by decide +kernel
theorem dX10_feed_73 : decode cX10_feed 73 = .ok (.getfield 102, 3) := by decide +kernel
theorem dX10_feed_76 : decode cX10_feed 76 = .ok (.iconst 1, 1) := by decide +kernel
theorem dX10_feed_77 : decode cX10_feed 77 = .ok (.iadd, 1) := by decide +kernel
theorem dX10_feed_78 : decode cX10_feed 78 = .ok (.putfield 102, 3) := by decide +kernel
theorem dX10_feed_81 : decode cX10_feed 81 = .ok (.iinc 5 1, 3) := by decide +kernel
theorem dX10_feed_84 : decode cX10_feed 84 = .ok (.goto (-40), 3) := by decide +kernel
theorem dX10_feed_87 : decode cX10_feed 87 = .ok (.aload_n 0, 1) := by decide +kernel
theorem dX10_feed_88 : decode cX10_feed 88 = .ok (.getfield 102, 3) := by decide +kernel
theorem dX10_feed_91 : decode cX10_feed 91 = .ok (.ireturn, 1) := by decide +kernel
theorem dX10_sign_0 : decode cX10_sign 0 = .ok (.aload_n 0, 1) := by decide +kernel
theorem dX10_sign_1 : decode cX10_sign 1 = .ok (.getfield 111, 3) := by decide +kernel
theorem dX10_sign_4 : decode cX10_sign 4 = .ok (.aload_n 0, 1) := by decide +kernel
theorem dX10_sign_5 : decode cX10_sign 5 = .ok (.getfield 102, 3) := by decide +kernel
theorem dX10_sign_8 : decode cX10_sign 8 = .ok (.if_icmp .ge 15, 3) := by decide +kernel
theorem dX10_sign_11 : decode cX10_sign 11 = .ok (.aload_n 0, 1) := by decide +kernel
theorem dX10_sign_12 : decode cX10_sign 12 = .ok (.getfield 13, 3) := by decide +kernel
theorem dX10_sign_15 : decode cX10_sign 15 = .ok (.aload_n 0, 1) := by decide +kernel
theorem dX10_sign_16 : decode cX10_sign 16 = .ok (.getfield 111, 3) := by decide +kernel
theorem dX10_sign_19 : decode cX10_sign 19 = .ok (.iaload, 1) := by decide +kernel
theorem dX10_sign_20 : decode cX10_sign 20 = .ok (.goto 4, 3) := by decide +kernel
theorem dX10_sign_23 : decode cX10_sign 23 = .ok (.iconst (-1), 1) := by decide +kernel
theorem dX10_sign_24 : decode cX10_sign 24 = .ok (.ireturn, 1) := by decide +kernel
theorem dX10_number_0 : decode cX10_number 0 = .ok (.aload_n 0, 1) := by decide +kernel
theorem dX10_number_1 : decode cX10_number 1 = .ok (.invokevirtual 114, 3) := by decide +kernel
theorem dX10_number_4 : decode cX10_number 4 = .ok (.bipush 48, 2) := by decide +kernel
theorem dX10_number_6 : decode cX10_number 6 = .ok (.bipush 57, 2) := by decide +kernel
theorem dX10_number_8 : decode cX10_number 8 = .ok (.invokestatic 118, 3) := by decide +kernel
theorem dX10_number_11 : decode cX10_number 11 = .ok (.ifCond .ne 5, 3) := by decide +kernel
theorem dX10_number_14 : decode cX10_number 14 = .ok (.iconst (-1), 1) := by decide +kernel
theorem dX10_number_15 : decode cX10_number 15 = .ok (.ireturn, 1) := by decide +kernel
theorem dX10_number_16 : decode cX10_number 16 = .ok (.iconst 0, 1) := by decide +kernel
theorem dX10_number_17 : decode cX10_number 17 = .ok (.istore_n 2, 1) := by decide +kernel
theorem dX10_number_18 : decode cX10_number 18 = .ok (.iconst 0, 1) := by decide +kernel
theorem dX10_number_19 : decode cX10_number 19 = .ok (.istore_n 3, 1) := by decide +kernel
theorem dX10_number_20 : decode cX10_number 20 = .ok (.iload_n 3, 1) := by decide +kernel
theorem dX10_number_21 : decode cX10_number 21 = .ok (.iload_n 1, 1) := by decide +kernel
theorem dX10_number_22 : decode cX10_number 22 = .ok (.if_icmp .ge 46, 3) := by decide +kernel
theorem dX10_number_25 : decode cX10_number 25 = .ok (.aload_n 0, 1) := by decide +kernel
theorem dX10_number_26 : decode cX10_number 26 = .ok (.invokevirtual 114, 3) := by decide +kernel
theorem dX10_number_29 : decode cX10_number 29 = .ok (.bipush 48, 2) := by decide +kernel
theorem dX10_number_31 : decode cX10_number 31 = .ok (.bipush 57, 2) := by decide +kernel
theorem dX10_number_33 : decode cX10_number 33 = .ok (.invokestatic 118, 3) := by decide +kernel
theorem dX10_number_36 : decode cX10_number 36 = .ok (.ifCond .eq 32, 3) := by decide +kernel
theorem dX10_number_39 : decode cX10_number 39 = .ok (.bipush 10, 2) := by decide +kernel
theorem dX10_number_41 : decode cX10_number 41 = .ok (.iload_n 2, 1) := by decide +kernel
theorem dX10_number_42 : decode cX10_number 42 = .ok (.imul, 1) := by decide +kernel
theorem dX10_number_43 : decode cX10_number 43 = .ok (.aload_n 0, 1) := by decide +kernel
theorem dX10_number_44 : decode cX10_number 44 = .ok (.invokevirtual 114, 3) := by decide +kernel
theorem dX10_number_47 : decode cX10_number 47 = .ok (.iadd, 1) := by decide +kernel
theorem dX10_number_48 : decode cX10_number 48 = .ok (.bipush 48, 2) := by decide +kernel
theorem dX10_number_50 : decode cX10_number 50 = .ok (.isub, 1) := by decide +kernel
theorem dX10_number_51 : decode cX10_number 51 = .ok (.istore_n 2, 1) := by decide +kernel
theorem dX10_number_52 : decode cX10_number 52 = .ok (.aload_n 0, 1) := by decide +kernel
theorem dX10_number_53 : decode cX10_number 53 = .ok (.dup, 1) := by decide +kernel
theorem dX10_number_54 : decode cX10_number 54 = .ok (.getfield 111, 3) := by decide +kernel
theorem dX10_number_57 : decode cX10_number 57 = .ok (.iconst 1, 1) := by decide +kernel
theorem dX10_number_58 : decode cX10_number 58 = .ok (.iadd, 1) := by decide +kernel
theorem dX10_number_59 : decode cX10_number 59 = .ok (.putfield 111, 3) := by decide +kernel
theorem dX10_number_62 : decode cX10_number 62 = .ok (.iinc 3 1, 3) := by decide +kernel
theorem dX10_number_65 : decode cX10_number 65 = .ok (.goto (-45), 3) := by decide +kernel
theorem dX10_number_68 : decode cX10_number 68 = .ok (.iload_n 2, 1) := by decide +kernel
theorem dX10_number_69 : decode cX10_number 69 = .ok (.ireturn, 1) := by decide +kernel
theorem dX10_reads_0 : decode cX10_reads 0 = .ok (.aload_n 0, 1) := by decide +kernel
theorem dX10_reads_1 : decode cX10_reads 1 = .ok (.iconst 0, 1) := by decide +kernel
theorem dX10_reads_2 : decode cX10_reads 2 = .ok (.putfield 111, 3) := by decide +kernel
theorem dX10_reads_5 : decode cX10_reads 5 = .ok (.aload_n 0, 1) := by decide +kernel
theorem dX10_reads_6 : decode cX10_reads 6 = .ok (.invokevirtual 114, 3) := by decide +kernel
theorem dX10_reads_9 : decode cX10_reads 9 = .ok (.istore_n 1, 1) := by decide +kernel
theorem dX10_reads_10 : decode cX10_reads 10 = .ok (.iload_n 1, 1) := by decide +kernel
theorem dX10_reads_11 : decode cX10_reads 11 = .ok (.bipush 101, 2) := by decide +kernel
theorem dX10_reads_13 : decode cX10_reads 13 = .ok (.if_icmp .ne 7, 3) := by decide +kernel
theorem dX10_reads_16 : decode cX10_reads 16 = .ok (.iconst 0, 1) := by decide +kernel
theorem dX10_reads_17 : decode cX10_reads 17 = .ok (.goto 54, 3) := by decide +kernel
theorem dX10_reads_20 : decode cX10_reads 20 = .ok (.iload_n 1, 1) := by decide +kernel
theorem dX10_reads_21 : decode cX10_reads 21 = .ok (.bipush 116, 2) := by decide +kernel
theorem dX10_reads_23 : decode cX10_reads 23 = .ok (.if_icmp .ne 7, 3) := by decide +kernel
theorem dX10_reads_26 : decode cX10_reads 26 = .ok (.iconst 1, 1) := by decide +kernel
theorem dX10_reads_27 : decode cX10_reads 27 = .ok (.goto 44, 3) := by decide +kernel
theorem dX10_reads_30 : decode cX10_reads 30 = .ok (.iload_n 1, 1) := by decide +kernel
theorem dX10_reads_31 : decode cX10_reads 31 = .ok (.bipush 115, 2) := by decide +kernel
theorem dX10_reads_33 : decode cX10_reads 33 = .ok (.if_icmp .ne 7, 3) := by decide +kernel
theorem dX10_reads_36 : decode cX10_reads 36 = .ok (.iconst 2, 1) := by decide +kernel
theorem dX10_reads_37 : decode cX10_reads 37 = .ok (.goto 34, 3) := by decide +kernel
theorem dX10_reads_40 : decode cX10_reads 40 = .ok (.iload_n 1, 1) := by decide +kernel
theorem dX10_reads_41 : decode cX10_reads 41 = .ok (.bipush 119, 2) := by decide +kernel
theorem dX10_reads_43 : decode cX10_reads 43 = .ok (.if_icmp .ne 7, 3) := by decide +kernel
theorem dX10_reads_46 : decode cX10_reads 46 = .ok (.iconst 3, 1) := by decide +kernel
theorem dX10_reads_47 : decode cX10_reads 47 = .ok (.goto 24, 3) := by decide +kernel
theorem dX10_reads_50 : decode cX10_reads 50 = .ok (.iload_n 1, 1) := by decide +kernel
theorem dX10_reads_51 : decode cX10_reads 51 = .ok (.bipush 100, 2) := by decide +kernel
theorem dX10_reads_53 : decode cX10_reads 53 = .ok (.if_icmp .ne 7, 3) := by decide +kernel
theorem dX10_reads_56 : decode cX10_reads 56 = .ok (.iconst 4, 1) := by decide +kernel
theorem dX10_reads_57 : decode cX10_reads 57 = .ok (.goto 14, 3) := by decide +kernel
theorem dX10_reads_60 : decode cX10_reads 60 = .ok (.iload_n 1, 1) := by decide +kernel
theorem dX10_reads_61 : decode cX10_reads 61 = .ok (.bipush 107, 2) := by decide +kernel
theorem dX10_reads_63 : decode cX10_reads 63 = .ok (.if_icmp .ne 7, 3) := by decide +kernel
theorem dX10_reads_66 : decode cX10_reads 66 = .ok (.iconst 5, 1) := by decide +kernel
theorem dX10_reads_67 : decode cX10_reads 67 = .ok (.goto 4, 3) := by decide +kernel
theorem dX10_reads_70 : decode cX10_reads 70 = .ok (.iconst (-1), 1) := by decide +kernel
theorem dX10_reads_71 : decode cX10_reads 71 = .ok (.istore_n 2, 1) := by decide +kernel
theorem dX10_reads_72 : decode cX10_reads 72 = .ok (.iload_n 2, 1) := by decide +kernel
theorem dX10_reads_73 : decode cX10_reads 73 = .ok (.ifCond .ge 5, 3) := by decide +kernel
theorem dX10_reads_76 : decode cX10_reads 76 = .ok (.iconst 0, 1) := by decide +kernel
theorem dX10_reads_77 : decode cX10_reads 77 = .ok (.ireturn, 1) := by decide +kernel
theorem dX10_reads_78 : decode cX10_reads 78 = .ok (.aload_n 0, 1) := by decide +kernel
theorem dX10_reads_79 : decode cX10_reads 79 = .ok (.dup, 1) := by decide +kernel
theorem dX10_reads_80 : decode cX10_reads 80 = .ok (.getfield 111, 3) := by decide +kernel
theorem dX10_reads_83 : decode cX10_reads 83 = .ok (.iconst 1, 1) := by decide +kernel
theorem dX10_reads_84 : decode cX10_reads 84 = .ok (.iadd, 1) := by decide +kernel
theorem dX10_reads_85 : decode cX10_reads 85 = .ok (.putfield 111, 3) := by decide +kernel
theorem dX10_reads_88 : decode cX10_reads 88 = .ok (.aload_n 0, 1) := by decide +kernel
theorem dX10_reads_89 : decode cX10_reads 89 = .ok (.iconst 4, 1) := by decide +kernel
theorem dX10_reads_90 : decode cX10_reads 90 = .ok (.invokevirtual 122, 3) := by decide +kernel
theorem dX10_reads_93 : decode cX10_reads 93 = .ok (.istore_n 3, 1) := by decide +kernel
theorem dX10_reads_94 : decode cX10_reads 94 = .ok (.iload_n 3, 1) := by decide +kernel
theorem dX10_reads_95 : decode cX10_reads 95 = .ok (.ifCond .lt 12, 3) := by decide +kernel
theorem dX10_reads_98 : decode cX10_reads 98 = .ok (.aload_n 0, 1) := by decide +kernel
theorem dX10_reads_99 : decode cX10_reads 99 = .ok (.invokevirtual 114, 3) := by decide +kernel
theorem dX10_reads_102 : decode cX10_reads 102 = .ok (.bipush 44, 2) := by decide +kernel
theorem dX10_reads_104 : decode cX10_reads 104 = .ok (.if_icmp .eq 5, 3) := by decide +kernel
theorem dX10_reads_107 : decode cX10_reads 107 = .ok (.iconst 0, 1) := by decide +kernel
theorem dX10_reads_108 : decode cX10_reads 108 = .ok (.ireturn, 1) := by decide +kernel
theorem dX10_reads_109 : decode cX10_reads 109 = .ok (.aload_n 0, 1) := by decide +kernel
theorem dX10_reads_110 : decode cX10_reads 110 = .ok (.dup, 1) := by decide +kernel
theorem dX10_reads_111 : decode cX10_reads 111 = .ok (.getfield 111, 3) := by decide +kernel
theorem dX10_reads_114 : decode cX10_reads 114 = .ok (.iconst 1, 1) := by decide +kernel
theorem dX10_reads_115 : decode cX10_reads 115 = .ok (.iadd, 1) := by decide +kernel
theorem dX10_reads_116 : decode cX10_reads 116 = .ok (.putfield 111, 3) := by decide +kernel
theorem dX10_reads_119 : decode cX10_reads 119 = .ok (.aload_n 0, 1) := by decide +kernel
theorem dX10_reads_120 : decode cX10_reads 120 = .ok (.iconst 2, 1) := by decide +kernel
theorem dX10_reads_121 : decode cX10_reads 121 = .ok (.invokevirtual 122, 3) := by decide +kernel
theorem dX10_reads_124 : decode cX10_reads 124 = .ok (.istore 4, 2) := by decide +kernel
theorem dX10_reads_126 : decode cX10_reads 126 = .ok (.iload 4, 2) := by decide +kernel
theorem dX10_reads_128 : decode cX10_reads 128 = .ok (.ifCond .lt 14, 3) := by decide +kernel
theorem dX10_reads_131 : decode cX10_reads 131 = .ok (.aload_n 0, 1) := by decide +kernel
theorem dX10_reads_132 : decode cX10_reads 132 = .ok (.getfield 111, 3) := by decide +kernel
theorem dX10_reads_135 : decode cX10_reads 135 = .ok (.aload_n 0, 1) := by decide +kernel
theorem dX10_reads_136 : decode cX10_reads 136 = .ok (.getfield 102, 3) := by decide +kernel
theorem dX10_reads_139 : decode cX10_reads 139 = .ok (.if_icmp .ge 5, 3) := by decide +kernel
theorem dX10_reads_142 : decode cX10_reads 142 = .ok (.iconst 0, 1) := by decide +kernel
theorem dX10_reads_143 : decode cX10_reads 143 = .ok (.ireturn, 1) := by decide +kernel
theorem dX10_reads_144 : decode cX10_reads 144 = .ok (.aload_n 0, 1) := by decide +kernel
theorem dX10_reads_145 : decode cX10_reads 145 = .ok (.getfield 16, 3) := by decide +kernel
theorem dX10_reads_148 : decode cX10_reads 148 = .ok (.aload_n 0, 1) := by decide +kernel
theorem dX10_reads_149 : decode cX10_reads 149 = .ok (.getfield 125, 3) := by decide +kernel
theorem dX10_reads_152 : decode cX10_reads 152 = .ok (.iload_n 2, 1) := by decide +kernel
theorem dX10_reads_153 : decode cX10_reads 153 = .ok (.iastore, 1) := by decide +kernel
theorem dX10_reads_154 : decode cX10_reads 154 = .ok (.aload_n 0, 1) := by decide +kernel
theorem dX10_reads_155 : decode cX10_reads 155 = .ok (.getfield 19, 3) := by decide +kernel
theorem dX10_reads_158 : decode cX10_reads 158 = .ok (.aload_n 0, 1) := by decide +kernel
theorem dX10_reads_159 : decode cX10_reads 159 = .ok (.getfield 125, 3) := by decide +kernel
theorem dX10_reads_162 : decode cX10_reads 162 = .ok (.iload_n 3, 1) := by decide +kernel
theorem dX10_reads_163 : decode cX10_reads 163 = .ok (.iastore, 1) := by decide +kernel
theorem dX10_reads_164 : decode cX10_reads 164 = .ok (.aload_n 0, 1) := by decide +kernel
theorem dX10_reads_165 : decode cX10_reads 165 = .ok (.getfield 22, 3) := by decide +kernel
theorem dX10_reads_168 : decode cX10_reads 168 = .ok (.aload_n 0, 1) := by decide +kernel
theorem dX10_reads_169 : decode cX10_reads 169 = .ok (.getfield 125, 3) := by decide +kernel
theorem dX10_reads_172 : decode cX10_reads 172 = .ok (.iload 4, 2) := by decide +kernel
theorem dX10_reads_174 : decode cX10_reads 174 = .ok (.iastore, 1) := by decide +kernel
theorem dX10_reads_175 : decode cX10_reads 175 = .ok (.aload_n 0, 1) := by decide +kernel
theorem dX10_reads_176 : decode cX10_reads 176 = .ok (.getfield 60, 3) := by decide +kernel
theorem dX10_reads_179 : decode cX10_reads 179 = .ok (.aload_n 0, 1) := by decide +kernel
theorem dX10_reads_180 : decode cX10_reads 180 = .ok (.getfield 125, 3) := by decide +kernel
theorem dX10_reads_183 : decode cX10_reads 183 = .ok (.iconst (-1), 1) := by decide +kernel
theorem dX10_reads_184 : decode cX10_reads 184 = .ok (.iastore, 1) := by decide +kernel
theorem dX10_reads_185 : decode cX10_reads 185 = .ok (.iconst 1, 1) := by decide +kernel
theorem dX10_reads_186 : decode cX10_reads 186 = .ok (.ireturn, 1) := by decide +kernel
theorem dX10_thing_0 : decode cX10_thing 0 = .ok (.aload_n 0, 1) := by decide +kernel
theorem dX10_thing_1 : decode cX10_thing 1 = .ok (.getfield 125, 3) := by decide +kernel
theorem dX10_thing_4 : decode cX10_thing 4 = .ok (.bipush 6, 2) := by decide +kernel
theorem dX10_thing_6 : decode cX10_thing 6 = .ok (.if_icmp .ne 10, 3) := by decide +kernel
theorem dX10_thing_9 : decode cX10_thing 9 = .ok (.aload_n 0, 1) := by decide +kernel
theorem dX10_thing_10 : decode cX10_thing 10 = .ok (.bipush (-6), 2) := by decide +kernel
theorem dX10_thing_12 : decode cX10_thing 12 = .ok (.invokevirtual 105, 3) := by decide +kernel
theorem dX10_thing_15 : decode cX10_thing 15 = .ok (.ireturn, 1) := by decide +kernel
theorem dX10_thing_16 : decode cX10_thing 16 = .ok (.aload_n 0, 1) := by decide +kernel
theorem dX10_thing_17 : decode cX10_thing 17 = .ok (.invokevirtual 128, 3) := by decide +kernel
theorem dX10_thing_20 : decode cX10_thing 20 = .ok (.istore_n 1, 1) := by decide +kernel
theorem dX10_thing_21 : decode cX10_thing 21 = .ok (.aload_n 0, 1) := by decide +kernel
theorem dX10_thing_22 : decode cX10_thing 22 = .ok (.iconst 0, 1) := by decide +kernel
theorem dX10_thing_23 : decode cX10_thing 23 = .ok (.putfield 102, 3) := by decide +kernel
theorem dX10_thing_26 : decode cX10_thing 26 = .ok (.iload_n 1, 1) := by decide +kernel
theorem dX10_thing_27 : decode cX10_thing 27 = .ok (.ifCond .ne 11, 3) := by decide +kernel
theorem dX10_thing_30 : decode cX10_thing 30 = .ok (.bipush (-20), 2) := by decide +kernel
theorem dX10_thing_32 : decode cX10_thing 32 = .ok (.aload_n 0, 1) := by decide +kernel
theorem dX10_thing_33 : decode cX10_thing 33 = .ok (.getfield 111, 3) := by decide +kernel
theorem dX10_thing_36 : decode cX10_thing 36 = .ok (.isub, 1) := by decide +kernel
theorem dX10_thing_37 : decode cX10_thing 37 = .ok (.ireturn, 1) := by decide +kernel
theorem dX10_thing_38 : decode cX10_thing 38 = .ok (.aload_n 0, 1) := by decide +kernel
theorem dX10_thing_39 : decode cX10_thing 39 = .ok (.dup, 1) := by decide +kernel
theorem dX10_thing_40 : decode cX10_thing 40 = .ok (.getfield 125, 3) := by decide +kernel
theorem dX10_thing_43 : decode cX10_thing 43 = .ok (.iconst 1, 1) := by decide +kernel
theorem dX10_thing_44 : decode cX10_thing 44 = .ok (.iadd, 1) := by decide +kernel
theorem dX10_thing_45 : decode cX10_thing 45 = .ok (.putfield 125, 3) := by decide +kernel
theorem dX10_thing_48 : decode cX10_thing 48 = .ok (.aload_n 0, 1) := by decide +kernel
theorem dX10_thing_49 : decode cX10_thing 49 = .ok (.iconst 1, 1) := by decide +kernel
theorem dX10_thing_50 : decode cX10_thing 50 = .ok (.putfield 41, 3) := by decide +kernel
theorem dX10_thing_53 : decode cX10_thing 53 = .ok (.aload_n 0, 1) := by decide +kernel
theorem dX10_thing_54 : decode cX10_thing 54 = .ok (.getfield 125, 3) := by decide +kernel
theorem dX10_thing_57 : decode cX10_thing 57 = .ok (.iconst 1, 1) := by decide +kernel
theorem dX10_thing_58 : decode cX10_thing 58 = .ok (.isub, 1) := by decide +kernel
theorem dX10_thing_59 : decode cX10_thing 59 = .ok (.ireturn, 1) := by decide +kernel
theorem dX10_isThing_0 : decode cX10_isThing 0 = .ok (.iload_n 1, 1) := by decide +kernel
theorem dX10_isThing_1 : decode cX10_isThing 1 = .ok (.ifCond .lt 15, 3) := by decide +kernel
theorem dX10_isThing_4 : decode cX10_isThing 4 = .ok (.iload_n 1, 1) := by decide +kernel
theorem dX10_isThing_5 : decode cX10_isThing 5 = .ok (.aload_n 0, 1) := by decide +kernel
theorem dX10_isThing_6 : decode cX10_isThing 6 = .ok (.getfield 125, 3) := by decide +kernel
theorem dX10_isThing_9 : decode cX10_isThing 9 = .ok (.if_icmp .ge 7, 3) := by decide +kernel
theorem dX10_isThing_12 : decode cX10_isThing 12 = .ok (.iconst 1, 1) := by decide +kernel
theorem dX10_isThing_13 : decode cX10_isThing 13 = .ok (.goto 4, 3) := by decide +kernel
theorem dX10_isThing_16 : decode cX10_isThing 16 = .ok (.iconst 0, 1) := by decide +kernel
theorem dX10_isThing_17 : decode cX10_isThing 17 = .ok (.ireturn, 1) := by decide +kernel
theorem dX10_thingOf_0 : decode cX10_thingOf 0 = .ok (.aload_n 0, 1) := by decide +kernel
theorem dX10_thingOf_1 : decode cX10_thingOf 1 = .ok (.iload_n 1, 1) := by decide +kernel
theorem dX10_thingOf_2 : decode cX10_thingOf 2 = .ok (.invokevirtual 132, 3) := by decide +kernel
theorem dX10_thingOf_5 : decode cX10_thingOf 5 = .ok (.ifCond .ne 9, 3) := by decide +kernel
theorem dX10_thingOf_8 : decode cX10_thingOf 8 = .ok (.aload_n 0, 1) := by decide +kernel
theorem dX10_thingOf_9 : decode cX10_thingOf 9 = .ok (.iconst (-1), 1) := by decide +kernel
theorem dX10_thingOf_10 : decode cX10_thingOf 10 = .ok (.invokevirtual 105, 3) := by decide +kernel
theorem dX10_thingOf_13 : decode cX10_thingOf 13 = .ok (.ireturn, 1) := by decide +kernel
theorem dX10_thingOf_14 : decode cX10_thingOf 14 = .ok (.iload_n 2, 1) := by decide +kernel
theorem dX10_thingOf_15 : decode cX10_thingOf 15 = .ok (.tableswitch 46 0 2 #[25, 32, 39], 25) := by decide +kernel
theorem dX10_thingOf_40 : decode cX10_thingOf 40 = .ok (.aload_n 0, 1) := by decide +kernel
theorem dX10_thingOf_41 : decode cX10_thingOf 41 = .ok (.getfield 16, 3) := by decide +kernel
theorem dX10_thingOf_44 : decode cX10_thingOf 44 = .ok (.iload_n 1, 1) := by decide +kernel
theorem dX10_thingOf_45 : decode cX10_thingOf 45 = .ok (.iaload, 1) := by decide +kernel
theorem dX10_thingOf_46 : decode cX10_thingOf 46 = .ok (.ireturn, 1) := by decide +kernel
theorem dX10_thingOf_47 : decode cX10_thingOf 47 = .ok (.aload_n 0, 1) := by decide +kernel
theorem dX10_thingOf_48 : decode cX10_thingOf 48 = .ok (.getfield 19, 3) := by decide +kernel
theorem dX10_thingOf_51 : decode cX10_thingOf 51 = .ok (.iload_n 1, 1) := by decide +kernel
theorem dX10_thingOf_52 : decode cX10_thingOf 52 = .ok (.iaload, 1) := by decide +kernel
theorem dX10_thingOf_53 : decode cX10_thingOf 53 = .ok (.ireturn, 1) := by decide +kernel
theorem dX10_thingOf_54 : decode cX10_thingOf 54 = .ok (.aload_n 0, 1) := by decide +kernel
theorem dX10_thingOf_55 : decode cX10_thingOf 55 = .ok (.getfield 22, 3) := by decide +kernel
theorem dX10_thingOf_58 : decode cX10_thingOf 58 = .ok (.iload_n 1, 1) := by decide +kernel
theorem dX10_thingOf_59 : decode cX10_thingOf 59 = .ok (.iaload, 1) := by decide +kernel
theorem dX10_thingOf_60 : decode cX10_thingOf 60 = .ok (.ireturn, 1) := by decide +kernel
theorem dX10_thingOf_61 : decode cX10_thingOf 61 = .ok (.aload_n 0, 1) := by decide +kernel
theorem dX10_thingOf_62 : decode cX10_thingOf 62 = .ok (.bipush (-2), 2) := by decide +kernel
theorem dX10_thingOf_64 : decode cX10_thingOf 64 = .ok (.invokevirtual 105, 3) := by decide +kernel
theorem dX10_thingOf_67 : decode cX10_thingOf 67 = .ok (.ireturn, 1) := by decide +kernel
theorem dX10_room_0 : decode cX10_room 0 = .ok (.iload_n 1, 1) := by decide +kernel
theorem dX10_room_1 : decode cX10_room 1 = .ok (.iconst 0, 1) := by decide +kernel
theorem dX10_room_2 : decode cX10_room 2 = .ok (.sipush 9999, 3) := by decide +kernel
theorem dX10_room_5 : decode cX10_room 5 = .ok (.invokestatic 98, 3) := by decide +kernel
theorem dX10_room_8 : decode cX10_room 8 = .ok (.istore_n 2, 1) := by decide +kernel
theorem dX10_room_9 : decode cX10_room 9 = .ok (.iload_n 2, 1) := by decide +kernel
theorem dX10_room_10 : decode cX10_room 10 = .ok (.ifCond .eq 9, 3) := by decide +kernel
theorem dX10_room_13 : decode cX10_room 13 = .ok (.aload_n 0, 1) := by decide +kernel
theorem dX10_room_14 : decode cX10_room 14 = .ok (.iload_n 2, 1) := by decide +kernel
theorem dX10_room_15 : decode cX10_room 15 = .ok (.invokevirtual 105, 3) := by decide +kernel
theorem dX10_room_18 : decode cX10_room 18 = .ok (.ireturn, 1) := by decide +kernel
theorem dX10_room_19 : decode cX10_room 19 = .ok (.aload_n 0, 1) := by decide +kernel
theorem dX10_room_20 : decode cX10_room 20 = .ok (.getfield 31, 3) := by decide +kernel
theorem dX10_room_23 : decode cX10_room 23 = .ok (.istore_n 3, 1) := by decide +kernel
theorem dX10_room_24 : decode cX10_room 24 = .ok (.aload_n 0, 1) := by decide +kernel
theorem dX10_room_25 : decode cX10_room 25 = .ok (.iload_n 1, 1) := by decide +kernel
theorem dX10_room_26 : decode cX10_room 26 = .ok (.putfield 31, 3) := by decide +kernel
theorem dX10_room_29 : decode cX10_room 29 = .ok (.aload_n 0, 1) := by decide +kernel
theorem dX10_room_30 : decode cX10_room 30 = .ok (.iconst 1, 1) := by decide +kernel
theorem dX10_room_31 : decode cX10_room 31 = .ok (.putfield 41, 3) := by decide +kernel
theorem dX10_room_34 : decode cX10_room 34 = .ok (.iload_n 3, 1) := by decide +kernel
theorem dX10_room_35 : decode cX10_room 35 = .ok (.ireturn, 1) := by decide +kernel
theorem dX10_window_0 : decode cX10_window 0 = .ok (.iload_n 1, 1) := by decide +kernel
theorem dX10_window_1 : decode cX10_window 1 = .ok (.iconst (-1), 1) := by decide +kernel
theorem dX10_window_2 : decode cX10_window 2 = .ok (.if_icmp .ne 7, 3) := by decide +kernel
theorem dX10_window_5 : decode cX10_window 5 = .ok (.iconst 0, 1) := by decide +kernel
theorem dX10_window_6 : decode cX10_window 6 = .ok (.goto 37, 3) := by decide +kernel
theorem dX10_window_9 : decode cX10_window 9 = .ok (.iload_n 1, 1) := by decide +kernel
theorem dX10_window_10 : decode cX10_window 10 = .ok (.ifCond .lt 8, 3) := by decide +kernel
theorem dX10_window_13 : decode cX10_window 13 = .ok (.iload_n 2, 1) := by decide +kernel
theorem dX10_window_14 : decode cX10_window 14 = .ok (.iload_n 1, 1) := by decide +kernel
theorem dX10_window_15 : decode cX10_window 15 = .ok (.if_icmp .ge 8, 3) := by decide +kernel
theorem dX10_window_18 : decode cX10_window 18 = .ok (.bipush (-4), 2) := by decide +kernel
theorem dX10_window_20 : decode cX10_window 20 = .ok (.goto 23, 3) := by decide +kernel
theorem dX10_window_23 : decode cX10_window 23 = .ok (.iload_n 1, 1) := by decide +kernel
theorem dX10_window_24 : decode cX10_window 24 = .ok (.sipush 300, 3) := by decide +kernel
theorem dX10_window_27 : decode cX10_window 27 = .ok (.if_icmp .ge 10, 3) := by decide +kernel
theorem dX10_window_30 : decode cX10_window 30 = .ok (.iload_n 2, 1) := by decide +kernel
theorem dX10_window_31 : decode cX10_window 31 = .ok (.sipush 300, 3) := by decide +kernel
theorem dX10_window_34 : decode cX10_window 34 = .ok (.if_icmp .lt 8, 3) := by decide +kernel
theorem dX10_window_37 : decode cX10_window 37 = .ok (.bipush (-6), 2) := by decide +kernel
theorem dX10_window_39 : decode cX10_window 39 = .ok (.goto 4, 3) := by decide +kernel
theorem dX10_window_42 : decode cX10_window 42 = .ok (.iconst 0, 1) := by decide +kernel
theorem dX10_window_43 : decode cX10_window 43 = .ok (.istore_n 3, 1) := by decide +kernel
theorem dX10_window_44 : decode cX10_window 44 = .ok (.iload_n 3, 1) := by decide +kernel
theorem dX10_window_45 : decode cX10_window 45 = .ok (.ifCond .eq 9, 3) := by decide +kernel
theorem dX10_window_48 : decode cX10_window 48 = .ok (.aload_n 0, 1) := by decide +kernel
theorem dX10_window_49 : decode cX10_window 49 = .ok (.iload_n 3, 1) := by decide +kernel
theorem dX10_window_50 : decode cX10_window 50 = .ok (.invokevirtual 105, 3) := by decide +kernel
theorem dX10_window_53 : decode cX10_window 53 = .ok (.ireturn, 1) := by decide +kernel
theorem dX10_window_54 : decode cX10_window 54 = .ok (.aload_n 0, 1) := by decide +kernel
theorem dX10_window_55 : decode cX10_window 55 = .ok (.iload_n 1, 1) := by decide +kernel
theorem dX10_window_56 : decode cX10_window 56 = .ok (.putfield 35, 3) := by decide +kernel
theorem dX10_window_59 : decode cX10_window 59 = .ok (.aload_n 0, 1) := by decide +kernel
theorem dX10_window_60 : decode cX10_window 60 = .ok (.iload_n 1, 1) := by decide +kernel
theorem dX10_window_61 : decode cX10_window 61 = .ok (.iconst (-1), 1) := by decide +kernel
theorem dX10_window_62 : decode cX10_window 62 = .ok (.if_icmp .ne 7, 3) := by decide +kernel
theorem dX10_window_65 : decode cX10_window 65 = .ok (.iconst (-1), 1) := by decide +kernel
theorem dX10_window_66 : decode cX10_window 66 = .ok (.goto 4, 3) := by decide +kernel
theorem dX10_window_69 : decode cX10_window 69 = .ok (.iload_n 2, 1) := by decide +kernel
theorem dX10_window_70 : decode cX10_window 70 = .ok (.putfield 38, 3) := by decide +kernel
theorem dX10_window_73 : decode cX10_window 73 = .ok (.aload_n 0, 1) := by decide +kernel
theorem dX10_window_74 : decode cX10_window 74 = .ok (.iconst 1, 1) := by decide +kernel
theorem dX10_window_75 : decode cX10_window 75 = .ok (.putfield 41, 3) := by decide +kernel
theorem dX10_window_78 : decode cX10_window 78 = .ok (.iconst 1, 1) := by decide +kernel
theorem dX10_window_79 : decode cX10_window 79 = .ok (.ireturn, 1) := by decide +kernel
theorem dX10_candidate_0 : decode cX10_candidate 0 = .ok (.iload_n 1, 1) := by decide +kernel
theorem dX10_candidate_1 : decode cX10_candidate 1 = .ok (.ifCond .lt 8, 3) := by decide +kernel
theorem dX10_candidate_4 : decode cX10_candidate 4 = .ok (.iload_n 2, 1) := by decide +kernel
theorem dX10_candidate_5 : decode cX10_candidate 5 = .ok (.iload_n 1, 1) := by decide +kernel
theorem dX10_candidate_6 : decode cX10_candidate 6 = .ok (.if_icmp .ge 8, 3) := by decide +kernel
theorem dX10_candidate_9 : decode cX10_candidate 9 = .ok (.bipush (-4), 2) := by decide +kernel
theorem dX10_candidate_11 : decode cX10_candidate 11 = .ok (.goto 31, 3) := by decide +kernel
theorem dX10_candidate_14 : decode cX10_candidate 14 = .ok (.iload_n 1, 1) := by decide +kernel
theorem dX10_candidate_15 : decode cX10_candidate 15 = .ok (.sipush 300, 3) := by decide +kernel
theorem dX10_candidate_18 : decode cX10_candidate 18 = .ok (.if_icmp .ge 18, 3) := by decide +kernel
theorem dX10_candidate_21 : decode cX10_candidate 21 = .ok (.iload_n 2, 1) := by decide +kernel
theorem dX10_candidate_22 : decode cX10_candidate 22 = .ok (.sipush 300, 3) := by decide +kernel
theorem dX10_candidate_25 : decode cX10_candidate 25 = .ok (.if_icmp .ge 11, 3) := by decide +kernel
theorem dX10_candidate_28 : decode cX10_candidate 28 = .ok (.aload_n 0, 1) := by decide +kernel
theorem dX10_candidate_29 : decode cX10_candidate 29 = .ok (.getfield 136, 3) := by decide +kernel
theorem dX10_candidate_32 : decode cX10_candidate 32 = .ok (.iconst 4, 1) := by decide +kernel
theorem dX10_candidate_33 : decode cX10_candidate 33 = .ok (.if_icmp .ne 8, 3) := by decide +kernel
theorem dX10_candidate_36 : decode cX10_candidate 36 = .ok (.bipush (-6), 2) := by decide +kernel
theorem dX10_candidate_38 : decode cX10_candidate 38 = .ok (.goto 4, 3) := by decide +kernel
theorem dX10_candidate_41 : decode cX10_candidate 41 = .ok (.iconst 0, 1) := by decide +kernel
theorem dX10_candidate_42 : decode cX10_candidate 42 = .ok (.istore_n 3, 1) := by decide +kernel
theorem dX10_candidate_43 : decode cX10_candidate 43 = .ok (.iload_n 3, 1) := by decide +kernel
theorem dX10_candidate_44 : decode cX10_candidate 44 = .ok (.ifCond .eq 9, 3) := by decide +kernel
theorem dX10_candidate_47 : decode cX10_candidate 47 = .ok (.aload_n 0, 1) := by decide +kernel
theorem dX10_candidate_48 : decode cX10_candidate 48 = .ok (.iload_n 3, 1) := by decide +kernel
theorem dX10_candidate_49 : decode cX10_candidate 49 = .ok (.invokevirtual 105, 3) := by decide +kernel
theorem dX10_candidate_52 : decode cX10_candidate 52 = .ok (.ireturn, 1) := by decide +kernel
theorem dX10_candidate_53 : decode cX10_candidate 53 = .ok (.aload_n 0, 1) := by decide +kernel
theorem dX10_candidate_54 : decode cX10_candidate 54 = .ok (.getfield 25, 3) := by decide +kernel
theorem dX10_candidate_57 : decode cX10_candidate 57 = .ok (.aload_n 0, 1) := by decide +kernel
theorem dX10_candidate_58 : decode cX10_candidate 58 = .ok (.getfield 136, 3) := by decide +kernel
theorem dX10_candidate_61 : decode cX10_candidate 61 = .ok (.iload_n 1, 1) := by decide +kernel
theorem dX10_candidate_62 : decode cX10_candidate 62 = .ok (.iastore, 1) := by decide +kernel
theorem dX10_candidate_63 : decode cX10_candidate 63 = .ok (.aload_n 0, 1) := by decide +kernel
theorem dX10_candidate_64 : decode cX10_candidate 64 = .ok (.getfield 28, 3) := by decide +kernel
theorem dX10_candidate_67 : decode cX10_candidate 67 = .ok (.aload_n 0, 1) := by decide +kernel
theorem dX10_candidate_68 : decode cX10_candidate 68 = .ok (.getfield 136, 3) := by decide +kernel
theorem dX10_candidate_71 : decode cX10_candidate 71 = .ok (.iload_n 2, 1) := by decide +kernel
theorem dX10_candidate_72 : decode cX10_candidate 72 = .ok (.iastore, 1) := by decide +kernel
theorem dX10_candidate_73 : decode cX10_candidate 73 = .ok (.aload_n 0, 1) := by decide +kernel
theorem dX10_candidate_74 : decode cX10_candidate 74 = .ok (.dup, 1) := by decide +kernel
theorem dX10_candidate_75 : decode cX10_candidate 75 = .ok (.getfield 136, 3) := by decide +kernel
theorem dX10_candidate_78 : decode cX10_candidate 78 = .ok (.iconst 1, 1) := by decide +kernel
theorem dX10_candidate_79 : decode cX10_candidate 79 = .ok (.iadd, 1) := by decide +kernel
theorem dX10_candidate_80 : decode cX10_candidate 80 = .ok (.putfield 136, 3) := by decide +kernel
theorem dX10_candidate_83 : decode cX10_candidate 83 = .ok (.aload_n 0, 1) := by decide +kernel
theorem dX10_candidate_84 : decode cX10_candidate 84 = .ok (.getfield 136, 3) := by decide +kernel
theorem dX10_candidate_87 : decode cX10_candidate 87 = .ok (.ireturn, 1) := by decide +kernel
theorem dX10_isOpen_0 : decode cX10_isOpen 0 = .ok (.aload_n 0, 1) := by decide +kernel
theorem dX10_isOpen_1 : decode cX10_isOpen 1 = .ok (.getfield 35, 3) := by decide +kernel
theorem dX10_isOpen_4 : decode cX10_isOpen 4 = .ok (.ifCond .lt 23, 3) := by decide +kernel
theorem dX10_isOpen_7 : decode cX10_isOpen 7 = .ok (.iload_n 1, 1) := by decide +kernel
theorem dX10_isOpen_8 : decode cX10_isOpen 8 = .ok (.aload_n 0, 1) := by decide +kernel
theorem dX10_isOpen_9 : decode cX10_isOpen 9 = .ok (.getfield 35, 3) := by decide +kernel
theorem dX10_isOpen_12 : decode cX10_isOpen 12 = .ok (.if_icmp .lt 15, 3) := by decide +kernel
theorem dX10_isOpen_15 : decode cX10_isOpen 15 = .ok (.iload_n 1, 1) := by decide +kernel
theorem dX10_isOpen_16 : decode cX10_isOpen 16 = .ok (.aload_n 0, 1) := by decide +kernel
theorem dX10_isOpen_17 : decode cX10_isOpen 17 = .ok (.getfield 38, 3) := by decide +kernel
theorem dX10_isOpen_20 : decode cX10_isOpen 20 = .ok (.if_icmp .gt 7, 3) := by decide +kernel
theorem dX10_isOpen_23 : decode cX10_isOpen 23 = .ok (.iconst 1, 1) := by decide +kernel
theorem dX10_isOpen_24 : decode cX10_isOpen 24 = .ok (.goto 4, 3) := by decide +kernel
theorem dX10_isOpen_27 : decode cX10_isOpen 27 = .ok (.iconst 0, 1) := by decide +kernel
theorem dX10_isOpen_28 : decode cX10_isOpen 28 = .ok (.ireturn, 1) := by decide +kernel
theorem dX10_nearer_0 : decode cX10_nearer 0 = .ok (.iload_n 1, 1) := by decide +kernel
theorem dX10_nearer_1 : decode cX10_nearer 1 = .ok (.aload_n 0, 1) := by decide +kernel
theorem dX10_nearer_2 : decode cX10_nearer 2 = .ok (.getfield 31, 3) := by decide +kernel
theorem dX10_nearer_5 : decode cX10_nearer 5 = .ok (.if_icmp .ge 12, 3) := by decide +kernel
theorem dX10_nearer_8 : decode cX10_nearer 8 = .ok (.aload_n 0, 1) := by decide +kernel
theorem dX10_nearer_9 : decode cX10_nearer 9 = .ok (.getfield 31, 3) := by decide +kernel
theorem dX10_nearer_12 : decode cX10_nearer 12 = .ok (.iload_n 1, 1) := by decide +kernel
theorem dX10_nearer_13 : decode cX10_nearer 13 = .ok (.isub, 1) := by decide +kernel
theorem dX10_nearer_14 : decode cX10_nearer 14 = .ok (.goto 9, 3) := by decide +kernel
theorem dX10_nearer_17 : decode cX10_nearer 17 = .ok (.iload_n 1, 1) := by decide +kernel
theorem dX10_nearer_18 : decode cX10_nearer 18 = .ok (.aload_n 0, 1) := by decide +kernel
theorem dX10_nearer_19 : decode cX10_nearer 19 = .ok (.getfield 31, 3) := by decide +kernel
theorem dX10_nearer_22 : decode cX10_nearer 22 = .ok (.isub, 1) := by decide +kernel
theorem dX10_nearer_23 : decode cX10_nearer 23 = .ok (.istore_n 3, 1) := by decide +kernel
theorem dX10_nearer_24 : decode cX10_nearer 24 = .ok (.iload_n 3, 1) := by decide +kernel
theorem dX10_nearer_25 : decode cX10_nearer 25 = .ok (.iload_n 2, 1) := by decide +kernel
theorem dX10_nearer_26 : decode cX10_nearer 26 = .ok (.imul, 1) := by decide +kernel
theorem dX10_nearer_27 : decode cX10_nearer 27 = .ok (.bipush 100, 2) := by decide +kernel
theorem dX10_nearer_29 : decode cX10_nearer 29 = .ok (.idiv, 1) := by decide +kernel
theorem dX10_nearer_30 : decode cX10_nearer 30 = .ok (.istore 4, 2) := by decide +kernel
theorem dX10_nearer_32 : decode cX10_nearer 32 = .ok (.iload_n 1, 1) := by decide +kernel
theorem dX10_nearer_33 : decode cX10_nearer 33 = .ok (.aload_n 0, 1) := by decide +kernel
theorem dX10_nearer_34 : decode cX10_nearer 34 = .ok (.getfield 31, 3) := by decide +kernel
theorem dX10_nearer_37 : decode cX10_nearer 37 = .ok (.if_icmp .ge 10, 3) := by decide +kernel
theorem dX10_nearer_40 : decode cX10_nearer 40 = .ok (.iload_n 1, 1) := by decide +kernel
theorem dX10_nearer_41 : decode cX10_nearer 41 = .ok (.iload 4, 2) := by decide +kernel
theorem dX10_nearer_43 : decode cX10_nearer 43 = .ok (.iadd, 1) := by decide +kernel
theorem dX10_nearer_44 : decode cX10_nearer 44 = .ok (.goto 7, 3) := by decide +kernel
theorem dX10_nearer_47 : decode cX10_nearer 47 = .ok (.iload_n 1, 1) := by decide +kernel
theorem dX10_nearer_48 : decode cX10_nearer 48 = .ok (.iload 4, 2) := by decide +kernel
theorem dX10_nearer_50 : decode cX10_nearer 50 = .ok (.isub, 1) := by decide +kernel
theorem dX10_nearer_51 : decode cX10_nearer 51 = .ok (.ireturn, 1) := by decide +kernel
theorem dX10_leftOf_0 : decode cX10_leftOf 0 = .ok (.aload_n 0, 1) := by decide +kernel
theorem dX10_leftOf_1 : decode cX10_leftOf 1 = .ok (.getfield 19, 3) := by decide +kernel
theorem dX10_leftOf_4 : decode cX10_leftOf 4 = .ok (.iload_n 1, 1) := by decide +kernel
theorem dX10_leftOf_5 : decode cX10_leftOf 5 = .ok (.iaload, 1) := by decide +kernel
theorem dX10_leftOf_6 : decode cX10_leftOf 6 = .ok (.istore 4, 2) := by decide +kernel
theorem dX10_leftOf_8 : decode cX10_leftOf 8 = .ok (.aload_n 0, 1) := by decide +kernel
theorem dX10_leftOf_9 : decode cX10_leftOf 9 = .ok (.getfield 16, 3) := by decide +kernel
theorem dX10_leftOf_12 : decode cX10_leftOf 12 = .ok (.iload_n 1, 1) := by decide +kernel
theorem dX10_leftOf_13 : decode cX10_leftOf 13 = .ok (.iaload, 1) := by decide +kernel
theorem dX10_leftOf_14 : decode cX10_leftOf 14 = .ok (.tableswitch 220 0 4 #[34, 116, 50, 72, 150], 34) := by decide +kernel
theorem dX10_leftOf_48 : decode cX10_leftOf 48 = .ok (.iload 4, 2) := by decide +kernel
theorem dX10_leftOf_50 : decode cX10_leftOf 50 = .ok (.aload_n 0, 1) := by decide +kernel
theorem dX10_leftOf_51 : decode cX10_leftOf 51 = .ok (.getfield 22, 3) := by decide +kernel
theorem dX10_leftOf_54 : decode cX10_leftOf 54 = .ok (.iload_n 1, 1) := by decide +kernel
theorem dX10_leftOf_55 : decode cX10_leftOf 55 = .ok (.iaload, 1) := by decide +kernel
theorem dX10_leftOf_56 : decode cX10_leftOf 56 = .ok (.iload_n 3, 1) := by decide +kernel
theorem dX10_leftOf_57 : decode cX10_leftOf 57 = .ok (.imul, 1) := by decide +kernel
theorem dX10_leftOf_58 : decode cX10_leftOf 58 = .ok (.isub, 1) := by decide +kernel
theorem dX10_leftOf_59 : decode cX10_leftOf 59 = .ok (.istore 4, 2) := by decide +kernel
theorem dX10_leftOf_61 : decode cX10_leftOf 61 = .ok (.goto 176, 3) := by decide +kernel
theorem dX10_leftOf_64 : decode cX10_leftOf 64 = .ok (.iload 4, 2) := by decide +kernel
theorem dX10_leftOf_66 : decode cX10_leftOf 66 = .ok (.bipush 10, 2) := by decide +kernel
theorem dX10_leftOf_68 : decode cX10_leftOf 68 = .ok (.aload_n 0, 1) := by decide +kernel
theorem dX10_leftOf_69 : decode cX10_leftOf 69 = .ok (.getfield 22, 3) := by decide +kernel
theorem dX10_leftOf_72 : decode cX10_leftOf 72 = .ok (.iload_n 1, 1) := by decide +kernel
theorem dX10_leftOf_73 : decode cX10_leftOf 73 = .ok (.iaload, 1) := by decide +kernel
theorem dX10_leftOf_74 : decode cX10_leftOf 74 = .ok (.imul, 1) := by decide +kernel
theorem dX10_leftOf_75 : decode cX10_leftOf 75 = .ok (.iload_n 3, 1) := by decide +kernel
theorem dX10_leftOf_76 : decode cX10_leftOf 76 = .ok (.bipush 10, 2) := by decide +kernel
theorem dX10_leftOf_78 : decode cX10_leftOf 78 = .ok (.idiv, 1) := by decide +kernel
theorem dX10_leftOf_79 : decode cX10_leftOf 79 = .ok (.imul, 1) := by decide +kernel
theorem dX10_leftOf_80 : decode cX10_leftOf 80 = .ok (.isub, 1) := by decide +kernel
theorem dX10_leftOf_81 : decode cX10_leftOf 81 = .ok (.istore 4, 2) := by decide +kernel
theorem dX10_leftOf_83 : decode cX10_leftOf 83 = .ok (.goto 154, 3) := by decide +kernel
theorem dX10_leftOf_86 : decode cX10_leftOf 86 = .ok (.iload_n 2, 1) := by decide +kernel
theorem dX10_leftOf_87 : decode cX10_leftOf 87 = .ok (.istore 5, 2) := by decide +kernel
theorem dX10_leftOf_89 : decode cX10_leftOf 89 = .ok (.iload 5, 2) := by decide +kernel
theorem dX10_leftOf_91 : decode cX10_leftOf 91 = .ok (.iload_n 2, 1) := by decide +kernel
theorem dX10_leftOf_92 : decode cX10_leftOf 92 = .ok (.iload_n 3, 1) := by decide +kernel
theorem dX10_leftOf_93 : decode cX10_leftOf 93 = .ok (.iadd, 1) := by decide +kernel
theorem dX10_leftOf_94 : decode cX10_leftOf 94 = .ok (.if_icmp .ge 33, 3) := by decide +kernel
theorem dX10_leftOf_97 : decode cX10_leftOf 97 = .ok (.iload 4, 2) := by decide +kernel
theorem dX10_leftOf_99 : decode cX10_leftOf 99 = .ok (.aload_n 0, 1) := by decide +kernel
theorem dX10_leftOf_100 : decode cX10_leftOf 100 = .ok (.iload 5, 2) := by decide +kernel
theorem dX10_leftOf_102 : decode cX10_leftOf 102 = .ok (.invokevirtual 139, 3) := by decide +kernel
theorem dX10_leftOf_105 : decode cX10_leftOf 105 = .ok (.ifCond .eq 12, 3) := by decide +kernel
theorem dX10_leftOf_108 : decode cX10_leftOf 108 = .ok (.aload_n 0, 1) := by decide +kernel
theorem dX10_leftOf_109 : decode cX10_leftOf 109 = .ok (.getfield 22, 3) := by decide +kernel
theorem dX10_leftOf_112 : decode cX10_leftOf 112 = .ok (.iload_n 1, 1) := by decide +kernel
theorem dX10_leftOf_113 : decode cX10_leftOf 113 = .ok (.iaload, 1) := by decide +kernel
theorem dX10_leftOf_114 : decode cX10_leftOf 114 = .ok (.goto 4, 3) := by decide +kernel
theorem dX10_leftOf_117 : decode cX10_leftOf 117 = .ok (.iconst 0, 1) := by decide +kernel
theorem dX10_leftOf_118 : decode cX10_leftOf 118 = .ok (.isub, 1) := by decide +kernel
theorem dX10_leftOf_119 : decode cX10_leftOf 119 = .ok (.istore 4, 2) := by decide +kernel
theorem dX10_leftOf_121 : decode cX10_leftOf 121 = .ok (.iinc 5 1, 3) := by decide +kernel
theorem dX10_leftOf_124 : decode cX10_leftOf 124 = .ok (.goto (-35), 3) := by decide +kernel
theorem dX10_leftOf_127 : decode cX10_leftOf 127 = .ok (.goto 110, 3) := by decide +kernel
theorem dX10_leftOf_130 : decode cX10_leftOf 130 = .ok (.iload_n 2, 1) := by decide +kernel
theorem dX10_leftOf_131 : decode cX10_leftOf 131 = .ok (.istore 5, 2) := by decide +kernel
theorem dX10_leftOf_133 : decode cX10_leftOf 133 = .ok (.iload 5, 2) := by decide +kernel
theorem dX10_leftOf_135 : decode cX10_leftOf 135 = .ok (.iload_n 2, 1) := by decide +kernel
theorem dX10_leftOf_136 : decode cX10_leftOf 136 = .ok (.iload_n 3, 1) := by decide +kernel
theorem dX10_leftOf_137 : decode cX10_leftOf 137 = .ok (.iadd, 1) := by decide +kernel
theorem dX10_leftOf_138 : decode cX10_leftOf 138 = .ok (.if_icmp .ge 23, 3) := by decide +kernel
theorem dX10_leftOf_141 : decode cX10_leftOf 141 = .ok (.aload_n 0, 1) := by decide +kernel
theorem dX10_leftOf_142 : decode cX10_leftOf 142 = .ok (.iload 4, 2) := by decide +kernel
theorem dX10_leftOf_144 : decode cX10_leftOf 144 = .ok (.aload_n 0, 1) := by decide +kernel
theorem dX10_leftOf_145 : decode cX10_leftOf 145 = .ok (.getfield 22, 3) := by decide +kernel
theorem dX10_leftOf_148 : decode cX10_leftOf 148 = .ok (.iload_n 1, 1) := by decide +kernel
theorem dX10_leftOf_149 : decode cX10_leftOf 149 = .ok (.iaload, 1) := by decide +kernel
theorem dX10_leftOf_150 : decode cX10_leftOf 150 = .ok (.invokevirtual 142, 3) := by decide +kernel
theorem dX10_leftOf_153 : decode cX10_leftOf 153 = .ok (.istore 4, 2) := by decide +kernel
theorem dX10_leftOf_155 : decode cX10_leftOf 155 = .ok (.iinc 5 1, 3) := by decide +kernel
theorem dX10_leftOf_158 : decode cX10_leftOf 158 = .ok (.goto (-25), 3) := by decide +kernel
theorem dX10_leftOf_161 : decode cX10_leftOf 161 = .ok (.iload 4, 2) := by decide +kernel
theorem dX10_leftOf_163 : decode cX10_leftOf 163 = .ok (.ireturn, 1) := by decide +kernel
theorem dX10_leftOf_164 : decode cX10_leftOf 164 = .ok (.iload_n 2, 1) := by decide +kernel
theorem dX10_leftOf_165 : decode cX10_leftOf 165 = .ok (.istore 5, 2) := by decide +kernel
theorem dX10_leftOf_167 : decode cX10_leftOf 167 = .ok (.iload 5, 2) := by decide +kernel
theorem dX10_leftOf_169 : decode cX10_leftOf 169 = .ok (.iload_n 2, 1) := by decide +kernel
theorem dX10_leftOf_170 : decode cX10_leftOf 170 = .ok (.iload_n 3, 1) := by decide +kernel
theorem dX10_leftOf_171 : decode cX10_leftOf 171 = .ok (.iadd, 1) := by decide +kernel
theorem dX10_leftOf_172 : decode cX10_leftOf 172 = .ok (.if_icmp .ge 59, 3) := by decide +kernel
theorem dX10_leftOf_175 : decode cX10_leftOf 175 = .ok (.aload_n 0, 1) := by decide +kernel
theorem dX10_leftOf_176 : decode cX10_leftOf 176 = .ok (.iload 4, 2) := by decide +kernel
theorem dX10_leftOf_178 : decode cX10_leftOf 178 = .ok (.aload_n 0, 1) := by decide +kernel
theorem dX10_leftOf_179 : decode cX10_leftOf 179 = .ok (.iload 5, 2) := by decide +kernel
theorem dX10_leftOf_181 : decode cX10_leftOf 181 = .ok (.invokevirtual 139, 3) := by decide +kernel
theorem dX10_leftOf_184 : decode cX10_leftOf 184 = .ok (.ifCond .ne 12, 3) := by decide +kernel
theorem dX10_leftOf_187 : decode cX10_leftOf 187 = .ok (.aload_n 0, 1) := by decide +kernel
theorem dX10_leftOf_188 : decode cX10_leftOf 188 = .ok (.getfield 22, 3) := by decide +kernel
theorem dX10_leftOf_191 : decode cX10_leftOf 191 = .ok (.iload_n 1, 1) := by decide +kernel
theorem dX10_leftOf_192 : decode cX10_leftOf 192 = .ok (.iaload, 1) := by decide +kernel
theorem dX10_leftOf_193 : decode cX10_leftOf 193 = .ok (.goto 27, 3) := by decide +kernel
theorem dX10_leftOf_196 : decode cX10_leftOf 196 = .ok (.aload_n 0, 1) := by decide +kernel
theorem dX10_leftOf_197 : decode cX10_leftOf 197 = .ok (.getfield 22, 3) := by decide +kernel
theorem dX10_leftOf_200 : decode cX10_leftOf 200 = .ok (.iload_n 1, 1) := by decide +kernel
theorem dX10_leftOf_201 : decode cX10_leftOf 201 = .ok (.iaload, 1) := by decide +kernel
theorem dX10_leftOf_202 : decode cX10_leftOf 202 = .ok (.bipush 50, 2) := by decide +kernel
theorem dX10_leftOf_204 : decode cX10_leftOf 204 = .ok (.if_icmp .ge 14, 3) := by decide +kernel
theorem dX10_leftOf_207 : decode cX10_leftOf 207 = .ok (.iconst 2, 1) := by decide +kernel
theorem dX10_leftOf_208 : decode cX10_leftOf 208 = .ok (.aload_n 0, 1) := by decide +kernel
theorem dX10_leftOf_209 : decode cX10_leftOf 209 = .ok (.getfield 22, 3) := by decide +kernel
theorem dX10_leftOf_212 : decode cX10_leftOf 212 = .ok (.iload_n 1, 1) := by decide +kernel
theorem dX10_leftOf_213 : decode cX10_leftOf 213 = .ok (.iaload, 1) := by decide +kernel
theorem dX10_leftOf_214 : decode cX10_leftOf 214 = .ok (.imul, 1) := by decide +kernel
theorem dX10_leftOf_215 : decode cX10_leftOf 215 = .ok (.goto 5, 3) := by decide +kernel
theorem dX10_leftOf_218 : decode cX10_leftOf 218 = .ok (.bipush 100, 2) := by decide +kernel
theorem dX10_leftOf_220 : decode cX10_leftOf 220 = .ok (.invokevirtual 142, 3) := by decide +kernel
theorem dX10_leftOf_223 : decode cX10_leftOf 223 = .ok (.istore 4, 2) := by decide +kernel
theorem dX10_leftOf_225 : decode cX10_leftOf 225 = .ok (.iinc 5 1, 3) := by decide +kernel
theorem dX10_leftOf_228 : decode cX10_leftOf 228 = .ok (.goto (-61), 3) := by decide +kernel
theorem dX10_leftOf_231 : decode cX10_leftOf 231 = .ok (.iload 4, 2) := by decide +kernel
theorem dX10_leftOf_233 : decode cX10_leftOf 233 = .ok (.ireturn, 1) := by decide +kernel
theorem dX10_leftOf_234 : decode cX10_leftOf 234 = .ok (.iload 4, 2) := by decide +kernel
theorem dX10_leftOf_236 : decode cX10_leftOf 236 = .ok (.ireturn, 1) := by decide +kernel
theorem dX10_leftOf_237 : decode cX10_leftOf 237 = .ok (.iload 4, 2) := by decide +kernel
theorem dX10_leftOf_239 : decode cX10_leftOf 239 = .ok (.ifCond .ge 7, 3) := by decide +kernel
theorem dX10_leftOf_242 : decode cX10_leftOf 242 = .ok (.iconst 0, 1) := by decide +kernel
theorem dX10_leftOf_243 : decode cX10_leftOf 243 = .ok (.goto 5, 3) := by decide +kernel
theorem dX10_leftOf_246 : decode cX10_leftOf 246 = .ok (.iload 4, 2) := by decide +kernel
theorem dX10_leftOf_248 : decode cX10_leftOf 248 = .ok (.ireturn, 1) := by decide +kernel
theorem dX10_left_0 : decode cX10_left 0 = .ok (.aload_n 0, 1) := by decide +kernel
theorem dX10_left_1 : decode cX10_left 1 = .ok (.iload_n 1, 1) := by decide +kernel
theorem dX10_left_2 : decode cX10_left 2 = .ok (.invokevirtual 132, 3) := by decide +kernel
theorem dX10_left_5 : decode cX10_left 5 = .ok (.ifCond .ne 9, 3) := by decide +kernel
theorem dX10_left_8 : decode cX10_left 8 = .ok (.aload_n 0, 1) := by decide +kernel
theorem dX10_left_9 : decode cX10_left 9 = .ok (.iconst (-1), 1) := by decide +kernel
theorem dX10_left_10 : decode cX10_left 10 = .ok (.invokevirtual 105, 3) := by decide +kernel
theorem dX10_left_13 : decode cX10_left 13 = .ok (.ireturn, 1) := by decide +kernel
theorem dX10_left_14 : decode cX10_left 14 = .ok (.iload_n 2, 1) := by decide +kernel
theorem dX10_left_15 : decode cX10_left 15 = .ok (.iload_n 3, 1) := by decide +kernel
theorem dX10_left_16 : decode cX10_left 16 = .ok (.invokestatic 146, 3) := by decide +kernel
theorem dX10_left_19 : decode cX10_left 19 = .ok (.istore 4, 2) := by decide +kernel
theorem dX10_left_21 : decode cX10_left 21 = .ok (.iload 4, 2) := by decide +kernel
theorem dX10_left_23 : decode cX10_left 23 = .ok (.ifCond .eq 12, 3) := by decide +kernel
theorem dX10_left_26 : decode cX10_left 26 = .ok (.aload_n 0, 1) := by decide +kernel
theorem dX10_left_27 : decode cX10_left 27 = .ok (.iload 4, 2) := by decide +kernel
theorem dX10_left_29 : decode cX10_left 29 = .ok (.invokevirtual 105, 3) := by decide +kernel
theorem dX10_left_32 : decode cX10_left 32 = .ok (.goto 10, 3) := by decide +kernel
theorem dX10_left_35 : decode cX10_left 35 = .ok (.aload_n 0, 1) := by decide +kernel
theorem dX10_left_36 : decode cX10_left 36 = .ok (.iload_n 1, 1) := by decide +kernel
theorem dX10_left_37 : decode cX10_left 37 = .ok (.iload_n 2, 1) := by decide +kernel
theorem dX10_left_38 : decode cX10_left 38 = .ok (.iload_n 3, 1) := by decide +kernel
theorem dX10_left_39 : decode cX10_left 39 = .ok (.invokevirtual 149, 3) := by decide +kernel
theorem dX10_left_42 : decode cX10_left 42 = .ok (.ireturn, 1) := by decide +kernel
theorem dX10_look_0 : decode cX10_look 0 = .ok (.aload_n 0, 1) := by decide +kernel
theorem dX10_look_1 : decode cX10_look 1 = .ok (.iload_n 1, 1) := by decide +kernel
theorem dX10_look_2 : decode cX10_look 2 = .ok (.invokevirtual 132, 3) := by decide +kernel
theorem dX10_look_5 : decode cX10_look 5 = .ok (.ifCond .ne 9, 3) := by decide +kernel
theorem dX10_look_8 : decode cX10_look 8 = .ok (.aload_n 0, 1) := by decide +kernel
theorem dX10_look_9 : decode cX10_look 9 = .ok (.iconst (-1), 1) := by decide +kernel
theorem dX10_look_10 : decode cX10_look 10 = .ok (.invokevirtual 105, 3) := by decide +kernel
theorem dX10_look_13 : decode cX10_look 13 = .ok (.ireturn, 1) := by decide +kernel
theorem dX10_look_14 : decode cX10_look 14 = .ok (.iload_n 2, 1) := by decide +kernel
theorem dX10_look_15 : decode cX10_look 15 = .ok (.ifCond .lt 13, 3) := by decide +kernel
theorem dX10_look_18 : decode cX10_look 18 = .ok (.iload_n 3, 1) := by decide +kernel
theorem dX10_look_19 : decode cX10_look 19 = .ok (.ifCond .lt 9, 3) := by decide +kernel
theorem dX10_look_22 : decode cX10_look 22 = .ok (.iload 4, 2) := by decide +kernel
theorem dX10_look_24 : decode cX10_look 24 = .ok (.iload_n 3, 1) := by decide +kernel
theorem dX10_look_25 : decode cX10_look 25 = .ok (.if_icmp .ge 8, 3) := by decide +kernel
theorem dX10_look_28 : decode cX10_look 28 = .ok (.bipush (-4), 2) := by decide +kernel
theorem dX10_look_30 : decode cX10_look 30 = .ok (.goto 40, 3) := by decide +kernel
theorem dX10_look_33 : decode cX10_look 33 = .ok (.iload_n 2, 1) := by decide +kernel
theorem dX10_look_34 : decode cX10_look 34 = .ok (.sipush 300, 3) := by decide +kernel
theorem dX10_look_37 : decode cX10_look 37 = .ok (.if_icmp .ge 27, 3) := by decide +kernel
theorem dX10_look_40 : decode cX10_look 40 = .ok (.iload_n 3, 1) := by decide +kernel
theorem dX10_look_41 : decode cX10_look 41 = .ok (.sipush 9999, 3) := by decide +kernel
theorem dX10_look_44 : decode cX10_look 44 = .ok (.if_icmp .gt 20, 3) := by decide +kernel
theorem dX10_look_47 : decode cX10_look 47 = .ok (.iload 4, 2) := by decide +kernel
theorem dX10_look_49 : decode cX10_look 49 = .ok (.sipush 9999, 3) := by decide +kernel
theorem dX10_look_52 : decode cX10_look 52 = .ok (.if_icmp .gt 12, 3) := by decide +kernel
theorem dX10_look_55 : decode cX10_look 55 = .ok (.aload_n 0, 1) := by decide +kernel
theorem dX10_look_56 : decode cX10_look 56 = .ok (.getfield 152, 3) := by decide +kernel
theorem dX10_look_59 : decode cX10_look 59 = .ok (.bipush 10, 2) := by decide +kernel
theorem dX10_look_61 : decode cX10_look 61 = .ok (.if_icmp .ne 8, 3) := by decide +kernel
theorem dX10_look_64 : decode cX10_look 64 = .ok (.bipush (-6), 2) := by decide +kernel
theorem dX10_look_66 : decode cX10_look 66 = .ok (.goto 4, 3) := by decide +kernel
theorem dX10_look_69 : decode cX10_look 69 = .ok (.iconst 0, 1) := by decide +kernel
theorem dX10_look_70 : decode cX10_look 70 = .ok (.istore 5, 2) := by decide +kernel
theorem dX10_look_72 : decode cX10_look 72 = .ok (.iload 5, 2) := by decide +kernel
theorem dX10_look_74 : decode cX10_look 74 = .ok (.ifCond .eq 10, 3) := by decide +kernel
theorem dX10_look_77 : decode cX10_look 77 = .ok (.aload_n 0, 1) := by decide +kernel
theorem dX10_look_78 : decode cX10_look 78 = .ok (.iload 5, 2) := by decide +kernel
theorem dX10_look_80 : decode cX10_look 80 = .ok (.invokevirtual 105, 3) := by decide +kernel
theorem dX10_look_83 : decode cX10_look 83 = .ok (.ireturn, 1) := by decide +kernel
theorem dX10_look_84 : decode cX10_look 84 = .ok (.aload_n 0, 1) := by decide +kernel
theorem dX10_look_85 : decode cX10_look 85 = .ok (.getfield 45, 3) := by decide +kernel
theorem dX10_look_88 : decode cX10_look 88 = .ok (.aload_n 0, 1) := by decide +kernel
theorem dX10_look_89 : decode cX10_look 89 = .ok (.getfield 152, 3) := by decide +kernel
theorem dX10_look_92 : decode cX10_look 92 = .ok (.iload_n 1, 1) := by decide +kernel
theorem dX10_look_93 : decode cX10_look 93 = .ok (.iastore, 1) := by decide +kernel
theorem dX10_look_94 : decode cX10_look 94 = .ok (.aload_n 0, 1) := by decide +kernel
theorem dX10_look_95 : decode cX10_look 95 = .ok (.getfield 48, 3) := by decide +kernel
theorem dX10_look_98 : decode cX10_look 98 = .ok (.aload_n 0, 1) := by decide +kernel
theorem dX10_look_99 : decode cX10_look 99 = .ok (.getfield 152, 3) := by decide +kernel
theorem dX10_look_102 : decode cX10_look 102 = .ok (.iload_n 2, 1) := by decide +kernel
theorem dX10_look_103 : decode cX10_look 103 = .ok (.iastore, 1) := by decide +kernel
theorem dX10_look_104 : decode cX10_look 104 = .ok (.aload_n 0, 1) := by decide +kernel
theorem dX10_look_105 : decode cX10_look 105 = .ok (.getfield 51, 3) := by decide +kernel
theorem dX10_look_108 : decode cX10_look 108 = .ok (.aload_n 0, 1) := by decide +kernel
theorem dX10_look_109 : decode cX10_look 109 = .ok (.getfield 152, 3) := by decide +kernel
theorem dX10_look_112 : decode cX10_look 112 = .ok (.iload_n 3, 1) := by decide +kernel
theorem dX10_look_113 : decode cX10_look 113 = .ok (.iastore, 1) := by decide +kernel
theorem dX10_look_114 : decode cX10_look 114 = .ok (.aload_n 0, 1) := by decide +kernel
theorem dX10_look_115 : decode cX10_look 115 = .ok (.getfield 54, 3) := by decide +kernel
theorem dX10_look_118 : decode cX10_look 118 = .ok (.aload_n 0, 1) := by decide +kernel
theorem dX10_look_119 : decode cX10_look 119 = .ok (.getfield 152, 3) := by decide +kernel
theorem dX10_look_122 : decode cX10_look 122 = .ok (.iload 4, 2) := by decide +kernel
theorem dX10_look_124 : decode cX10_look 124 = .ok (.iastore, 1) := by decide +kernel
theorem dX10_look_125 : decode cX10_look 125 = .ok (.aload_n 0, 1) := by decide +kernel
theorem dX10_look_126 : decode cX10_look 126 = .ok (.getfield 57, 3) := by decide +kernel
theorem dX10_look_129 : decode cX10_look 129 = .ok (.aload_n 0, 1) := by decide +kernel
theorem dX10_look_130 : decode cX10_look 130 = .ok (.getfield 152, 3) := by decide +kernel
theorem dX10_look_133 : decode cX10_look 133 = .ok (.iconst 0, 1) := by decide +kernel
theorem dX10_look_134 : decode cX10_look 134 = .ok (.iastore, 1) := by decide +kernel
theorem dX10_look_135 : decode cX10_look 135 = .ok (.aload_n 0, 1) := by decide +kernel
theorem dX10_look_136 : decode cX10_look 136 = .ok (.dup, 1) := by decide +kernel
theorem dX10_look_137 : decode cX10_look 137 = .ok (.getfield 152, 3) := by decide +kernel
theorem dX10_look_140 : decode cX10_look 140 = .ok (.iconst 1, 1) := by decide +kernel
theorem dX10_look_141 : decode cX10_look 141 = .ok (.iadd, 1) := by decide +kernel
theorem dX10_look_142 : decode cX10_look 142 = .ok (.putfield 152, 3) := by decide +kernel
theorem dX10_look_145 : decode cX10_look 145 = .ok (.aload_n 0, 1) := by decide +kernel
theorem dX10_look_146 : decode cX10_look 146 = .ok (.iconst 1, 1) := by decide +kernel
theorem dX10_look_147 : decode cX10_look 147 = .ok (.putfield 41, 3) := by decide +kernel
theorem dX10_look_150 : decode cX10_look 150 = .ok (.aload_n 0, 1) := by decide +kernel
theorem dX10_look_151 : decode cX10_look 151 = .ok (.getfield 152, 3) := by decide +kernel
theorem dX10_look_154 : decode cX10_look 154 = .ok (.iconst 1, 1) := by decide +kernel
theorem dX10_look_155 : decode cX10_look 155 = .ok (.isub, 1) := by decide +kernel
theorem dX10_look_156 : decode cX10_look 156 = .ok (.ireturn, 1) := by decide +kernel
theorem dX10_doubt_0 : decode cX10_doubt 0 = .ok (.iload_n 1, 1) := by decide +kernel
theorem dX10_doubt_1 : decode cX10_doubt 1 = .ok (.iconst 0, 1) := by decide +kernel
theorem dX10_doubt_2 : decode cX10_doubt 2 = .ok (.aload_n 0, 1) := by decide +kernel
theorem dX10_doubt_3 : decode cX10_doubt 3 = .ok (.getfield 152, 3) := by decide +kernel
theorem dX10_doubt_6 : decode cX10_doubt 6 = .ok (.iconst 1, 1) := by decide +kernel
theorem dX10_doubt_7 : decode cX10_doubt 7 = .ok (.isub, 1) := by decide +kernel
theorem dX10_doubt_8 : decode cX10_doubt 8 = .ok (.invokestatic 118, 3) := by decide +kernel
theorem dX10_doubt_11 : decode cX10_doubt 11 = .ok (.ifCond .ne 9, 3) := by decide +kernel
theorem dX10_doubt_14 : decode cX10_doubt 14 = .ok (.aload_n 0, 1) := by decide +kernel
theorem dX10_doubt_15 : decode cX10_doubt 15 = .ok (.iconst (-1), 1) := by decide +kernel
theorem dX10_doubt_16 : decode cX10_doubt 16 = .ok (.invokevirtual 105, 3) := by decide +kernel
theorem dX10_doubt_19 : decode cX10_doubt 19 = .ok (.ireturn, 1) := by decide +kernel
theorem dX10_doubt_20 : decode cX10_doubt 20 = .ok (.aload_n 0, 1) := by decide +kernel
theorem dX10_doubt_21 : decode cX10_doubt 21 = .ok (.getfield 57, 3) := by decide +kernel
theorem dX10_doubt_24 : decode cX10_doubt 24 = .ok (.iload_n 1, 1) := by decide +kernel
theorem dX10_doubt_25 : decode cX10_doubt 25 = .ok (.iaload, 1) := by decide +kernel
theorem dX10_doubt_26 : decode cX10_doubt 26 = .ok (.iconst 1, 1) := by decide +kernel
theorem dX10_doubt_27 : decode cX10_doubt 27 = .ok (.if_icmp .ne 7, 3) := by decide +kernel
theorem dX10_doubt_30 : decode cX10_doubt 30 = .ok (.iconst 1, 1) := by decide +kernel
theorem dX10_doubt_31 : decode cX10_doubt 31 = .ok (.goto 4, 3) := by decide +kernel
theorem dX10_doubt_34 : decode cX10_doubt 34 = .ok (.iconst 0, 1) := by decide +kernel
theorem dX10_doubt_35 : decode cX10_doubt 35 = .ok (.iload_n 2, 1) := by decide +kernel
theorem dX10_doubt_36 : decode cX10_doubt 36 = .ok (.if_icmp .ne 5, 3) := by decide +kernel
theorem dX10_doubt_39 : decode cX10_doubt 39 = .ok (.iconst 0, 1) := by decide +kernel
theorem dX10_doubt_40 : decode cX10_doubt 40 = .ok (.ireturn, 1) := by decide +kernel
theorem dX10_doubt_41 : decode cX10_doubt 41 = .ok (.aload_n 0, 1) := by decide +kernel
theorem dX10_doubt_42 : decode cX10_doubt 42 = .ok (.getfield 57, 3) := by decide +kernel
theorem dX10_doubt_45 : decode cX10_doubt 45 = .ok (.iload_n 1, 1) := by decide +kernel
theorem dX10_doubt_46 : decode cX10_doubt 46 = .ok (.iload_n 2, 1) := by decide +kernel
theorem dX10_doubt_47 : decode cX10_doubt 47 = .ok (.ifCond .eq 7, 3) := by decide +kernel
theorem dX10_doubt_50 : decode cX10_doubt 50 = .ok (.iconst 1, 1) := by decide +kernel
theorem dX10_doubt_51 : decode cX10_doubt 51 = .ok (.goto 4, 3) := by decide +kernel
theorem dX10_doubt_54 : decode cX10_doubt 54 = .ok (.iconst 0, 1) := by decide +kernel
theorem dX10_doubt_55 : decode cX10_doubt 55 = .ok (.iastore, 1) := by decide +kernel
theorem dX10_doubt_56 : decode cX10_doubt 56 = .ok (.iconst 1, 1) := by decide +kernel
theorem dX10_doubt_57 : decode cX10_doubt 57 = .ok (.ireturn, 1) := by decide +kernel
theorem dX10_join_0 : decode cX10_join 0 = .ok (.aload_n 0, 1) := by decide +kernel
theorem dX10_join_1 : decode cX10_join 1 = .ok (.iload_n 1, 1) := by decide +kernel
theorem dX10_join_2 : decode cX10_join 2 = .ok (.invokevirtual 132, 3) := by decide +kernel
theorem dX10_join_5 : decode cX10_join 5 = .ok (.ifCond .eq 13, 3) := by decide +kernel
theorem dX10_join_8 : decode cX10_join 8 = .ok (.iload_n 2, 1) := by decide +kernel
theorem dX10_join_9 : decode cX10_join 9 = .ok (.iconst (-1), 1) := by decide +kernel
theorem dX10_join_10 : decode cX10_join 10 = .ok (.if_icmp .lt 8, 3) := by decide +kernel
theorem dX10_join_13 : decode cX10_join 13 = .ok (.iload_n 2, 1) := by decide +kernel
theorem dX10_join_14 : decode cX10_join 14 = .ok (.iload_n 1, 1) := by decide +kernel
theorem dX10_join_15 : decode cX10_join 15 = .ok (.if_icmp .lt 9, 3) := by decide +kernel
theorem dX10_join_18 : decode cX10_join 18 = .ok (.aload_n 0, 1) := by decide +kernel
theorem dX10_join_19 : decode cX10_join 19 = .ok (.iconst (-1), 1) := by decide +kernel
theorem dX10_join_20 : decode cX10_join 20 = .ok (.invokevirtual 105, 3) := by decide +kernel
theorem dX10_join_23 : decode cX10_join 23 = .ok (.ireturn, 1) := by decide +kernel
theorem dX10_join_24 : decode cX10_join 24 = .ok (.iload_n 2, 1) := by decide +kernel
theorem dX10_join_25 : decode cX10_join 25 = .ok (.ifCond .lt 57, 3) := by decide +kernel
theorem dX10_join_28 : decode cX10_join 28 = .ok (.iload_n 3, 1) := by decide +kernel
theorem dX10_join_29 : decode cX10_join 29 = .ok (.iconst 0, 1) := by decide +kernel
theorem dX10_join_30 : decode cX10_join 30 = .ok (.iconst 3, 1) := by decide +kernel
theorem dX10_join_31 : decode cX10_join 31 = .ok (.invokestatic 118, 3) := by decide +kernel
theorem dX10_join_34 : decode cX10_join 34 = .ok (.ifCond .ne 10, 3) := by decide +kernel
theorem dX10_join_37 : decode cX10_join 37 = .ok (.aload_n 0, 1) := by decide +kernel
theorem dX10_join_38 : decode cX10_join 38 = .ok (.bipush (-2), 2) := by decide +kernel
theorem dX10_join_40 : decode cX10_join 40 = .ok (.invokevirtual 105, 3) := by decide +kernel
theorem dX10_join_43 : decode cX10_join 43 = .ok (.ireturn, 1) := by decide +kernel
theorem dX10_join_44 : decode cX10_join 44 = .ok (.iload 4, 2) := by decide +kernel
theorem dX10_join_46 : decode cX10_join 46 = .ok (.iconst 0, 1) := by decide +kernel
theorem dX10_join_47 : decode cX10_join 47 = .ok (.sipush 299, 3) := by decide +kernel
theorem dX10_join_50 : decode cX10_join 50 = .ok (.invokestatic 98, 3) := by decide +kernel
theorem dX10_join_53 : decode cX10_join 53 = .ok (.istore 5, 2) := by decide +kernel
theorem dX10_join_55 : decode cX10_join 55 = .ok (.iload 5, 2) := by decide +kernel
theorem dX10_join_57 : decode cX10_join 57 = .ok (.ifCond .eq 10, 3) := by decide +kernel
theorem dX10_join_60 : decode cX10_join 60 = .ok (.aload_n 0, 1) := by decide +kernel
theorem dX10_join_61 : decode cX10_join 61 = .ok (.iload 5, 2) := by decide +kernel
theorem dX10_join_63 : decode cX10_join 63 = .ok (.invokevirtual 105, 3) := by decide +kernel
theorem dX10_join_66 : decode cX10_join 66 = .ok (.ireturn, 1) := by decide +kernel
theorem dX10_join_67 : decode cX10_join 67 = .ok (.aload_n 0, 1) := by decide +kernel
theorem dX10_join_68 : decode cX10_join 68 = .ok (.getfield 63, 3) := by decide +kernel
theorem dX10_join_71 : decode cX10_join 71 = .ok (.iload_n 1, 1) := by decide +kernel
theorem dX10_join_72 : decode cX10_join 72 = .ok (.iload_n 3, 1) := by decide +kernel
theorem dX10_join_73 : decode cX10_join 73 = .ok (.iastore, 1) := by decide +kernel
theorem dX10_join_74 : decode cX10_join 74 = .ok (.aload_n 0, 1) := by decide +kernel
theorem dX10_join_75 : decode cX10_join 75 = .ok (.getfield 66, 3) := by decide +kernel
theorem dX10_join_78 : decode cX10_join 78 = .ok (.iload_n 1, 1) := by decide +kernel
theorem dX10_join_79 : decode cX10_join 79 = .ok (.iload 4, 2) := by decide +kernel
theorem dX10_join_81 : decode cX10_join 81 = .ok (.iastore, 1) := by decide +kernel
theorem dX10_join_82 : decode cX10_join 82 = .ok (.aload_n 0, 1) := by decide +kernel
theorem dX10_join_83 : decode cX10_join 83 = .ok (.getfield 60, 3) := by decide +kernel
theorem dX10_join_86 : decode cX10_join 86 = .ok (.iload_n 1, 1) := by decide +kernel
theorem dX10_join_87 : decode cX10_join 87 = .ok (.iload_n 2, 1) := by decide +kernel
theorem dX10_join_88 : decode cX10_join 88 = .ok (.iastore, 1) := by decide +kernel
theorem dX10_join_89 : decode cX10_join 89 = .ok (.iconst 1, 1) := by decide +kernel
theorem dX10_join_90 : decode cX10_join 90 = .ok (.ireturn, 1) := by decide +kernel
theorem dX10_letsBy_0 : decode cX10_letsBy 0 = .ok (.iload_n 2, 1) := by decide +kernel
theorem dX10_letsBy_1 : decode cX10_letsBy 1 = .ok (.aload_n 0, 1) := by decide +kernel
theorem dX10_letsBy_2 : decode cX10_letsBy 2 = .ok (.getfield 48, 3) := by decide +kernel
theorem dX10_letsBy_5 : decode cX10_letsBy 5 = .ok (.iload_n 1, 1) := by decide +kernel
theorem dX10_letsBy_6 : decode cX10_letsBy 6 = .ok (.iaload, 1) := by decide +kernel
theorem dX10_letsBy_7 : decode cX10_letsBy 7 = .ok (.if_icmp .le 5, 3) := by decide +kernel
theorem dX10_letsBy_10 : decode cX10_letsBy 10 = .ok (.iconst 0, 1) := by decide +kernel
theorem dX10_letsBy_11 : decode cX10_letsBy 11 = .ok (.ireturn, 1) := by decide +kernel
theorem dX10_letsBy_12 : decode cX10_letsBy 12 = .ok (.aload_n 0, 1) := by decide +kernel
theorem dX10_letsBy_13 : decode cX10_letsBy 13 = .ok (.aload_n 0, 1) := by decide +kernel
theorem dX10_letsBy_14 : decode cX10_letsBy 14 = .ok (.getfield 45, 3) := by decide +kernel
theorem dX10_letsBy_17 : decode cX10_letsBy 17 = .ok (.iload_n 1, 1) := by decide +kernel
theorem dX10_letsBy_18 : decode cX10_letsBy 18 = .ok (.iaload, 1) := by decide +kernel
theorem dX10_letsBy_19 : decode cX10_letsBy 19 = .ok (.iload_n 2, 1) := by decide +kernel
theorem dX10_letsBy_20 : decode cX10_letsBy 20 = .ok (.aload_n 0, 1) := by decide +kernel
theorem dX10_letsBy_21 : decode cX10_letsBy 21 = .ok (.getfield 48, 3) := by decide +kernel
theorem dX10_letsBy_24 : decode cX10_letsBy 24 = .ok (.iload_n 1, 1) := by decide +kernel
theorem dX10_letsBy_25 : decode cX10_letsBy 25 = .ok (.iaload, 1) := by decide +kernel
theorem dX10_letsBy_26 : decode cX10_letsBy 26 = .ok (.iload_n 2, 1) := by decide +kernel
theorem dX10_letsBy_27 : decode cX10_letsBy 27 = .ok (.isub, 1) := by decide +kernel
theorem dX10_letsBy_28 : decode cX10_letsBy 28 = .ok (.invokevirtual 149, 3) := by decide +kernel
theorem dX10_letsBy_31 : decode cX10_letsBy 31 = .ok (.istore_n 3, 1) := by decide +kernel
theorem dX10_letsBy_32 : decode cX10_letsBy 32 = .ok (.iload_n 3, 1) := by decide +kernel
theorem dX10_letsBy_33 : decode cX10_letsBy 33 = .ok (.aload_n 0, 1) := by decide +kernel
theorem dX10_letsBy_34 : decode cX10_letsBy 34 = .ok (.getfield 51, 3) := by decide +kernel
theorem dX10_letsBy_37 : decode cX10_letsBy 37 = .ok (.iload_n 1, 1) := by decide +kernel
theorem dX10_letsBy_38 : decode cX10_letsBy 38 = .ok (.iaload, 1) := by decide +kernel
theorem dX10_letsBy_39 : decode cX10_letsBy 39 = .ok (.if_icmp .lt 17, 3) := by decide +kernel
theorem dX10_letsBy_42 : decode cX10_letsBy 42 = .ok (.iload_n 3, 1) := by decide +kernel
theorem dX10_letsBy_43 : decode cX10_letsBy 43 = .ok (.aload_n 0, 1) := by decide +kernel
theorem dX10_letsBy_44 : decode cX10_letsBy 44 = .ok (.getfield 54, 3) := by decide +kernel
theorem dX10_letsBy_47 : decode cX10_letsBy 47 = .ok (.iload_n 1, 1) := by decide +kernel
theorem dX10_letsBy_48 : decode cX10_letsBy 48 = .ok (.iaload, 1) := by decide +kernel
theorem dX10_letsBy_49 : decode cX10_letsBy 49 = .ok (.if_icmp .gt 7, 3) := by decide +kernel
theorem dX10_letsBy_52 : decode cX10_letsBy 52 = .ok (.iconst 1, 1) := by decide +kernel
theorem dX10_letsBy_53 : decode cX10_letsBy 53 = .ok (.goto 4, 3) := by decide +kernel
theorem dX10_letsBy_56 : decode cX10_letsBy 56 = .ok (.iconst 0, 1) := by decide +kernel
theorem dX10_letsBy_57 : decode cX10_letsBy 57 = .ok (.ireturn, 1) := by decide +kernel
theorem dX10_finds_0 : decode cX10_finds 0 = .ok (.aload_n 0, 1) := by decide +kernel
theorem dX10_finds_1 : decode cX10_finds 1 = .ok (.getfield 41, 3) := by decide +kernel
theorem dX10_finds_4 : decode cX10_finds 4 = .ok (.ifCond .ne 4, 3) := by decide +kernel
theorem dX10_finds_7 : decode cX10_finds 7 = .ok (.return_, 1) := by decide +kernel
theorem dX10_finds_8 : decode cX10_finds 8 = .ok (.aload_n 0, 1) := by decide +kernel
theorem dX10_finds_9 : decode cX10_finds 9 = .ok (.iconst 0, 1) := by decide +kernel
theorem dX10_finds_10 : decode cX10_finds 10 = .ok (.putfield 41, 3) := by decide +kernel
theorem dX10_finds_13 : decode cX10_finds 13 = .ok (.iconst 0, 1) := by decide +kernel
theorem dX10_finds_14 : decode cX10_finds 14 = .ok (.istore_n 1, 1) := by decide +kernel
theorem dX10_finds_15 : decode cX10_finds 15 = .ok (.iload_n 1, 1) := by decide +kernel
theorem dX10_finds_16 : decode cX10_finds 16 = .ok (.aload_n 0, 1) := by decide +kernel
theorem dX10_finds_17 : decode cX10_finds 17 = .ok (.getfield 152, 3) := by decide +kernel
theorem dX10_finds_20 : decode cX10_finds 20 = .ok (.if_icmp .ge 42, 3) := by decide +kernel
theorem dX10_finds_23 : decode cX10_finds 23 = .ok (.iconst 0, 1) := by decide +kernel
theorem dX10_finds_24 : decode cX10_finds 24 = .ok (.istore_n 2, 1) := by decide +kernel
theorem dX10_finds_25 : decode cX10_finds 25 = .ok (.iload_n 2, 1) := by decide +kernel
theorem dX10_finds_26 : decode cX10_finds 26 = .ok (.sipush 300, 3) := by decide +kernel
theorem dX10_finds_29 : decode cX10_finds 29 = .ok (.if_icmp .ge 27, 3) := by decide +kernel
theorem dX10_finds_32 : decode cX10_finds 32 = .ok (.aload_n 0, 1) := by decide +kernel
theorem dX10_finds_33 : decode cX10_finds 33 = .ok (.getfield 69, 3) := by decide +kernel
theorem dX10_finds_36 : decode cX10_finds 36 = .ok (.sipush 300, 3) := by decide +kernel
theorem dX10_finds_39 : decode cX10_finds 39 = .ok (.iload_n 1, 1) := by decide +kernel
theorem dX10_finds_40 : decode cX10_finds 40 = .ok (.imul, 1) := by decide +kernel
theorem dX10_finds_41 : decode cX10_finds 41 = .ok (.iload_n 2, 1) := by decide +kernel
theorem dX10_finds_42 : decode cX10_finds 42 = .ok (.iadd, 1) := by decide +kernel
theorem dX10_finds_43 : decode cX10_finds 43 = .ok (.aload_n 0, 1) := by decide +kernel
theorem dX10_finds_44 : decode cX10_finds 44 = .ok (.iload_n 1, 1) := by decide +kernel
theorem dX10_finds_45 : decode cX10_finds 45 = .ok (.iload_n 2, 1) := by decide +kernel
theorem dX10_finds_46 : decode cX10_finds 46 = .ok (.invokevirtual 155, 3) := by decide +kernel
theorem dX10_finds_49 : decode cX10_finds 49 = .ok (.bastore, 1) := by decide +kernel
theorem dX10_finds_50 : decode cX10_finds 50 = .ok (.iinc 2 1, 3) := by decide +kernel
theorem dX10_finds_53 : decode cX10_finds 53 = .ok (.goto (-28), 3) := by decide +kernel
theorem dX10_finds_56 : decode cX10_finds 56 = .ok (.iinc 1 1, 3) := by decide +kernel
theorem dX10_finds_59 : decode cX10_finds 59 = .ok (.goto (-44), 3) := by decide +kernel
theorem dX10_finds_62 : decode cX10_finds 62 = .ok (.return_, 1) := by decide +kernel
theorem dX10_counts_0 : decode cX10_counts 0 = .ok (.aload_n 0, 1) := by decide +kernel
theorem dX10_counts_1 : decode cX10_counts 1 = .ok (.getfield 57, 3) := by decide +kernel
theorem dX10_counts_4 : decode cX10_counts 4 = .ok (.iload_n 1, 1) := by decide +kernel
theorem dX10_counts_5 : decode cX10_counts 5 = .ok (.iaload, 1) := by decide +kernel
theorem dX10_counts_6 : decode cX10_counts 6 = .ok (.ifCond .ne 18, 3) := by decide +kernel
theorem dX10_counts_9 : decode cX10_counts 9 = .ok (.aload_n 0, 1) := by decide +kernel
theorem dX10_counts_10 : decode cX10_counts 10 = .ok (.getfield 159, 3) := by decide +kernel
theorem dX10_counts_13 : decode cX10_counts 13 = .ok (.iload_n 1, 1) := by decide +kernel
theorem dX10_counts_14 : decode cX10_counts 14 = .ok (.ishr, 1) := by decide +kernel
theorem dX10_counts_15 : decode cX10_counts 15 = .ok (.iconst 1, 1) := by decide +kernel
theorem dX10_counts_16 : decode cX10_counts 16 = .ok (.iand, 1) := by decide +kernel
theorem dX10_counts_17 : decode cX10_counts 17 = .ok (.ifCond .ne 7, 3) := by decide +kernel
theorem dX10_counts_20 : decode cX10_counts 20 = .ok (.iconst 1, 1) := by decide +kernel
theorem dX10_counts_21 : decode cX10_counts 21 = .ok (.goto 4, 3) := by decide +kernel
theorem dX10_counts_24 : decode cX10_counts 24 = .ok (.iconst 0, 1) := by decide +kernel
theorem dX10_counts_25 : decode cX10_counts 25 = .ok (.ireturn, 1) := by decide +kernel
theorem dX10_canOf_0 : decode cX10_canOf 0 = .ok (.iload_n 2, 1) := by decide +kernel
theorem dX10_canOf_1 : decode cX10_canOf 1 = .ok (.aload_n 0, 1) := by decide +kernel
theorem dX10_canOf_2 : decode cX10_canOf 2 = .ok (.getfield 73, 3) := by decide +kernel
theorem dX10_canOf_5 : decode cX10_canOf 5 = .ok (.iload_n 1, 1) := by decide +kernel
theorem dX10_canOf_6 : decode cX10_canOf 6 = .ok (.iaload, 1) := by decide +kernel
theorem dX10_canOf_7 : decode cX10_canOf 7 = .ok (.if_icmp .lt 13, 3) := by decide +kernel
theorem dX10_canOf_10 : decode cX10_canOf 10 = .ok (.iload_n 2, 1) := by decide +kernel
theorem dX10_canOf_11 : decode cX10_canOf 11 = .ok (.aload_n 0, 1) := by decide +kernel
theorem dX10_canOf_12 : decode cX10_canOf 12 = .ok (.getfield 76, 3) := by decide +kernel
theorem dX10_canOf_15 : decode cX10_canOf 15 = .ok (.iload_n 1, 1) := by decide +kernel
theorem dX10_canOf_16 : decode cX10_canOf 16 = .ok (.iaload, 1) := by decide +kernel
theorem dX10_canOf_17 : decode cX10_canOf 17 = .ok (.if_icmp .le 5, 3) := by decide +kernel
theorem dX10_canOf_20 : decode cX10_canOf 20 = .ok (.iconst 0, 1) := by decide +kernel
theorem dX10_canOf_21 : decode cX10_canOf 21 = .ok (.ireturn, 1) := by decide +kernel
theorem dX10_canOf_22 : decode cX10_canOf 22 = .ok (.iconst 0, 1) := by decide +kernel
theorem dX10_canOf_23 : decode cX10_canOf 23 = .ok (.istore_n 3, 1) := by decide +kernel
theorem dX10_canOf_24 : decode cX10_canOf 24 = .ok (.iload_n 3, 1) := by decide +kernel
theorem dX10_canOf_25 : decode cX10_canOf 25 = .ok (.aload_n 0, 1) := by decide +kernel
theorem dX10_canOf_26 : decode cX10_canOf 26 = .ok (.getfield 152, 3) := by decide +kernel
theorem dX10_canOf_29 : decode cX10_canOf 29 = .ok (.if_icmp .ge 44, 3) := by decide +kernel
theorem dX10_canOf_32 : decode cX10_canOf 32 = .ok (.aload_n 0, 1) := by decide +kernel
theorem dX10_canOf_33 : decode cX10_canOf 33 = .ok (.getfield 45, 3) := by decide +kernel
theorem dX10_canOf_36 : decode cX10_canOf 36 = .ok (.iload_n 3, 1) := by decide +kernel
theorem dX10_canOf_37 : decode cX10_canOf 37 = .ok (.iaload, 1) := by decide +kernel
theorem dX10_canOf_38 : decode cX10_canOf 38 = .ok (.iload_n 1, 1) := by decide +kernel
theorem dX10_canOf_39 : decode cX10_canOf 39 = .ok (.if_icmp .ne 28, 3) := by decide +kernel
theorem dX10_canOf_42 : decode cX10_canOf 42 = .ok (.aload_n 0, 1) := by decide +kernel
theorem dX10_canOf_43 : decode cX10_canOf 43 = .ok (.iload_n 3, 1) := by decide +kernel
theorem dX10_canOf_44 : decode cX10_canOf 44 = .ok (.invokevirtual 162, 3) := by decide +kernel
theorem dX10_canOf_47 : decode cX10_canOf 47 = .ok (.ifCond .eq 20, 3) := by decide +kernel
theorem dX10_canOf_50 : decode cX10_canOf 50 = .ok (.aload_n 0, 1) := by decide +kernel
theorem dX10_canOf_51 : decode cX10_canOf 51 = .ok (.getfield 69, 3) := by decide +kernel
theorem dX10_canOf_54 : decode cX10_canOf 54 = .ok (.sipush 300, 3) := by decide +kernel
theorem dX10_canOf_57 : decode cX10_canOf 57 = .ok (.iload_n 3, 1) := by decide +kernel
theorem dX10_canOf_58 : decode cX10_canOf 58 = .ok (.imul, 1) := by decide +kernel
theorem dX10_canOf_59 : decode cX10_canOf 59 = .ok (.iload_n 2, 1) := by decide +kernel
theorem dX10_canOf_60 : decode cX10_canOf 60 = .ok (.iadd, 1) := by decide +kernel
theorem dX10_canOf_61 : decode cX10_canOf 61 = .ok (.baload, 1) := by decide +kernel
theorem dX10_canOf_62 : decode cX10_canOf 62 = .ok (.ifCond .ne 5, 3) := by decide +kernel
theorem dX10_canOf_65 : decode cX10_canOf 65 = .ok (.iconst 0, 1) := by decide +kernel
theorem dX10_canOf_66 : decode cX10_canOf 66 = .ok (.ireturn, 1) := by decide +kernel
theorem dX10_canOf_67 : decode cX10_canOf 67 = .ok (.iinc 3 1, 3) := by decide +kernel
theorem dX10_canOf_70 : decode cX10_canOf 70 = .ok (.goto (-46), 3) := by decide +kernel
theorem dX10_canOf_73 : decode cX10_canOf 73 = .ok (.iconst 1, 1) := by decide +kernel
theorem dX10_canOf_74 : decode cX10_canOf 74 = .ok (.ireturn, 1) := by decide +kernel
theorem dX10_frees_0 : decode cX10_frees 0 = .ok (.aload_n 0, 1) := by decide +kernel
theorem dX10_frees_1 : decode cX10_frees 1 = .ok (.iconst 0, 1) := by decide +kernel
theorem dX10_frees_2 : decode cX10_frees 2 = .ok (.putfield 159, 3) := by decide +kernel
theorem dX10_frees_5 : decode cX10_frees 5 = .ok (.iconst 0, 1) := by decide +kernel
theorem dX10_frees_6 : decode cX10_frees 6 = .ok (.istore_n 1, 1) := by decide +kernel
theorem dX10_frees_7 : decode cX10_frees 7 = .ok (.iload_n 1, 1) := by decide +kernel
theorem dX10_frees_8 : decode cX10_frees 8 = .ok (.bipush 6, 2) := by decide +kernel
theorem dX10_frees_10 : decode cX10_frees 10 = .ok (.if_icmp .ge 25, 3) := by decide +kernel
theorem dX10_frees_13 : decode cX10_frees 13 = .ok (.aload_n 0, 1) := by decide +kernel
theorem dX10_frees_14 : decode cX10_frees 14 = .ok (.getfield 73, 3) := by decide +kernel
theorem dX10_frees_17 : decode cX10_frees 17 = .ok (.iload_n 1, 1) := by decide +kernel
theorem dX10_frees_18 : decode cX10_frees 18 = .ok (.iconst 0, 1) := by decide +kernel
theorem dX10_frees_19 : decode cX10_frees 19 = .ok (.iastore, 1) := by decide +kernel
theorem dX10_frees_20 : decode cX10_frees 20 = .ok (.aload_n 0, 1) := by decide +kernel
theorem dX10_frees_21 : decode cX10_frees 21 = .ok (.getfield 76, 3) := by decide +kernel
theorem dX10_frees_24 : decode cX10_frees 24 = .ok (.iload_n 1, 1) := by decide +kernel
theorem dX10_frees_25 : decode cX10_frees 25 = .ok (.sipush 299, 3) := by decide +kernel
theorem dX10_frees_28 : decode cX10_frees 28 = .ok (.iastore, 1) := by decide +kernel
theorem dX10_frees_29 : decode cX10_frees 29 = .ok (.iinc 1 1, 3) := by decide +kernel
theorem dX10_frees_32 : decode cX10_frees 32 = .ok (.goto (-25), 3) := by decide +kernel
theorem dX10_frees_35 : decode cX10_frees 35 = .ok (.return_, 1) := by decide +kernel
theorem dX10_between_0 : decode cX10_between 0 = .ok (.iload_n 1, 1) := by decide +kernel
theorem dX10_between_1 : decode cX10_between 1 = .ok (.ifCond .ge 7, 3) := by decide +kernel
theorem dX10_between_4 : decode cX10_between 4 = .ok (.iconst 0, 1) := by decide +kernel
theorem dX10_between_5 : decode cX10_between 5 = .ok (.goto 4, 3) := by decide +kernel
theorem dX10_between_8 : decode cX10_between 8 = .ok (.iload_n 1, 1) := by decide +kernel
theorem dX10_between_9 : decode cX10_between 9 = .ok (.istore_n 3, 1) := by decide +kernel
theorem dX10_between_10 : decode cX10_between 10 = .ok (.iload_n 2, 1) := by decide +kernel
theorem dX10_between_11 : decode cX10_between 11 = .ok (.sipush 300, 3) := by decide +kernel
theorem dX10_between_14 : decode cX10_between 14 = .ok (.if_icmp .lt 9, 3) := by decide +kernel
theorem dX10_between_17 : decode cX10_between 17 = .ok (.sipush 299, 3) := by decide +kernel
theorem dX10_between_20 : decode cX10_between 20 = .ok (.goto 4, 3) := by decide +kernel
theorem dX10_between_23 : decode cX10_between 23 = .ok (.iload_n 2, 1) := by decide +kernel
theorem dX10_between_24 : decode cX10_between 24 = .ok (.istore 4, 2) := by decide +kernel
theorem dX10_between_26 : decode cX10_between 26 = .ok (.iload_n 3, 1) := by decide +kernel
theorem dX10_between_27 : decode cX10_between 27 = .ok (.iload 4, 2) := by decide +kernel
theorem dX10_between_29 : decode cX10_between 29 = .ok (.if_icmp .le 7, 3) := by decide +kernel
theorem dX10_between_32 : decode cX10_between 32 = .ok (.lconst 0, 1) := by decide +kernel
theorem dX10_between_33 : decode cX10_between 33 = .ok (.goto 19, 3) := by decide +kernel
theorem dX10_between_36 : decode cX10_between 36 = .ok (.aload_n 0, 1) := by decide +kernel
theorem dX10_between_37 : decode cX10_between 37 = .ok (.getfield 83, 3) := by decide +kernel
theorem dX10_between_40 : decode cX10_between 40 = .ok (.iload 4, 2) := by decide +kernel
theorem dX10_between_42 : decode cX10_between 42 = .ok (.iconst 1, 1) := by decide +kernel
theorem dX10_between_43 : decode cX10_between 43 = .ok (.iadd, 1) := by decide +kernel
theorem dX10_between_44 : decode cX10_between 44 = .ok (.laload, 1) := by decide +kernel
theorem dX10_between_45 : decode cX10_between 45 = .ok (.aload_n 0, 1) := by decide +kernel
theorem dX10_between_46 : decode cX10_between 46 = .ok (.getfield 83, 3) := by decide +kernel
theorem dX10_between_49 : decode cX10_between 49 = .ok (.iload_n 3, 1) := by decide +kernel
theorem dX10_between_50 : decode cX10_between 50 = .ok (.laload, 1) := by decide +kernel
theorem dX10_between_51 : decode cX10_between 51 = .ok (.lsub, 1) := by decide +kernel
theorem dX10_between_52 : decode cX10_between 52 = .ok (.lreturn, 1) := by decide +kernel
theorem dX10_joined_0 : decode cX10_joined 0 = .ok (.aload_n 0, 1) := by decide +kernel
theorem dX10_joined_1 : decode cX10_joined 1 = .ok (.getfield 66, 3) := by decide +kernel
theorem dX10_joined_4 : decode cX10_joined 4 = .ok (.iload_n 1, 1) := by decide +kernel
theorem dX10_joined_5 : decode cX10_joined 5 = .ok (.iaload, 1) := by decide +kernel
theorem dX10_joined_6 : decode cX10_joined 6 = .ok (.istore_n 3, 1) := by decide +kernel
theorem dX10_joined_7 : decode cX10_joined 7 = .ok (.aload_n 0, 1) := by decide +kernel
theorem dX10_joined_8 : decode cX10_joined 8 = .ok (.getfield 63, 3) := by decide +kernel
theorem dX10_joined_11 : decode cX10_joined 11 = .ok (.iload_n 1, 1) := by decide +kernel
theorem dX10_joined_12 : decode cX10_joined 12 = .ok (.iaload, 1) := by decide +kernel
theorem dX10_joined_13 : decode cX10_joined 13 = .ok (.tableswitch 58 0 2 #[27, 38, 49], 27) := by decide +kernel
theorem dX10_joined_40 : decode cX10_joined 40 = .ok (.aload_n 0, 1) := by decide +kernel
theorem dX10_joined_41 : decode cX10_joined 41 = .ok (.iload_n 2, 1) := by decide +kernel
theorem dX10_joined_42 : decode cX10_joined 42 = .ok (.iload_n 3, 1) := by decide +kernel
theorem dX10_joined_43 : decode cX10_joined 43 = .ok (.iadd, 1) := by decide +kernel
theorem dX10_joined_44 : decode cX10_joined 44 = .ok (.iload_n 2, 1) := by decide +kernel
theorem dX10_joined_45 : decode cX10_joined 45 = .ok (.iload_n 3, 1) := by decide +kernel
theorem dX10_joined_46 : decode cX10_joined 46 = .ok (.iadd, 1) := by decide +kernel
theorem dX10_joined_47 : decode cX10_joined 47 = .ok (.invokevirtual 165, 3) := by decide +kernel
theorem dX10_joined_50 : decode cX10_joined 50 = .ok (.lreturn, 1) := by decide +kernel
theorem dX10_joined_51 : decode cX10_joined 51 = .ok (.aload_n 0, 1) := by decide +kernel
theorem dX10_joined_52 : decode cX10_joined 52 = .ok (.iload_n 2, 1) := by decide +kernel
theorem dX10_joined_53 : decode cX10_joined 53 = .ok (.iload_n 3, 1) := by decide +kernel
theorem dX10_joined_54 : decode cX10_joined 54 = .ok (.iadd, 1) := by decide +kernel
theorem dX10_joined_55 : decode cX10_joined 55 = .ok (.sipush 299, 3) := by decide +kernel
theorem dX10_joined_58 : decode cX10_joined 58 = .ok (.invokevirtual 165, 3) := by decide +kernel
theorem dX10_joined_61 : decode cX10_joined 61 = .ok (.lreturn, 1) := by decide +kernel
theorem dX10_joined_62 : decode cX10_joined 62 = .ok (.aload_n 0, 1) := by decide +kernel
theorem dX10_joined_63 : decode cX10_joined 63 = .ok (.iconst 0, 1) := by decide +kernel
theorem dX10_joined_64 : decode cX10_joined 64 = .ok (.iload_n 2, 1) := by decide +kernel
theorem dX10_joined_65 : decode cX10_joined 65 = .ok (.iload_n 3, 1) := by decide +kernel
theorem dX10_joined_66 : decode cX10_joined 66 = .ok (.isub, 1) := by decide +kernel
theorem dX10_joined_67 : decode cX10_joined 67 = .ok (.invokevirtual 165, 3) := by decide +kernel
theorem dX10_joined_70 : decode cX10_joined 70 = .ok (.lreturn, 1) := by decide +kernel
theorem dX10_joined_71 : decode cX10_joined 71 = .ok (.aload_n 0, 1) := by decide +kernel
theorem dX10_joined_72 : decode cX10_joined 72 = .ok (.iload_n 2, 1) := by decide +kernel
theorem dX10_joined_73 : decode cX10_joined 73 = .ok (.iload_n 3, 1) := by decide +kernel
theorem dX10_joined_74 : decode cX10_joined 74 = .ok (.isub, 1) := by decide +kernel
theorem dX10_joined_75 : decode cX10_joined 75 = .ok (.iload_n 2, 1) := by decide +kernel
theorem dX10_joined_76 : decode cX10_joined 76 = .ok (.iload_n 3, 1) := by decide +kernel
theorem dX10_joined_77 : decode cX10_joined 77 = .ok (.iadd, 1) := by decide +kernel
theorem dX10_joined_78 : decode cX10_joined 78 = .ok (.invokevirtual 165, 3) := by decide +kernel
theorem dX10_joined_81 : decode cX10_joined 81 = .ok (.lreturn, 1) := by decide +kernel
theorem dX10_waysOf_0 : decode cX10_waysOf 0 = .ok (.iconst 0, 1) := by decide +kernel
theorem dX10_waysOf_1 : decode cX10_waysOf 1 = .ok (.istore_n 1, 1) := by decide +kernel
theorem dX10_waysOf_2 : decode cX10_waysOf 2 = .ok (.iload_n 1, 1) := by decide +kernel
theorem dX10_waysOf_3 : decode cX10_waysOf 3 = .ok (.sipush 300, 3) := by decide +kernel
theorem dX10_waysOf_6 : decode cX10_waysOf 6 = .ok (.aload_n 0, 1) := by decide +kernel
theorem dX10_waysOf_7 : decode cX10_waysOf 7 = .ok (.getfield 125, 3) := by decide +kernel
theorem dX10_waysOf_10 : decode cX10_waysOf 10 = .ok (.imul, 1) := by decide +kernel
theorem dX10_waysOf_11 : decode cX10_waysOf 11 = .ok (.if_icmp .ge 16, 3) := by decide +kernel
theorem dX10_waysOf_14 : decode cX10_waysOf 14 = .ok (.aload_n 0, 1) := by decide +kernel
theorem dX10_waysOf_15 : decode cX10_waysOf 15 = .ok (.getfield 79, 3) := by decide +kernel
theorem dX10_waysOf_18 : decode cX10_waysOf 18 = .ok (.iload_n 1, 1) := by decide +kernel
theorem dX10_waysOf_19 : decode cX10_waysOf 19 = .ok (.lconst 1, 1) := by decide +kernel
theorem dX10_waysOf_20 : decode cX10_waysOf 20 = .ok (.lastore, 1) := by decide +kernel
theorem dX10_waysOf_21 : decode cX10_waysOf 21 = .ok (.iinc 1 1, 3) := by decide +kernel
theorem dX10_waysOf_24 : decode cX10_waysOf 24 = .ok (.goto (-22), 3) := by decide +kernel
theorem dX10_waysOf_27 : decode cX10_waysOf 27 = .ok (.lconst 1, 1) := by decide +kernel
theorem dX10_waysOf_28 : decode cX10_waysOf 28 = .ok (.lstore_n 1, 1) := by decide +kernel
theorem dX10_waysOf_29 : decode cX10_waysOf 29 = .ok (.aload_n 0, 1) := by decide +kernel
theorem dX10_waysOf_30 : decode cX10_waysOf 30 = .ok (.getfield 125, 3) := by decide +kernel
theorem dX10_waysOf_33 : decode cX10_waysOf 33 = .ok (.iconst 1, 1) := by decide +kernel
theorem dX10_waysOf_34 : decode cX10_waysOf 34 = .ok (.isub, 1) := by decide +kernel
theorem dX10_waysOf_35 : decode cX10_waysOf 35 = .ok (.istore_n 3, 1) := by decide +kernel
theorem dX10_waysOf_36 : decode cX10_waysOf 36 = .ok (.iload_n 3, 1) := by decide +kernel
theorem dX10_waysOf_37 : decode cX10_waysOf 37 = .ok (.ifCond .lt 145, 3) := by decide +kernel
theorem dX10_waysOf_40 : decode cX10_waysOf 40 = .ok (.aload_n 0, 1) := by decide +kernel
theorem dX10_waysOf_41 : decode cX10_waysOf 41 = .ok (.getfield 83, 3) := by decide +kernel
theorem dX10_waysOf_44 : decode cX10_waysOf 44 = .ok (.iconst 0, 1) := by decide +kernel
theorem dX10_waysOf_45 : decode cX10_waysOf 45 = .ok (.lconst 0, 1) := by decide +kernel
theorem dX10_waysOf_46 : decode cX10_waysOf 46 = .ok (.lastore, 1) := by decide +kernel
theorem dX10_waysOf_47 : decode cX10_waysOf 47 = .ok (.iconst 0, 1) := by decide +kernel
theorem dX10_waysOf_48 : decode cX10_waysOf 48 = .ok (.istore 4, 2) := by decide +kernel
theorem dX10_waysOf_50 : decode cX10_waysOf 50 = .ok (.iload 4, 2) := by decide +kernel
theorem dX10_waysOf_52 : decode cX10_waysOf 52 = .ok (.sipush 300, 3) := by decide +kernel
theorem dX10_waysOf_55 : decode cX10_waysOf 55 = .ok (.if_icmp .ge 53, 3) := by decide +kernel
theorem dX10_waysOf_58 : decode cX10_waysOf 58 = .ok (.aload_n 0, 1) := by decide +kernel
theorem dX10_waysOf_59 : decode cX10_waysOf 59 = .ok (.getfield 83, 3) := by decide +kernel
theorem dX10_waysOf_62 : decode cX10_waysOf 62 = .ok (.iload 4, 2) := by decide +kernel
theorem dX10_waysOf_64 : decode cX10_waysOf 64 = .ok (.iconst 1, 1) := by decide +kernel
theorem dX10_waysOf_65 : decode cX10_waysOf 65 = .ok (.iadd, 1) := by decide +kernel
theorem dX10_waysOf_66 : decode cX10_waysOf 66 = .ok (.aload_n 0, 1) := by decide +kernel
theorem dX10_waysOf_67 : decode cX10_waysOf 67 = .ok (.getfield 83, 3) := by decide +kernel
theorem dX10_waysOf_70 : decode cX10_waysOf 70 = .ok (.iload 4, 2) := by decide +kernel
theorem dX10_waysOf_72 : decode cX10_waysOf 72 = .ok (.laload, 1) := by decide +kernel
theorem dX10_waysOf_73 : decode cX10_waysOf 73 = .ok (.aload_n 0, 1) := by decide +kernel
theorem dX10_waysOf_74 : decode cX10_waysOf 74 = .ok (.iload_n 3, 1) := by decide +kernel
theorem dX10_waysOf_75 : decode cX10_waysOf 75 = .ok (.iload 4, 2) := by decide +kernel
theorem dX10_waysOf_77 : decode cX10_waysOf 77 = .ok (.invokevirtual 169, 3) := by decide +kernel
theorem dX10_waysOf_80 : decode cX10_waysOf 80 = .ok (.ifCond .eq 19, 3) := by decide +kernel
theorem dX10_waysOf_83 : decode cX10_waysOf 83 = .ok (.aload_n 0, 1) := by decide +kernel
theorem dX10_waysOf_84 : decode cX10_waysOf 84 = .ok (.getfield 79, 3) := by decide +kernel
theorem dX10_waysOf_87 : decode cX10_waysOf 87 = .ok (.sipush 300, 3) := by decide +kernel
theorem dX10_waysOf_90 : decode cX10_waysOf 90 = .ok (.iload_n 3, 1) := by decide +kernel
theorem dX10_waysOf_91 : decode cX10_waysOf 91 = .ok (.imul, 1) := by decide +kernel
theorem dX10_waysOf_92 : decode cX10_waysOf 92 = .ok (.iload 4, 2) := by decide +kernel
theorem dX10_waysOf_94 : decode cX10_waysOf 94 = .ok (.iadd, 1) := by decide +kernel
theorem dX10_waysOf_95 : decode cX10_waysOf 95 = .ok (.laload, 1) := by decide +kernel
theorem dX10_waysOf_96 : decode cX10_waysOf 96 = .ok (.goto 4, 3) := by decide +kernel
theorem dX10_waysOf_99 : decode cX10_waysOf 99 = .ok (.lconst 0, 1) := by decide +kernel
theorem dX10_waysOf_100 : decode cX10_waysOf 100 = .ok (.ladd, 1) := by decide +kernel
theorem dX10_waysOf_101 : decode cX10_waysOf 101 = .ok (.lastore, 1) := by decide +kernel
theorem dX10_waysOf_102 : decode cX10_waysOf 102 = .ok (.iinc 4 1, 3) := by decide +kernel
theorem dX10_waysOf_105 : decode cX10_waysOf 105 = .ok (.goto (-55), 3) := by decide +kernel
theorem dX10_waysOf_108 : decode cX10_waysOf 108 = .ok (.aload_n 0, 1) := by decide +kernel
theorem dX10_waysOf_109 : decode cX10_waysOf 109 = .ok (.getfield 60, 3) := by decide +kernel
theorem dX10_waysOf_112 : decode cX10_waysOf 112 = .ok (.iload_n 3, 1) := by decide +kernel
theorem dX10_waysOf_113 : decode cX10_waysOf 113 = .ok (.iaload, 1) := by decide +kernel
theorem dX10_waysOf_114 : decode cX10_waysOf 114 = .ok (.ifCond .ge 17, 3) := by decide +kernel
theorem dX10_waysOf_117 : decode cX10_waysOf 117 = .ok (.lload_n 1, 1) := by decide +kernel
theorem dX10_waysOf_118 : decode cX10_waysOf 118 = .ok (.aload_n 0, 1) := by decide +kernel
theorem dX10_waysOf_119 : decode cX10_waysOf 119 = .ok (.getfield 83, 3) := by decide +kernel
theorem dX10_waysOf_122 : decode cX10_waysOf 122 = .ok (.sipush 300, 3) := by decide +kernel
theorem dX10_waysOf_125 : decode cX10_waysOf 125 = .ok (.laload, 1) := by decide +kernel
theorem dX10_waysOf_126 : decode cX10_waysOf 126 = .ok (.lmul, 1) := by decide +kernel
theorem dX10_waysOf_127 : decode cX10_waysOf 127 = .ok (.lstore_n 1, 1) := by decide +kernel
theorem dX10_waysOf_128 : decode cX10_waysOf 128 = .ok (.goto 48, 3) := by decide +kernel
theorem dX10_waysOf_131 : decode cX10_waysOf 131 = .ok (.iconst 0, 1) := by decide +kernel
theorem dX10_waysOf_132 : decode cX10_waysOf 132 = .ok (.istore 4, 2) := by decide +kernel
theorem dX10_waysOf_134 : decode cX10_waysOf 134 = .ok (.iload 4, 2) := by decide +kernel
theorem dX10_waysOf_136 : decode cX10_waysOf 136 = .ok (.sipush 300, 3) := by decide +kernel
theorem dX10_waysOf_139 : decode cX10_waysOf 139 = .ok (.if_icmp .ge 37, 3) := by decide +kernel
theorem dX10_waysOf_142 : decode cX10_waysOf 142 = .ok (.aload_n 0, 1) := by decide +kernel
theorem dX10_waysOf_143 : decode cX10_waysOf 143 = .ok (.getfield 79, 3) := by decide +kernel
theorem dX10_waysOf_146 : decode cX10_waysOf 146 = .ok (.sipush 300, 3) := by decide +kernel
theorem dX10_waysOf_149 : decode cX10_waysOf 149 = .ok (.aload_n 0, 1) := by decide +kernel
theorem dX10_waysOf_150 : decode cX10_waysOf 150 = .ok (.getfield 60, 3) := by decide +kernel
theorem dX10_waysOf_153 : decode cX10_waysOf 153 = .ok (.iload_n 3, 1) := by decide +kernel
theorem dX10_waysOf_154 : decode cX10_waysOf 154 = .ok (.iaload, 1) := by decide +kernel
theorem dX10_waysOf_155 : decode cX10_waysOf 155 = .ok (.imul, 1) := by decide +kernel
theorem dX10_waysOf_156 : decode cX10_waysOf 156 = .ok (.iload 4, 2) := by decide +kernel
theorem dX10_waysOf_158 : decode cX10_waysOf 158 = .ok (.iadd, 1) := by decide +kernel
theorem dX10_waysOf_159 : decode cX10_waysOf 159 = .ok (.dup2, 1) := by decide +kernel
theorem dX10_waysOf_160 : decode cX10_waysOf 160 = .ok (.laload, 1) := by decide +kernel
theorem dX10_waysOf_161 : decode cX10_waysOf 161 = .ok (.aload_n 0, 1) := by decide +kernel
theorem dX10_waysOf_162 : decode cX10_waysOf 162 = .ok (.iload_n 3, 1) := by decide +kernel
theorem dX10_waysOf_163 : decode cX10_waysOf 163 = .ok (.iload 4, 2) := by decide +kernel
theorem dX10_waysOf_165 : decode cX10_waysOf 165 = .ok (.invokevirtual 172, 3) := by decide +kernel
theorem dX10_waysOf_168 : decode cX10_waysOf 168 = .ok (.lmul, 1) := by decide +kernel
theorem dX10_waysOf_169 : decode cX10_waysOf 169 = .ok (.lastore, 1) := by decide +kernel
theorem dX10_waysOf_170 : decode cX10_waysOf 170 = .ok (.iinc 4 1, 3) := by decide +kernel
theorem dX10_waysOf_173 : decode cX10_waysOf 173 = .ok (.goto (-39), 3) := by decide +kernel
theorem dX10_waysOf_176 : decode cX10_waysOf 176 = .ok (.iinc 3 (-1), 3) := by decide +kernel
theorem dX10_waysOf_179 : decode cX10_waysOf 179 = .ok (.goto (-143), 3) := by decide +kernel
theorem dX10_waysOf_182 : decode cX10_waysOf 182 = .ok (.lload_n 1, 1) := by decide +kernel
theorem dX10_waysOf_183 : decode cX10_waysOf 183 = .ok (.lreturn, 1) := by decide +kernel
theorem dX10_waysWith_0 : decode cX10_waysWith 0 = .ok (.aload_n 0, 1) := by decide +kernel
theorem dX10_waysWith_1 : decode cX10_waysWith 1 = .ok (.invokevirtual 175, 3) := by decide +kernel
theorem dX10_waysWith_4 : decode cX10_waysWith 4 = .ok (.aload_n 0, 1) := by decide +kernel
theorem dX10_waysWith_5 : decode cX10_waysWith 5 = .ok (.getfield 73, 3) := by decide +kernel
theorem dX10_waysWith_8 : decode cX10_waysWith 8 = .ok (.iload_n 1, 1) := by decide +kernel
theorem dX10_waysWith_9 : decode cX10_waysWith 9 = .ok (.iload_n 2, 1) := by decide +kernel
theorem dX10_waysWith_10 : decode cX10_waysWith 10 = .ok (.iastore, 1) := by decide +kernel
theorem dX10_waysWith_11 : decode cX10_waysWith 11 = .ok (.aload_n 0, 1) := by decide +kernel
theorem dX10_waysWith_12 : decode cX10_waysWith 12 = .ok (.getfield 76, 3) := by decide +kernel
theorem dX10_waysWith_15 : decode cX10_waysWith 15 = .ok (.iload_n 1, 1) := by decide +kernel
theorem dX10_waysWith_16 : decode cX10_waysWith 16 = .ok (.iload_n 2, 1) := by decide +kernel
theorem dX10_waysWith_17 : decode cX10_waysWith 17 = .ok (.iastore, 1) := by decide +kernel
theorem dX10_waysWith_18 : decode cX10_waysWith 18 = .ok (.aload_n 0, 1) := by decide +kernel
theorem dX10_waysWith_19 : decode cX10_waysWith 19 = .ok (.invokevirtual 178, 3) := by decide +kernel
theorem dX10_waysWith_22 : decode cX10_waysWith 22 = .ok (.lreturn, 1) := by decide +kernel
theorem dX10_alone_0 : decode cX10_alone 0 = .ok (.aload_n 0, 1) := by decide +kernel
theorem dX10_alone_1 : decode cX10_alone 1 = .ok (.iload_n 1, 1) := by decide +kernel
theorem dX10_alone_2 : decode cX10_alone 2 = .ok (.invokevirtual 132, 3) := by decide +kernel
theorem dX10_alone_5 : decode cX10_alone 5 = .ok (.ifCond .ne 9, 3) := by decide +kernel
theorem dX10_alone_8 : decode cX10_alone 8 = .ok (.aload_n 0, 1) := by decide +kernel
theorem dX10_alone_9 : decode cX10_alone 9 = .ok (.iconst (-1), 1) := by decide +kernel
theorem dX10_alone_10 : decode cX10_alone 10 = .ok (.invokevirtual 105, 3) := by decide +kernel
theorem dX10_alone_13 : decode cX10_alone 13 = .ok (.ireturn, 1) := by decide +kernel
theorem dX10_alone_14 : decode cX10_alone 14 = .ok (.aload_n 0, 1) := by decide +kernel
theorem dX10_alone_15 : decode cX10_alone 15 = .ok (.invokevirtual 182, 3) := by decide +kernel
theorem dX10_alone_18 : decode cX10_alone 18 = .ok (.aload_n 0, 1) := by decide +kernel
theorem dX10_alone_19 : decode cX10_alone 19 = .ok (.invokevirtual 175, 3) := by decide +kernel
theorem dX10_alone_22 : decode cX10_alone 22 = .ok (.iconst 0, 1) := by decide +kernel
theorem dX10_alone_23 : decode cX10_alone 23 = .ok (.istore_n 2, 1) := by decide +kernel
theorem dX10_alone_24 : decode cX10_alone 24 = .ok (.iconst 0, 1) := by decide +kernel
theorem dX10_alone_25 : decode cX10_alone 25 = .ok (.istore_n 3, 1) := by decide +kernel
theorem dX10_alone_26 : decode cX10_alone 26 = .ok (.iload_n 3, 1) := by decide +kernel
theorem dX10_alone_27 : decode cX10_alone 27 = .ok (.sipush 300, 3) := by decide +kernel
theorem dX10_alone_30 : decode cX10_alone 30 = .ok (.if_icmp .ge 26, 3) := by decide +kernel
theorem dX10_alone_33 : decode cX10_alone 33 = .ok (.iload_n 2, 1) := by decide +kernel
theorem dX10_alone_34 : decode cX10_alone 34 = .ok (.aload_n 0, 1) := by decide +kernel
theorem dX10_alone_35 : decode cX10_alone 35 = .ok (.iload_n 1, 1) := by decide +kernel
theorem dX10_alone_36 : decode cX10_alone 36 = .ok (.iload_n 3, 1) := by decide +kernel
theorem dX10_alone_37 : decode cX10_alone 37 = .ok (.invokevirtual 169, 3) := by decide +kernel
theorem dX10_alone_40 : decode cX10_alone 40 = .ok (.ifCond .eq 7, 3) := by decide +kernel
theorem dX10_alone_43 : decode cX10_alone 43 = .ok (.iconst 1, 1) := by decide +kernel
theorem dX10_alone_44 : decode cX10_alone 44 = .ok (.goto 4, 3) := by decide +kernel
theorem dX10_alone_47 : decode cX10_alone 47 = .ok (.iconst 0, 1) := by decide +kernel
theorem dX10_alone_48 : decode cX10_alone 48 = .ok (.iadd, 1) := by decide +kernel
theorem dX10_alone_49 : decode cX10_alone 49 = .ok (.istore_n 2, 1) := by decide +kernel
theorem dX10_alone_50 : decode cX10_alone 50 = .ok (.iinc 3 1, 3) := by decide +kernel
theorem dX10_alone_53 : decode cX10_alone 53 = .ok (.goto (-27), 3) := by decide +kernel
theorem dX10_alone_56 : decode cX10_alone 56 = .ok (.iload_n 2, 1) := by decide +kernel
theorem dX10_alone_57 : decode cX10_alone 57 = .ok (.ireturn, 1) := by decide +kernel
theorem dX10_can_0 : decode cX10_can 0 = .ok (.aload_n 0, 1) := by decide +kernel
theorem dX10_can_1 : decode cX10_can 1 = .ok (.iload_n 1, 1) := by decide +kernel
theorem dX10_can_2 : decode cX10_can 2 = .ok (.invokevirtual 132, 3) := by decide +kernel
theorem dX10_can_5 : decode cX10_can 5 = .ok (.ifCond .ne 9, 3) := by decide +kernel
theorem dX10_can_8 : decode cX10_can 8 = .ok (.aload_n 0, 1) := by decide +kernel
theorem dX10_can_9 : decode cX10_can 9 = .ok (.iconst (-1), 1) := by decide +kernel
theorem dX10_can_10 : decode cX10_can 10 = .ok (.invokevirtual 105, 3) := by decide +kernel
theorem dX10_can_13 : decode cX10_can 13 = .ok (.ireturn, 1) := by decide +kernel
theorem dX10_can_14 : decode cX10_can 14 = .ok (.iload_n 2, 1) := by decide +kernel
theorem dX10_can_15 : decode cX10_can 15 = .ok (.iconst 0, 1) := by decide +kernel
theorem dX10_can_16 : decode cX10_can 16 = .ok (.sipush 299, 3) := by decide +kernel
theorem dX10_can_19 : decode cX10_can 19 = .ok (.invokestatic 98, 3) := by decide +kernel
theorem dX10_can_22 : decode cX10_can 22 = .ok (.istore_n 3, 1) := by decide +kernel
theorem dX10_can_23 : decode cX10_can 23 = .ok (.iload_n 3, 1) := by decide +kernel
theorem dX10_can_24 : decode cX10_can 24 = .ok (.ifCond .eq 9, 3) := by decide +kernel
theorem dX10_can_27 : decode cX10_can 27 = .ok (.aload_n 0, 1) := by decide +kernel
theorem dX10_can_28 : decode cX10_can 28 = .ok (.iload_n 3, 1) := by decide +kernel
theorem dX10_can_29 : decode cX10_can 29 = .ok (.invokevirtual 105, 3) := by decide +kernel
theorem dX10_can_32 : decode cX10_can 32 = .ok (.ireturn, 1) := by decide +kernel
theorem dX10_can_33 : decode cX10_can 33 = .ok (.aload_n 0, 1) := by decide +kernel
theorem dX10_can_34 : decode cX10_can 34 = .ok (.invokevirtual 182, 3) := by decide +kernel
theorem dX10_can_37 : decode cX10_can 37 = .ok (.aload_n 0, 1) := by decide +kernel
theorem dX10_can_38 : decode cX10_can 38 = .ok (.invokevirtual 175, 3) := by decide +kernel
theorem dX10_can_41 : decode cX10_can 41 = .ok (.aload_n 0, 1) := by decide +kernel
theorem dX10_can_42 : decode cX10_can 42 = .ok (.iload_n 1, 1) := by decide +kernel
theorem dX10_can_43 : decode cX10_can 43 = .ok (.iload_n 2, 1) := by decide +kernel
theorem dX10_can_44 : decode cX10_can 44 = .ok (.invokevirtual 169, 3) := by decide +kernel
theorem dX10_can_47 : decode cX10_can 47 = .ok (.ifCond .eq 7, 3) := by decide +kernel
theorem dX10_can_50 : decode cX10_can 50 = .ok (.iconst 1, 1) := by decide +kernel
theorem dX10_can_51 : decode cX10_can 51 = .ok (.goto 4, 3) := by decide +kernel
theorem dX10_can_54 : decode cX10_can 54 = .ok (.iconst 0, 1) := by decide +kernel
theorem dX10_can_55 : decode cX10_can 55 = .ok (.ireturn, 1) := by decide +kernel
theorem dX10_ways_0 : decode cX10_ways 0 = .ok (.aload_n 0, 1) := by decide +kernel
theorem dX10_ways_1 : decode cX10_ways 1 = .ok (.invokevirtual 182, 3) := by decide +kernel
theorem dX10_ways_4 : decode cX10_ways 4 = .ok (.aload_n 0, 1) := by decide +kernel
theorem dX10_ways_5 : decode cX10_ways 5 = .ok (.invokevirtual 175, 3) := by decide +kernel
theorem dX10_ways_8 : decode cX10_ways 8 = .ok (.aload_n 0, 1) := by decide +kernel
theorem dX10_ways_9 : decode cX10_ways 9 = .ok (.invokevirtual 178, 3) := by decide +kernel
theorem dX10_ways_12 : decode cX10_ways 12 = .ok (.lreturn, 1) := by decide +kernel
theorem dX10_findMay_0 : decode cX10_findMay 0 = .ok (.aload_n 0, 1) := by decide +kernel
theorem dX10_findMay_1 : decode cX10_findMay 1 = .ok (.invokevirtual 182, 3) := by decide +kernel
theorem dX10_findMay_4 : decode cX10_findMay 4 = .ok (.iconst 0, 1) := by decide +kernel
theorem dX10_findMay_5 : decode cX10_findMay 5 = .ok (.istore_n 2, 1) := by decide +kernel
theorem dX10_findMay_6 : decode cX10_findMay 6 = .ok (.iload_n 2, 1) := by decide +kernel
theorem dX10_findMay_7 : decode cX10_findMay 7 = .ok (.sipush 300, 3) := by decide +kernel
theorem dX10_findMay_10 : decode cX10_findMay 10 = .ok (.if_icmp .ge 31, 3) := by decide +kernel
theorem dX10_findMay_13 : decode cX10_findMay 13 = .ok (.aload_n 0, 1) := by decide +kernel
theorem dX10_findMay_14 : decode cX10_findMay 14 = .ok (.getfield 86, 3) := by decide +kernel
theorem dX10_findMay_17 : decode cX10_findMay 17 = .ok (.iload_n 2, 1) := by decide +kernel
theorem dX10_findMay_18 : decode cX10_findMay 18 = .ok (.aload_n 0, 1) := by decide +kernel
theorem dX10_findMay_19 : decode cX10_findMay 19 = .ok (.iload_n 1, 1) := by decide +kernel
theorem dX10_findMay_20 : decode cX10_findMay 20 = .ok (.iload_n 2, 1) := by decide +kernel
theorem dX10_findMay_21 : decode cX10_findMay 21 = .ok (.invokevirtual 185, 3) := by decide +kernel
theorem dX10_findMay_24 : decode cX10_findMay 24 = .ok (.lconst 0, 1) := by decide +kernel
theorem dX10_findMay_25 : decode cX10_findMay 25 = .ok (.lcmp, 1) := by decide +kernel
theorem dX10_findMay_26 : decode cX10_findMay 26 = .ok (.ifCond .le 7, 3) := by decide +kernel
theorem dX10_findMay_29 : decode cX10_findMay 29 = .ok (.iconst 1, 1) := by decide +kernel
theorem dX10_findMay_30 : decode cX10_findMay 30 = .ok (.goto 4, 3) := by decide +kernel
theorem dX10_findMay_33 : decode cX10_findMay 33 = .ok (.iconst 0, 1) := by decide +kernel
theorem dX10_findMay_34 : decode cX10_findMay 34 = .ok (.bastore, 1) := by decide +kernel
theorem dX10_findMay_35 : decode cX10_findMay 35 = .ok (.iinc 2 1, 3) := by decide +kernel
theorem dX10_findMay_38 : decode cX10_findMay 38 = .ok (.goto (-32), 3) := by decide +kernel
theorem dX10_findMay_41 : decode cX10_findMay 41 = .ok (.return_, 1) := by decide +kernel
theorem dX10_may_0 : decode cX10_may 0 = .ok (.aload_n 0, 1) := by decide +kernel
theorem dX10_may_1 : decode cX10_may 1 = .ok (.iload_n 1, 1) := by decide +kernel
theorem dX10_may_2 : decode cX10_may 2 = .ok (.invokevirtual 132, 3) := by decide +kernel
theorem dX10_may_5 : decode cX10_may 5 = .ok (.ifCond .ne 9, 3) := by decide +kernel
theorem dX10_may_8 : decode cX10_may 8 = .ok (.aload_n 0, 1) := by decide +kernel
theorem dX10_may_9 : decode cX10_may 9 = .ok (.iconst (-1), 1) := by decide +kernel
theorem dX10_may_10 : decode cX10_may 10 = .ok (.invokevirtual 105, 3) := by decide +kernel
theorem dX10_may_13 : decode cX10_may 13 = .ok (.ireturn, 1) := by decide +kernel
theorem dX10_may_14 : decode cX10_may 14 = .ok (.aload_n 0, 1) := by decide +kernel
theorem dX10_may_15 : decode cX10_may 15 = .ok (.iload_n 1, 1) := by decide +kernel
theorem dX10_may_16 : decode cX10_may 16 = .ok (.invokevirtual 188, 3) := by decide +kernel
theorem dX10_may_19 : decode cX10_may 19 = .ok (.iconst 0, 1) := by decide +kernel
theorem dX10_may_20 : decode cX10_may 20 = .ok (.istore_n 2, 1) := by decide +kernel
theorem dX10_may_21 : decode cX10_may 21 = .ok (.iconst 0, 1) := by decide +kernel
theorem dX10_may_22 : decode cX10_may 22 = .ok (.istore_n 3, 1) := by decide +kernel
theorem dX10_may_23 : decode cX10_may 23 = .ok (.iload_n 3, 1) := by decide +kernel
theorem dX10_may_24 : decode cX10_may 24 = .ok (.sipush 300, 3) := by decide +kernel
theorem dX10_may_27 : decode cX10_may 27 = .ok (.if_icmp .ge 26, 3) := by decide +kernel
theorem dX10_may_30 : decode cX10_may 30 = .ok (.iload_n 2, 1) := by decide +kernel
theorem dX10_may_31 : decode cX10_may 31 = .ok (.aload_n 0, 1) := by decide +kernel
theorem dX10_may_32 : decode cX10_may 32 = .ok (.getfield 86, 3) := by decide +kernel
theorem dX10_may_35 : decode cX10_may 35 = .ok (.iload_n 3, 1) := by decide +kernel
theorem dX10_may_36 : decode cX10_may 36 = .ok (.baload, 1) := by decide +kernel
theorem dX10_may_37 : decode cX10_may 37 = .ok (.ifCond .eq 7, 3) := by decide +kernel
theorem dX10_may_40 : decode cX10_may 40 = .ok (.iconst 1, 1) := by decide +kernel
theorem dX10_may_41 : decode cX10_may 41 = .ok (.goto 4, 3) := by decide +kernel
theorem dX10_may_44 : decode cX10_may 44 = .ok (.iconst 0, 1) := by decide +kernel
theorem dX10_may_45 : decode cX10_may 45 = .ok (.iadd, 1) := by decide +kernel
theorem dX10_may_46 : decode cX10_may 46 = .ok (.istore_n 2, 1) := by decide +kernel
theorem dX10_may_47 : decode cX10_may 47 = .ok (.iinc 3 1, 3) := by decide +kernel
theorem dX10_may_50 : decode cX10_may 50 = .ok (.goto (-27), 3) := by decide +kernel
theorem dX10_may_53 : decode cX10_may 53 = .ok (.iload_n 2, 1) := by decide +kernel
theorem dX10_may_54 : decode cX10_may 54 = .ok (.ireturn, 1) := by decide +kernel
theorem dX10_run_0 : decode cX10_run 0 = .ok (.aload_n 0, 1) := by decide +kernel
theorem dX10_run_1 : decode cX10_run 1 = .ok (.iload_n 1, 1) := by decide +kernel
theorem dX10_run_2 : decode cX10_run 2 = .ok (.invokevirtual 132, 3) := by decide +kernel
theorem dX10_run_5 : decode cX10_run 5 = .ok (.ifCond .ne 9, 3) := by decide +kernel
theorem dX10_run_8 : decode cX10_run 8 = .ok (.aload_n 0, 1) := by decide +kernel
theorem dX10_run_9 : decode cX10_run 9 = .ok (.iconst (-1), 1) := by decide +kernel
theorem dX10_run_10 : decode cX10_run 10 = .ok (.invokevirtual 105, 3) := by decide +kernel
theorem dX10_run_13 : decode cX10_run 13 = .ok (.ireturn, 1) := by decide +kernel
theorem dX10_run_14 : decode cX10_run 14 = .ok (.iload_n 3, 1) := by decide +kernel
theorem dX10_run_15 : decode cX10_run 15 = .ok (.iconst 0, 1) := by decide +kernel
theorem dX10_run_16 : decode cX10_run 16 = .ok (.iconst 1, 1) := by decide +kernel
theorem dX10_run_17 : decode cX10_run 17 = .ok (.invokestatic 118, 3) := by decide +kernel
theorem dX10_run_20 : decode cX10_run 20 = .ok (.ifCond .ne 10, 3) := by decide +kernel
theorem dX10_run_23 : decode cX10_run 23 = .ok (.aload_n 0, 1) := by decide +kernel
theorem dX10_run_24 : decode cX10_run 24 = .ok (.bipush (-2), 2) := by decide +kernel
theorem dX10_run_26 : decode cX10_run 26 = .ok (.invokevirtual 105, 3) := by decide +kernel
theorem dX10_run_29 : decode cX10_run 29 = .ok (.ireturn, 1) := by decide +kernel
theorem dX10_run_30 : decode cX10_run 30 = .ok (.aload_n 0, 1) := by decide +kernel
theorem dX10_run_31 : decode cX10_run 31 = .ok (.iload_n 1, 1) := by decide +kernel
theorem dX10_run_32 : decode cX10_run 32 = .ok (.invokevirtual 188, 3) := by decide +kernel
theorem dX10_run_35 : decode cX10_run 35 = .ok (.iconst (-1), 1) := by decide +kernel
theorem dX10_run_36 : decode cX10_run 36 = .ok (.istore 4, 2) := by decide +kernel
theorem dX10_run_38 : decode cX10_run 38 = .ok (.iconst 0, 1) := by decide +kernel
theorem dX10_run_39 : decode cX10_run 39 = .ok (.istore 5, 2) := by decide +kernel
theorem dX10_run_41 : decode cX10_run 41 = .ok (.iload 5, 2) := by decide +kernel
theorem dX10_run_43 : decode cX10_run 43 = .ok (.sipush 300, 3) := by decide +kernel
theorem dX10_run_46 : decode cX10_run 46 = .ok (.if_icmp .ge 75, 3) := by decide +kernel
theorem dX10_run_49 : decode cX10_run 49 = .ok (.aload_n 0, 1) := by decide +kernel
theorem dX10_run_50 : decode cX10_run 50 = .ok (.getfield 86, 3) := by decide +kernel
theorem dX10_run_53 : decode cX10_run 53 = .ok (.iload 5, 2) := by decide +kernel
theorem dX10_run_55 : decode cX10_run 55 = .ok (.baload, 1) := by decide +kernel
theorem dX10_run_56 : decode cX10_run 56 = .ok (.ifCond .ne 6, 3) := by decide +kernel
theorem dX10_run_59 : decode cX10_run 59 = .ok (.goto 56, 3) := by decide +kernel
theorem dX10_run_62 : decode cX10_run 62 = .ok (.iload 5, 2) := by decide +kernel
theorem dX10_run_64 : decode cX10_run 64 = .ok (.ifCond .eq 15, 3) := by decide +kernel
theorem dX10_run_67 : decode cX10_run 67 = .ok (.aload_n 0, 1) := by decide +kernel
theorem dX10_run_68 : decode cX10_run 68 = .ok (.getfield 86, 3) := by decide +kernel
theorem dX10_run_71 : decode cX10_run 71 = .ok (.iload 5, 2) := by decide +kernel
theorem dX10_run_73 : decode cX10_run 73 = .ok (.iconst 1, 1) := by decide +kernel
theorem dX10_run_74 : decode cX10_run 74 = .ok (.isub, 1) := by decide +kernel
theorem dX10_run_75 : decode cX10_run 75 = .ok (.baload, 1) := by decide +kernel
theorem dX10_run_76 : decode cX10_run 76 = .ok (.ifCond .ne 6, 3) := by decide +kernel
theorem dX10_run_79 : decode cX10_run 79 = .ok (.iinc 4 1, 3) := by decide +kernel
theorem dX10_run_82 : decode cX10_run 82 = .ok (.iload 4, 2) := by decide +kernel
theorem dX10_run_84 : decode cX10_run 84 = .ok (.iload_n 2, 1) := by decide +kernel
theorem dX10_run_85 : decode cX10_run 85 = .ok (.if_icmp .ne 30, 3) := by decide +kernel
theorem dX10_run_88 : decode cX10_run 88 = .ok (.iload_n 3, 1) := by decide +kernel
theorem dX10_run_89 : decode cX10_run 89 = .ok (.ifCond .eq 23, 3) := by decide +kernel
theorem dX10_run_92 : decode cX10_run 92 = .ok (.iload 5, 2) := by decide +kernel
theorem dX10_run_94 : decode cX10_run 94 = .ok (.sipush 299, 3) := by decide +kernel
theorem dX10_run_97 : decode cX10_run 97 = .ok (.if_icmp .eq 15, 3) := by decide +kernel
theorem dX10_run_100 : decode cX10_run 100 = .ok (.aload_n 0, 1) := by decide +kernel
theorem dX10_run_101 : decode cX10_run 101 = .ok (.getfield 86, 3) := by decide +kernel
theorem dX10_run_104 : decode cX10_run 104 = .ok (.iload 5, 2) := by decide +kernel
theorem dX10_run_106 : decode cX10_run 106 = .ok (.iconst 1, 1) := by decide +kernel
theorem dX10_run_107 : decode cX10_run 107 = .ok (.iadd, 1) := by decide +kernel
theorem dX10_run_108 : decode cX10_run 108 = .ok (.baload, 1) := by decide +kernel
theorem dX10_run_109 : decode cX10_run 109 = .ok (.ifCond .ne 6, 3) := by decide +kernel
theorem dX10_run_112 : decode cX10_run 112 = .ok (.iload 5, 2) := by decide +kernel
theorem dX10_run_114 : decode cX10_run 114 = .ok (.ireturn, 1) := by decide +kernel
theorem dX10_run_115 : decode cX10_run 115 = .ok (.iinc 5 1, 3) := by decide +kernel
theorem dX10_run_118 : decode cX10_run 118 = .ok (.goto (-77), 3) := by decide +kernel
theorem dX10_run_121 : decode cX10_run 121 = .ok (.bipush (-9), 2) := by decide +kernel
theorem dX10_run_123 : decode cX10_run 123 = .ok (.ireturn, 1) := by decide +kernel
theorem dX10_divisor_0 : decode cX10_divisor 0 = .ok (.lload_n 0, 1) := by decide +kernel
theorem dX10_divisor_1 : decode cX10_divisor 1 = .ok (.lstore 4, 2) := by decide +kernel
theorem dX10_divisor_3 : decode cX10_divisor 3 = .ok (.lload_n 2, 1) := by decide +kernel
theorem dX10_divisor_4 : decode cX10_divisor 4 = .ok (.lstore 6, 2) := by decide +kernel
theorem dX10_divisor_6 : decode cX10_divisor 6 = .ok (.lload 6, 2) := by decide +kernel
theorem dX10_divisor_8 : decode cX10_divisor 8 = .ok (.lconst 0, 1) := by decide +kernel
theorem dX10_divisor_9 : decode cX10_divisor 9 = .ok (.lcmp, 1) := by decide +kernel
theorem dX10_divisor_10 : decode cX10_divisor 10 = .ok (.ifCond .eq 21, 3) := by decide +kernel
theorem dX10_divisor_13 : decode cX10_divisor 13 = .ok (.lload 4, 2) := by decide +kernel
theorem dX10_divisor_15 : decode cX10_divisor 15 = .ok (.lload 6, 2) := by decide +kernel
theorem dX10_divisor_17 : decode cX10_divisor 17 = .ok (.lrem, 1) := by decide +kernel
theorem dX10_divisor_18 : decode cX10_divisor 18 = .ok (.lstore 8, 2) := by decide +kernel
theorem dX10_divisor_20 : decode cX10_divisor 20 = .ok (.lload 6, 2) := by decide +kernel
theorem dX10_divisor_22 : decode cX10_divisor 22 = .ok (.lstore 4, 2) := by decide +kernel
theorem dX10_divisor_24 : decode cX10_divisor 24 = .ok (.lload 8, 2) := by decide +kernel
theorem dX10_divisor_26 : decode cX10_divisor 26 = .ok (.lstore 6, 2) := by decide +kernel
theorem dX10_divisor_28 : decode cX10_divisor 28 = .ok (.goto (-22), 3) := by decide +kernel
theorem dX10_divisor_31 : decode cX10_divisor 31 = .ok (.lload 4, 2) := by decide +kernel
theorem dX10_divisor_33 : decode cX10_divisor 33 = .ok (.lreturn, 1) := by decide +kernel
theorem dX10_chance_0 : decode cX10_chance 0 = .ok (.aload_n 0, 1) := by decide +kernel
theorem dX10_chance_1 : decode cX10_chance 1 = .ok (.iload_n 1, 1) := by decide +kernel
theorem dX10_chance_2 : decode cX10_chance 2 = .ok (.invokevirtual 132, 3) := by decide +kernel
theorem dX10_chance_5 : decode cX10_chance 5 = .ok (.ifCond .ne 10, 3) := by decide +kernel
theorem dX10_chance_8 : decode cX10_chance 8 = .ok (.aload_n 0, 1) := by decide +kernel
theorem dX10_chance_9 : decode cX10_chance 9 = .ok (.iconst (-1), 1) := by decide +kernel
theorem dX10_chance_10 : decode cX10_chance 10 = .ok (.invokevirtual 105, 3) := by decide +kernel
theorem dX10_chance_13 : decode cX10_chance 13 = .ok (.i2l, 1) := by decide +kernel
theorem dX10_chance_14 : decode cX10_chance 14 = .ok (.lreturn, 1) := by decide +kernel
theorem dX10_chance_15 : decode cX10_chance 15 = .ok (.iload_n 3, 1) := by decide +kernel
theorem dX10_chance_16 : decode cX10_chance 16 = .ok (.iconst 0, 1) := by decide +kernel
theorem dX10_chance_17 : decode cX10_chance 17 = .ok (.iconst 1, 1) := by decide +kernel
theorem dX10_chance_18 : decode cX10_chance 18 = .ok (.invokestatic 118, 3) := by decide +kernel
theorem dX10_chance_21 : decode cX10_chance 21 = .ok (.ifCond .ne 11, 3) := by decide +kernel
theorem dX10_chance_24 : decode cX10_chance 24 = .ok (.aload_n 0, 1) := by decide +kernel
theorem dX10_chance_25 : decode cX10_chance 25 = .ok (.bipush (-2), 2) := by decide +kernel
theorem dX10_chance_27 : decode cX10_chance 27 = .ok (.invokevirtual 105, 3) := by decide +kernel
theorem dX10_chance_30 : decode cX10_chance 30 = .ok (.i2l, 1) := by decide +kernel
theorem dX10_chance_31 : decode cX10_chance 31 = .ok (.lreturn, 1) := by decide +kernel
theorem dX10_chance_32 : decode cX10_chance 32 = .ok (.iload_n 2, 1) := by decide +kernel
theorem dX10_chance_33 : decode cX10_chance 33 = .ok (.iconst 0, 1) := by decide +kernel
theorem dX10_chance_34 : decode cX10_chance 34 = .ok (.sipush 299, 3) := by decide +kernel
theorem dX10_chance_37 : decode cX10_chance 37 = .ok (.invokestatic 98, 3) := by decide +kernel
theorem dX10_chance_40 : decode cX10_chance 40 = .ok (.istore 4, 2) := by decide +kernel
theorem dX10_chance_42 : decode cX10_chance 42 = .ok (.iload 4, 2) := by decide +kernel
theorem dX10_chance_44 : decode cX10_chance 44 = .ok (.ifCond .eq 11, 3) := by decide +kernel
theorem dX10_chance_47 : decode cX10_chance 47 = .ok (.aload_n 0, 1) := by decide +kernel
theorem dX10_chance_48 : decode cX10_chance 48 = .ok (.iload 4, 2) := by decide +kernel
theorem dX10_chance_50 : decode cX10_chance 50 = .ok (.invokevirtual 105, 3) := by decide +kernel
theorem dX10_chance_53 : decode cX10_chance 53 = .ok (.i2l, 1) := by decide +kernel
theorem dX10_chance_54 : decode cX10_chance 54 = .ok (.lreturn, 1) := by decide +kernel
theorem dX10_chance_55 : decode cX10_chance 55 = .ok (.aload_n 0, 1) := by decide +kernel
theorem dX10_chance_56 : decode cX10_chance 56 = .ok (.invokevirtual 182, 3) := by decide +kernel
theorem dX10_chance_59 : decode cX10_chance 59 = .ok (.aload_n 0, 1) := by decide +kernel
theorem dX10_chance_60 : decode cX10_chance 60 = .ok (.iload_n 1, 1) := by decide +kernel
theorem dX10_chance_61 : decode cX10_chance 61 = .ok (.iload_n 2, 1) := by decide +kernel
theorem dX10_chance_62 : decode cX10_chance 62 = .ok (.invokevirtual 185, 3) := by decide +kernel
theorem dX10_chance_65 : decode cX10_chance 65 = .ok (.lstore 5, 2) := by decide +kernel
theorem dX10_chance_67 : decode cX10_chance 67 = .ok (.lload 5, 2) := by decide +kernel
theorem dX10_chance_69 : decode cX10_chance 69 = .ok (.lconst 0, 1) := by decide +kernel
theorem dX10_chance_70 : decode cX10_chance 70 = .ok (.lcmp, 1) := by decide +kernel
theorem dX10_chance_71 : decode cX10_chance 71 = .ok (.ifCond .ne 6, 3) := by decide +kernel
theorem dX10_chance_74 : decode cX10_chance 74 = .ok (.iload_n 3, 1) := by decide +kernel
theorem dX10_chance_75 : decode cX10_chance 75 = .ok (.i2l, 1) := by decide +kernel
theorem dX10_chance_76 : decode cX10_chance 76 = .ok (.lreturn, 1) := by decide +kernel
theorem dX10_chance_77 : decode cX10_chance 77 = .ok (.aload_n 0, 1) := by decide +kernel
theorem dX10_chance_78 : decode cX10_chance 78 = .ok (.invokevirtual 175, 3) := by decide +kernel
theorem dX10_chance_81 : decode cX10_chance 81 = .ok (.aload_n 0, 1) := by decide +kernel
theorem dX10_chance_82 : decode cX10_chance 82 = .ok (.invokevirtual 178, 3) := by decide +kernel
theorem dX10_chance_85 : decode cX10_chance 85 = .ok (.lstore 7, 2) := by decide +kernel
theorem dX10_chance_87 : decode cX10_chance 87 = .ok (.iload_n 3, 1) := by decide +kernel
theorem dX10_chance_88 : decode cX10_chance 88 = .ok (.ifCond .ne 8, 3) := by decide +kernel
theorem dX10_chance_91 : decode cX10_chance 91 = .ok (.lload 5, 2) := by decide +kernel
theorem dX10_chance_93 : decode cX10_chance 93 = .ok (.goto 5, 3) := by decide +kernel
theorem dX10_chance_96 : decode cX10_chance 96 = .ok (.lload 7, 2) := by decide +kernel
theorem dX10_chance_98 : decode cX10_chance 98 = .ok (.lload 5, 2) := by decide +kernel
theorem dX10_chance_100 : decode cX10_chance 100 = .ok (.lload 7, 2) := by decide +kernel
theorem dX10_chance_102 : decode cX10_chance 102 = .ok (.invokestatic 192, 3) := by decide +kernel
theorem dX10_chance_105 : decode cX10_chance 105 = .ok (.ldiv, 1) := by decide +kernel
theorem dX10_chance_106 : decode cX10_chance 106 = .ok (.lreturn, 1) := by decide +kernel
theorem dX10_put_0 : decode cX10_put 0 = .ok (.iload_n 1, 1) := by decide +kernel
theorem dX10_put_1 : decode cX10_put 1 = .ok (.iconst 0, 1) := by decide +kernel
theorem dX10_put_2 : decode cX10_put 2 = .ok (.sipush 299, 3) := by decide +kernel
theorem dX10_put_5 : decode cX10_put 5 = .ok (.invokestatic 98, 3) := by decide +kernel
theorem dX10_put_8 : decode cX10_put 8 = .ok (.istore_n 2, 1) := by decide +kernel
theorem dX10_put_9 : decode cX10_put 9 = .ok (.iload_n 2, 1) := by decide +kernel
theorem dX10_put_10 : decode cX10_put 10 = .ok (.ifCond .ne 15, 3) := by decide +kernel
theorem dX10_put_13 : decode cX10_put 13 = .ok (.aload_n 0, 1) := by decide +kernel
theorem dX10_put_14 : decode cX10_put 14 = .ok (.getfield 196, 3) := by decide +kernel
theorem dX10_put_17 : decode cX10_put 17 = .ok (.bipush 6, 2) := by decide +kernel
theorem dX10_put_19 : decode cX10_put 19 = .ok (.if_icmp .ne 6, 3) := by decide +kernel
theorem dX10_put_22 : decode cX10_put 22 = .ok (.bipush (-6), 2) := by decide +kernel
theorem dX10_put_24 : decode cX10_put 24 = .ok (.istore_n 2, 1) := by decide +kernel
theorem dX10_put_25 : decode cX10_put 25 = .ok (.iload_n 2, 1) := by decide +kernel
theorem dX10_put_26 : decode cX10_put 26 = .ok (.ifCond .eq 9, 3) := by decide +kernel
theorem dX10_put_29 : decode cX10_put 29 = .ok (.aload_n 0, 1) := by decide +kernel
theorem dX10_put_30 : decode cX10_put 30 = .ok (.iload_n 2, 1) := by decide +kernel
theorem dX10_put_31 : decode cX10_put 31 = .ok (.invokevirtual 105, 3) := by decide +kernel
theorem dX10_put_34 : decode cX10_put 34 = .ok (.ireturn, 1) := by decide +kernel
theorem dX10_put_35 : decode cX10_put 35 = .ok (.aload_n 0, 1) := by decide +kernel
theorem dX10_put_36 : decode cX10_put 36 = .ok (.getfield 89, 3) := by decide +kernel
theorem dX10_put_39 : decode cX10_put 39 = .ok (.aload_n 0, 1) := by decide +kernel
theorem dX10_put_40 : decode cX10_put 40 = .ok (.getfield 196, 3) := by decide +kernel
theorem dX10_put_43 : decode cX10_put 43 = .ok (.iload_n 1, 1) := by decide +kernel
theorem dX10_put_44 : decode cX10_put 44 = .ok (.iastore, 1) := by decide +kernel
theorem dX10_put_45 : decode cX10_put 45 = .ok (.aload_n 0, 1) := by decide +kernel
theorem dX10_put_46 : decode cX10_put 46 = .ok (.dup, 1) := by decide +kernel
theorem dX10_put_47 : decode cX10_put 47 = .ok (.getfield 196, 3) := by decide +kernel
theorem dX10_put_50 : decode cX10_put 50 = .ok (.iconst 1, 1) := by decide +kernel
theorem dX10_put_51 : decode cX10_put 51 = .ok (.iadd, 1) := by decide +kernel
theorem dX10_put_52 : decode cX10_put 52 = .ok (.putfield 196, 3) := by decide +kernel
theorem dX10_put_55 : decode cX10_put 55 = .ok (.aload_n 0, 1) := by decide +kernel
theorem dX10_put_56 : decode cX10_put 56 = .ok (.getfield 196, 3) := by decide +kernel
theorem dX10_put_59 : decode cX10_put 59 = .ok (.ireturn, 1) := by decide +kernel
theorem dX10_isJoined_0 : decode cX10_isJoined 0 = .ok (.aload_n 0, 1) := by decide +kernel
theorem dX10_isJoined_1 : decode cX10_isJoined 1 = .ok (.getfield 89, 3) := by decide +kernel
theorem dX10_isJoined_4 : decode cX10_isJoined 4 = .ok (.iload_n 1, 1) := by decide +kernel
theorem dX10_isJoined_5 : decode cX10_isJoined 5 = .ok (.iaload, 1) := by decide +kernel
theorem dX10_isJoined_6 : decode cX10_isJoined 6 = .ok (.aload_n 0, 1) := by decide +kernel
theorem dX10_isJoined_7 : decode cX10_isJoined 7 = .ok (.getfield 89, 3) := by decide +kernel
theorem dX10_isJoined_10 : decode cX10_isJoined 10 = .ok (.aload_n 0, 1) := by decide +kernel
theorem dX10_isJoined_11 : decode cX10_isJoined 11 = .ok (.getfield 60, 3) := by decide +kernel
theorem dX10_isJoined_14 : decode cX10_isJoined 14 = .ok (.iload_n 1, 1) := by decide +kernel
theorem dX10_isJoined_15 : decode cX10_isJoined 15 = .ok (.iaload, 1) := by decide +kernel
theorem dX10_isJoined_16 : decode cX10_isJoined 16 = .ok (.iaload, 1) := by decide +kernel
theorem dX10_isJoined_17 : decode cX10_isJoined 17 = .ok (.isub, 1) := by decide +kernel
theorem dX10_isJoined_18 : decode cX10_isJoined 18 = .ok (.istore_n 2, 1) := by decide +kernel
theorem dX10_isJoined_19 : decode cX10_isJoined 19 = .ok (.aload_n 0, 1) := by decide +kernel
theorem dX10_isJoined_20 : decode cX10_isJoined 20 = .ok (.getfield 66, 3) := by decide +kernel
theorem dX10_isJoined_23 : decode cX10_isJoined 23 = .ok (.iload_n 1, 1) := by decide +kernel
theorem dX10_isJoined_24 : decode cX10_isJoined 24 = .ok (.iaload, 1) := by decide +kernel
theorem dX10_isJoined_25 : decode cX10_isJoined 25 = .ok (.istore_n 3, 1) := by decide +kernel
theorem dX10_isJoined_26 : decode cX10_isJoined 26 = .ok (.aload_n 0, 1) := by decide +kernel
theorem dX10_isJoined_27 : decode cX10_isJoined 27 = .ok (.getfield 63, 3) := by decide +kernel
theorem dX10_isJoined_30 : decode cX10_isJoined 30 = .ok (.iload_n 1, 1) := by decide +kernel
theorem dX10_isJoined_31 : decode cX10_isJoined 31 = .ok (.iaload, 1) := by decide +kernel
theorem dX10_isJoined_32 : decode cX10_isJoined 32 = .ok (.ifCond .ne 16, 3) := by decide +kernel
theorem dX10_isJoined_35 : decode cX10_isJoined 35 = .ok (.iload_n 2, 1) := by decide +kernel
theorem dX10_isJoined_36 : decode cX10_isJoined 36 = .ok (.iload_n 3, 1) := by decide +kernel
theorem dX10_isJoined_37 : decode cX10_isJoined 37 = .ok (.if_icmp .ne 7, 3) := by decide +kernel
theorem dX10_isJoined_40 : decode cX10_isJoined 40 = .ok (.iconst 1, 1) := by decide +kernel
theorem dX10_isJoined_41 : decode cX10_isJoined 41 = .ok (.goto 70, 3) := by decide +kernel
theorem dX10_isJoined_44 : decode cX10_isJoined 44 = .ok (.iconst 0, 1) := by decide +kernel
theorem dX10_isJoined_45 : decode cX10_isJoined 45 = .ok (.goto 66, 3) := by decide +kernel
theorem dX10_isJoined_48 : decode cX10_isJoined 48 = .ok (.aload_n 0, 1) := by decide +kernel
theorem dX10_isJoined_49 : decode cX10_isJoined 49 = .ok (.getfield 63, 3) := by decide +kernel
theorem dX10_isJoined_52 : decode cX10_isJoined 52 = .ok (.iload_n 1, 1) := by decide +kernel
theorem dX10_isJoined_53 : decode cX10_isJoined 53 = .ok (.iaload, 1) := by decide +kernel
theorem dX10_isJoined_54 : decode cX10_isJoined 54 = .ok (.iconst 1, 1) := by decide +kernel
theorem dX10_isJoined_55 : decode cX10_isJoined 55 = .ok (.if_icmp .ne 16, 3) := by decide +kernel
theorem dX10_isJoined_58 : decode cX10_isJoined 58 = .ok (.iload_n 2, 1) := by decide +kernel
theorem dX10_isJoined_59 : decode cX10_isJoined 59 = .ok (.iload_n 3, 1) := by decide +kernel
theorem dX10_isJoined_60 : decode cX10_isJoined 60 = .ok (.if_icmp .lt 7, 3) := by decide +kernel
theorem dX10_isJoined_63 : decode cX10_isJoined 63 = .ok (.iconst 1, 1) := by decide +kernel
theorem dX10_isJoined_64 : decode cX10_isJoined 64 = .ok (.goto 47, 3) := by decide +kernel
theorem dX10_isJoined_67 : decode cX10_isJoined 67 = .ok (.iconst 0, 1) := by decide +kernel
theorem dX10_isJoined_68 : decode cX10_isJoined 68 = .ok (.goto 43, 3) := by decide +kernel
theorem dX10_isJoined_71 : decode cX10_isJoined 71 = .ok (.aload_n 0, 1) := by decide +kernel
theorem dX10_isJoined_72 : decode cX10_isJoined 72 = .ok (.getfield 63, 3) := by decide +kernel
theorem dX10_isJoined_75 : decode cX10_isJoined 75 = .ok (.iload_n 1, 1) := by decide +kernel
theorem dX10_isJoined_76 : decode cX10_isJoined 76 = .ok (.iaload, 1) := by decide +kernel
theorem dX10_isJoined_77 : decode cX10_isJoined 77 = .ok (.iconst 2, 1) := by decide +kernel
theorem dX10_isJoined_78 : decode cX10_isJoined 78 = .ok (.if_icmp .ne 17, 3) := by decide +kernel
theorem dX10_isJoined_81 : decode cX10_isJoined 81 = .ok (.iload_n 2, 1) := by decide +kernel
theorem dX10_isJoined_82 : decode cX10_isJoined 82 = .ok (.iload_n 3, 1) := by decide +kernel
theorem dX10_isJoined_83 : decode cX10_isJoined 83 = .ok (.ineg, 1) := by decide +kernel
theorem dX10_isJoined_84 : decode cX10_isJoined 84 = .ok (.if_icmp .gt 7, 3) := by decide +kernel
theorem dX10_isJoined_87 : decode cX10_isJoined 87 = .ok (.iconst 1, 1) := by decide +kernel
theorem dX10_isJoined_88 : decode cX10_isJoined 88 = .ok (.goto 23, 3) := by decide +kernel
theorem dX10_isJoined_91 : decode cX10_isJoined 91 = .ok (.iconst 0, 1) := by decide +kernel
theorem dX10_isJoined_92 : decode cX10_isJoined 92 = .ok (.goto 19, 3) := by decide +kernel
theorem dX10_isJoined_95 : decode cX10_isJoined 95 = .ok (.iload_n 2, 1) := by decide +kernel
theorem dX10_isJoined_96 : decode cX10_isJoined 96 = .ok (.iload_n 3, 1) := by decide +kernel
theorem dX10_isJoined_97 : decode cX10_isJoined 97 = .ok (.if_icmp .gt 13, 3) := by decide +kernel
theorem dX10_isJoined_100 : decode cX10_isJoined 100 = .ok (.iload_n 2, 1) := by decide +kernel
theorem dX10_isJoined_101 : decode cX10_isJoined 101 = .ok (.iload_n 3, 1) := by decide +kernel
theorem dX10_isJoined_102 : decode cX10_isJoined 102 = .ok (.ineg, 1) := by decide +kernel
theorem dX10_isJoined_103 : decode cX10_isJoined 103 = .ok (.if_icmp .lt 7, 3) := by decide +kernel
theorem dX10_isJoined_106 : decode cX10_isJoined 106 = .ok (.iconst 1, 1) := by decide +kernel
theorem dX10_isJoined_107 : decode cX10_isJoined 107 = .ok (.goto 4, 3) := by decide +kernel
theorem dX10_isJoined_110 : decode cX10_isJoined 110 = .ok (.iconst 0, 1) := by decide +kernel
theorem dX10_isJoined_111 : decode cX10_isJoined 111 = .ok (.ireturn, 1) := by decide +kernel
theorem dX10_judge_0 : decode cX10_judge 0 = .ok (.aload_n 0, 1) := by decide +kernel
theorem dX10_judge_1 : decode cX10_judge 1 = .ok (.getfield 196, 3) := by decide +kernel
theorem dX10_judge_4 : decode cX10_judge 4 = .ok (.istore_n 1, 1) := by decide +kernel
theorem dX10_judge_5 : decode cX10_judge 5 = .ok (.aload_n 0, 1) := by decide +kernel
theorem dX10_judge_6 : decode cX10_judge 6 = .ok (.iconst 0, 1) := by decide +kernel
theorem dX10_judge_7 : decode cX10_judge 7 = .ok (.putfield 196, 3) := by decide +kernel
theorem dX10_judge_10 : decode cX10_judge 10 = .ok (.iload_n 1, 1) := by decide +kernel
theorem dX10_judge_11 : decode cX10_judge 11 = .ok (.aload_n 0, 1) := by decide +kernel
theorem dX10_judge_12 : decode cX10_judge 12 = .ok (.getfield 125, 3) := by decide +kernel
theorem dX10_judge_15 : decode cX10_judge 15 = .ok (.if_icmp .eq 21, 3) := by decide +kernel
theorem dX10_judge_18 : decode cX10_judge 18 = .ok (.iload_n 1, 1) := by decide +kernel
theorem dX10_judge_19 : decode cX10_judge 19 = .ok (.aload_n 0, 1) := by decide +kernel
theorem dX10_judge_20 : decode cX10_judge 20 = .ok (.getfield 125, 3) := by decide +kernel
theorem dX10_judge_23 : decode cX10_judge 23 = .ok (.if_icmp .ge 9, 3) := by decide +kernel
theorem dX10_judge_26 : decode cX10_judge 26 = .ok (.sipush 1000, 3) := by decide +kernel
theorem dX10_judge_29 : decode cX10_judge 29 = .ok (.goto 6, 3) := by decide +kernel
theorem dX10_judge_32 : decode cX10_judge 32 = .ok (.sipush 1001, 3) := by decide +kernel
theorem dX10_judge_35 : decode cX10_judge 35 = .ok (.ireturn, 1) := by decide +kernel
theorem dX10_judge_36 : decode cX10_judge 36 = .ok (.aload_n 0, 1) := by decide +kernel
theorem dX10_judge_37 : decode cX10_judge 37 = .ok (.invokevirtual 182, 3) := by decide +kernel
theorem dX10_judge_40 : decode cX10_judge 40 = .ok (.iconst 0, 1) := by decide +kernel
theorem dX10_judge_41 : decode cX10_judge 41 = .ok (.istore_n 2, 1) := by decide +kernel
theorem dX10_judge_42 : decode cX10_judge 42 = .ok (.iload_n 2, 1) := by decide +kernel
theorem dX10_judge_43 : decode cX10_judge 43 = .ok (.aload_n 0, 1) := by decide +kernel
theorem dX10_judge_44 : decode cX10_judge 44 = .ok (.getfield 125, 3) := by decide +kernel
theorem dX10_judge_47 : decode cX10_judge 47 = .ok (.if_icmp .ge 88, 3) := by decide +kernel
theorem dX10_judge_50 : decode cX10_judge 50 = .ok (.iconst 0, 1) := by decide +kernel
theorem dX10_judge_51 : decode cX10_judge 51 = .ok (.istore_n 3, 1) := by decide +kernel
theorem dX10_judge_52 : decode cX10_judge 52 = .ok (.iload_n 3, 1) := by decide +kernel
theorem dX10_judge_53 : decode cX10_judge 53 = .ok (.aload_n 0, 1) := by decide +kernel
theorem dX10_judge_54 : decode cX10_judge 54 = .ok (.getfield 152, 3) := by decide +kernel
theorem dX10_judge_57 : decode cX10_judge 57 = .ok (.if_icmp .ge 53, 3) := by decide +kernel
theorem dX10_judge_60 : decode cX10_judge 60 = .ok (.aload_n 0, 1) := by decide +kernel
theorem dX10_judge_61 : decode cX10_judge 61 = .ok (.getfield 45, 3) := by decide +kernel
theorem dX10_judge_64 : decode cX10_judge 64 = .ok (.iload_n 3, 1) := by decide +kernel
theorem dX10_judge_65 : decode cX10_judge 65 = .ok (.iaload, 1) := by decide +kernel
theorem dX10_judge_66 : decode cX10_judge 66 = .ok (.iload_n 2, 1) := by decide +kernel
theorem dX10_judge_67 : decode cX10_judge 67 = .ok (.if_icmp .ne 37, 3) := by decide +kernel
theorem dX10_judge_70 : decode cX10_judge 70 = .ok (.aload_n 0, 1) := by decide +kernel
theorem dX10_judge_71 : decode cX10_judge 71 = .ok (.getfield 57, 3) := by decide +kernel
theorem dX10_judge_74 : decode cX10_judge 74 = .ok (.iload_n 3, 1) := by decide +kernel
theorem dX10_judge_75 : decode cX10_judge 75 = .ok (.iaload, 1) := by decide +kernel
theorem dX10_judge_76 : decode cX10_judge 76 = .ok (.ifCond .ne 28, 3) := by decide +kernel
theorem dX10_judge_79 : decode cX10_judge 79 = .ok (.aload_n 0, 1) := by decide +kernel
theorem dX10_judge_80 : decode cX10_judge 80 = .ok (.getfield 69, 3) := by decide +kernel
theorem dX10_judge_83 : decode cX10_judge 83 = .ok (.sipush 300, 3) := by decide +kernel
theorem dX10_judge_86 : decode cX10_judge 86 = .ok (.iload_n 3, 1) := by decide +kernel
theorem dX10_judge_87 : decode cX10_judge 87 = .ok (.imul, 1) := by decide +kernel
theorem dX10_judge_88 : decode cX10_judge 88 = .ok (.aload_n 0, 1) := by decide +kernel
theorem dX10_judge_89 : decode cX10_judge 89 = .ok (.getfield 89, 3) := by decide +kernel
theorem dX10_judge_92 : decode cX10_judge 92 = .ok (.iload_n 2, 1) := by decide +kernel
theorem dX10_judge_93 : decode cX10_judge 93 = .ok (.iaload, 1) := by decide +kernel
theorem dX10_judge_94 : decode cX10_judge 94 = .ok (.iadd, 1) := by decide +kernel
theorem dX10_judge_95 : decode cX10_judge 95 = .ok (.baload, 1) := by decide +kernel
theorem dX10_judge_96 : decode cX10_judge 96 = .ok (.ifCond .ne 8, 3) := by decide +kernel
theorem dX10_judge_99 : decode cX10_judge 99 = .ok (.bipush 100, 2) := by decide +kernel
theorem dX10_judge_101 : decode cX10_judge 101 = .ok (.iload_n 3, 1) := by decide +kernel
theorem dX10_judge_102 : decode cX10_judge 102 = .ok (.iadd, 1) := by decide +kernel
theorem dX10_judge_103 : decode cX10_judge 103 = .ok (.ireturn, 1) := by decide +kernel
theorem dX10_judge_104 : decode cX10_judge 104 = .ok (.iinc 3 1, 3) := by decide +kernel
theorem dX10_judge_107 : decode cX10_judge 107 = .ok (.goto (-55), 3) := by decide +kernel
theorem dX10_judge_110 : decode cX10_judge 110 = .ok (.aload_n 0, 1) := by decide +kernel
theorem dX10_judge_111 : decode cX10_judge 111 = .ok (.getfield 60, 3) := by decide +kernel
theorem dX10_judge_114 : decode cX10_judge 114 = .ok (.iload_n 2, 1) := by decide +kernel
theorem dX10_judge_115 : decode cX10_judge 115 = .ok (.iaload, 1) := by decide +kernel
theorem dX10_judge_116 : decode cX10_judge 116 = .ok (.ifCond .lt 13, 3) := by decide +kernel
theorem dX10_judge_119 : decode cX10_judge 119 = .ok (.aload_n 0, 1) := by decide +kernel
theorem dX10_judge_120 : decode cX10_judge 120 = .ok (.iload_n 2, 1) := by decide +kernel
theorem dX10_judge_121 : decode cX10_judge 121 = .ok (.invokevirtual 199, 3) := by decide +kernel
theorem dX10_judge_124 : decode cX10_judge 124 = .ok (.ifCond .ne 5, 3) := by decide +kernel
theorem dX10_judge_127 : decode cX10_judge 127 = .ok (.iload_n 2, 1) := by decide +kernel
theorem dX10_judge_128 : decode cX10_judge 128 = .ok (.ireturn, 1) := by decide +kernel
theorem dX10_judge_129 : decode cX10_judge 129 = .ok (.iinc 2 1, 3) := by decide +kernel
theorem dX10_judge_132 : decode cX10_judge 132 = .ok (.goto (-90), 3) := by decide +kernel
theorem dX10_judge_135 : decode cX10_judge 135 = .ok (.bipush (-9), 2) := by decide +kernel
theorem dX10_judge_137 : decode cX10_judge 137 = .ok (.ireturn, 1) := by decide +kernel
theorem dX10_bits_0 : decode cX10_bits 0 = .ok (.iconst 0, 1) := by decide +kernel
theorem dX10_bits_1 : decode cX10_bits 1 = .ok (.istore_n 1, 1) := by decide +kernel
theorem dX10_bits_2 : decode cX10_bits 2 = .ok (.iconst 0, 1) := by decide +kernel
theorem dX10_bits_3 : decode cX10_bits 3 = .ok (.istore_n 2, 1) := by decide +kernel
theorem dX10_bits_4 : decode cX10_bits 4 = .ok (.iload_n 2, 1) := by decide +kernel
theorem dX10_bits_5 : decode cX10_bits 5 = .ok (.bipush 31, 2) := by decide +kernel
theorem dX10_bits_7 : decode cX10_bits 7 = .ok (.if_icmp .ge 17, 3) := by decide +kernel
theorem dX10_bits_10 : decode cX10_bits 10 = .ok (.iload_n 1, 1) := by decide +kernel
theorem dX10_bits_11 : decode cX10_bits 11 = .ok (.iload_n 0, 1) := by decide +kernel
theorem dX10_bits_12 : decode cX10_bits 12 = .ok (.iload_n 2, 1) := by decide +kernel
theorem dX10_bits_13 : decode cX10_bits 13 = .ok (.ishr, 1) := by decide +kernel
theorem dX10_bits_14 : decode cX10_bits 14 = .ok (.iconst 1, 1) := by decide +kernel
theorem dX10_bits_15 : decode cX10_bits 15 = .ok (.iand, 1) := by decide +kernel
theorem dX10_bits_16 : decode cX10_bits 16 = .ok (.iadd, 1) := by decide +kernel
theorem dX10_bits_17 : decode cX10_bits 17 = .ok (.istore_n 1, 1) := by decide +kernel
theorem dX10_bits_18 : decode cX10_bits 18 = .ok (.iinc 2 1, 3) := by decide +kernel
theorem dX10_bits_21 : decode cX10_bits 21 = .ok (.goto (-17), 3) := by decide +kernel
theorem dX10_bits_24 : decode cX10_bits 24 = .ok (.iload_n 1, 1) := by decide +kernel
theorem dX10_bits_25 : decode cX10_bits 25 = .ok (.ireturn, 1) := by decide +kernel
theorem dX10_doubts_0 : decode cX10_doubts 0 = .ok (.aload_n 0, 1) := by decide +kernel
theorem dX10_doubts_1 : decode cX10_doubts 1 = .ok (.invokevirtual 182, 3) := by decide +kernel
theorem dX10_doubts_4 : decode cX10_doubts 4 = .ok (.aload_n 0, 1) := by decide +kernel
theorem dX10_doubts_5 : decode cX10_doubts 5 = .ok (.invokevirtual 175, 3) := by decide +kernel
theorem dX10_doubts_8 : decode cX10_doubts 8 = .ok (.iconst 0, 1) := by decide +kernel
theorem dX10_doubts_9 : decode cX10_doubts 9 = .ok (.istore_n 1, 1) := by decide +kernel
theorem dX10_doubts_10 : decode cX10_doubts 10 = .ok (.iconst 0, 1) := by decide +kernel
theorem dX10_doubts_11 : decode cX10_doubts 11 = .ok (.istore_n 2, 1) := by decide +kernel
theorem dX10_doubts_12 : decode cX10_doubts 12 = .ok (.iload_n 2, 1) := by decide +kernel
theorem dX10_doubts_13 : decode cX10_doubts 13 = .ok (.aload_n 0, 1) := by decide +kernel
theorem dX10_doubts_14 : decode cX10_doubts 14 = .ok (.getfield 152, 3) := by decide +kernel
theorem dX10_doubts_17 : decode cX10_doubts 17 = .ok (.if_icmp .ge 20, 3) := by decide +kernel
theorem dX10_doubts_20 : decode cX10_doubts 20 = .ok (.iload_n 1, 1) := by decide +kernel
theorem dX10_doubts_21 : decode cX10_doubts 21 = .ok (.aload_n 0, 1) := by decide +kernel
theorem dX10_doubts_22 : decode cX10_doubts 22 = .ok (.getfield 57, 3) := by decide +kernel
theorem dX10_doubts_25 : decode cX10_doubts 25 = .ok (.iload_n 2, 1) := by decide +kernel
theorem dX10_doubts_26 : decode cX10_doubts 26 = .ok (.iaload, 1) := by decide +kernel
theorem dX10_doubts_27 : decode cX10_doubts 27 = .ok (.iload_n 2, 1) := by decide +kernel
theorem dX10_doubts_28 : decode cX10_doubts 28 = .ok (.ishl, 1) := by decide +kernel
theorem dX10_doubts_29 : decode cX10_doubts 29 = .ok (.ior, 1) := by decide +kernel
theorem dX10_doubts_30 : decode cX10_doubts 30 = .ok (.istore_n 1, 1) := by decide +kernel
theorem dX10_doubts_31 : decode cX10_doubts 31 = .ok (.iinc 2 1, 3) := by decide +kernel
theorem dX10_doubts_34 : decode cX10_doubts 34 = .ok (.goto (-22), 3) := by decide +kernel
theorem dX10_doubts_37 : decode cX10_doubts 37 = .ok (.bipush (-9), 2) := by decide +kernel
theorem dX10_doubts_39 : decode cX10_doubts 39 = .ok (.istore_n 2, 1) := by decide +kernel
theorem dX10_doubts_40 : decode cX10_doubts 40 = .ok (.iconst 0, 1) := by decide +kernel
theorem dX10_doubts_41 : decode cX10_doubts 41 = .ok (.istore_n 3, 1) := by decide +kernel
theorem dX10_doubts_42 : decode cX10_doubts 42 = .ok (.iload_n 3, 1) := by decide +kernel
theorem dX10_doubts_43 : decode cX10_doubts 43 = .ok (.iconst 1, 1) := by decide +kernel
theorem dX10_doubts_44 : decode cX10_doubts 44 = .ok (.aload_n 0, 1) := by decide +kernel
theorem dX10_doubts_45 : decode cX10_doubts 45 = .ok (.getfield 152, 3) := by decide +kernel
theorem dX10_doubts_48 : decode cX10_doubts 48 = .ok (.ishl, 1) := by decide +kernel
theorem dX10_doubts_49 : decode cX10_doubts 49 = .ok (.if_icmp .ge 49, 3) := by decide +kernel
theorem dX10_doubts_52 : decode cX10_doubts 52 = .ok (.iload_n 3, 1) := by decide +kernel
theorem dX10_doubts_53 : decode cX10_doubts 53 = .ok (.iload_n 1, 1) := by decide +kernel
theorem dX10_doubts_54 : decode cX10_doubts 54 = .ok (.iand, 1) := by decide +kernel
theorem dX10_doubts_55 : decode cX10_doubts 55 = .ok (.ifCond .ne 37, 3) := by decide +kernel
theorem dX10_doubts_58 : decode cX10_doubts 58 = .ok (.iload_n 2, 1) := by decide +kernel
theorem dX10_doubts_59 : decode cX10_doubts 59 = .ok (.ifCond .lt 17, 3) := by decide +kernel
theorem dX10_doubts_62 : decode cX10_doubts 62 = .ok (.iload_n 3, 1) := by decide +kernel
theorem dX10_doubts_63 : decode cX10_doubts 63 = .ok (.invokestatic 202, 3) := by decide +kernel
theorem dX10_doubts_66 : decode cX10_doubts 66 = .ok (.iload_n 2, 1) := by decide +kernel
theorem dX10_doubts_67 : decode cX10_doubts 67 = .ok (.invokestatic 202, 3) := by decide +kernel
theorem dX10_doubts_70 : decode cX10_doubts 70 = .ok (.if_icmp .lt 6, 3) := by decide +kernel
theorem dX10_doubts_73 : decode cX10_doubts 73 = .ok (.goto 19, 3) := by decide +kernel
theorem dX10_doubts_76 : decode cX10_doubts 76 = .ok (.aload_n 0, 1) := by decide +kernel
theorem dX10_doubts_77 : decode cX10_doubts 77 = .ok (.iload_n 3, 1) := by decide +kernel
theorem dX10_doubts_78 : decode cX10_doubts 78 = .ok (.putfield 159, 3) := by decide +kernel
theorem dX10_doubts_81 : decode cX10_doubts 81 = .ok (.aload_n 0, 1) := by decide +kernel
theorem dX10_doubts_82 : decode cX10_doubts 82 = .ok (.invokevirtual 178, 3) := by decide +kernel
theorem dX10_doubts_85 : decode cX10_doubts 85 = .ok (.lconst 0, 1) := by decide +kernel
theorem dX10_doubts_86 : decode cX10_doubts 86 = .ok (.lcmp, 1) := by decide +kernel
theorem dX10_doubts_87 : decode cX10_doubts 87 = .ok (.ifCond .le 5, 3) := by decide +kernel
theorem dX10_doubts_90 : decode cX10_doubts 90 = .ok (.iload_n 3, 1) := by decide +kernel
theorem dX10_doubts_91 : decode cX10_doubts 91 = .ok (.istore_n 2, 1) := by decide +kernel
theorem dX10_doubts_92 : decode cX10_doubts 92 = .ok (.iinc 3 1, 3) := by decide +kernel
theorem dX10_doubts_95 : decode cX10_doubts 95 = .ok (.goto (-53), 3) := by decide +kernel
theorem dX10_doubts_98 : decode cX10_doubts 98 = .ok (.iload_n 2, 1) := by decide +kernel
theorem dX10_doubts_99 : decode cX10_doubts 99 = .ok (.ireturn, 1) := by decide +kernel
theorem dX10_opened_0 : decode cX10_opened 0 = .ok (.aload_n 0, 1) := by decide +kernel
theorem dX10_opened_1 : decode cX10_opened 1 = .ok (.getfield 35, 3) := by decide +kernel
theorem dX10_opened_4 : decode cX10_opened 4 = .ok (.istore_n 1, 1) := by decide +kernel
theorem dX10_opened_5 : decode cX10_opened 5 = .ok (.aload_n 0, 1) := by decide +kernel
theorem dX10_opened_6 : decode cX10_opened 6 = .ok (.getfield 38, 3) := by decide +kernel
theorem dX10_opened_9 : decode cX10_opened 9 = .ok (.istore_n 2, 1) := by decide +kernel
theorem dX10_opened_10 : decode cX10_opened 10 = .ok (.bipush (-9), 2) := by decide +kernel
theorem dX10_opened_12 : decode cX10_opened 12 = .ok (.istore_n 3, 1) := by decide +kernel
theorem dX10_opened_13 : decode cX10_opened 13 = .ok (.iconst 0, 1) := by decide +kernel
theorem dX10_opened_14 : decode cX10_opened 14 = .ok (.istore 4, 2) := by decide +kernel
theorem dX10_opened_16 : decode cX10_opened 16 = .ok (.iload 4, 2) := by decide +kernel
theorem dX10_opened_18 : decode cX10_opened 18 = .ok (.aload_n 0, 1) := by decide +kernel
theorem dX10_opened_19 : decode cX10_opened 19 = .ok (.getfield 136, 3) := by decide +kernel
theorem dX10_opened_22 : decode cX10_opened 22 = .ok (.if_icmp .ge 62, 3) := by decide +kernel
theorem dX10_opened_25 : decode cX10_opened 25 = .ok (.iload_n 3, 1) := by decide +kernel
theorem dX10_opened_26 : decode cX10_opened 26 = .ok (.bipush (-9), 2) := by decide +kernel
theorem dX10_opened_28 : decode cX10_opened 28 = .ok (.if_icmp .ne 56, 3) := by decide +kernel
theorem dX10_opened_31 : decode cX10_opened 31 = .ok (.aload_n 0, 1) := by decide +kernel
theorem dX10_opened_32 : decode cX10_opened 32 = .ok (.aload_n 0, 1) := by decide +kernel
theorem dX10_opened_33 : decode cX10_opened 33 = .ok (.getfield 25, 3) := by decide +kernel
theorem dX10_opened_36 : decode cX10_opened 36 = .ok (.iload 4, 2) := by decide +kernel
theorem dX10_opened_38 : decode cX10_opened 38 = .ok (.iaload, 1) := by decide +kernel
theorem dX10_opened_39 : decode cX10_opened 39 = .ok (.putfield 35, 3) := by decide +kernel
theorem dX10_opened_42 : decode cX10_opened 42 = .ok (.aload_n 0, 1) := by decide +kernel
theorem dX10_opened_43 : decode cX10_opened 43 = .ok (.aload_n 0, 1) := by decide +kernel
theorem dX10_opened_44 : decode cX10_opened 44 = .ok (.getfield 28, 3) := by decide +kernel
theorem dX10_opened_47 : decode cX10_opened 47 = .ok (.iload 4, 2) := by decide +kernel
theorem dX10_opened_49 : decode cX10_opened 49 = .ok (.iaload, 1) := by decide +kernel
theorem dX10_opened_50 : decode cX10_opened 50 = .ok (.putfield 38, 3) := by decide +kernel
theorem dX10_opened_53 : decode cX10_opened 53 = .ok (.aload_n 0, 1) := by decide +kernel
theorem dX10_opened_54 : decode cX10_opened 54 = .ok (.iconst 1, 1) := by decide +kernel
theorem dX10_opened_55 : decode cX10_opened 55 = .ok (.putfield 41, 3) := by decide +kernel
theorem dX10_opened_58 : decode cX10_opened 58 = .ok (.aload_n 0, 1) := by decide +kernel
theorem dX10_opened_59 : decode cX10_opened 59 = .ok (.invokevirtual 182, 3) := by decide +kernel
theorem dX10_opened_62 : decode cX10_opened 62 = .ok (.aload_n 0, 1) := by decide +kernel
theorem dX10_opened_63 : decode cX10_opened 63 = .ok (.invokevirtual 175, 3) := by decide +kernel
theorem dX10_opened_66 : decode cX10_opened 66 = .ok (.aload_n 0, 1) := by decide +kernel
theorem dX10_opened_67 : decode cX10_opened 67 = .ok (.invokevirtual 178, 3) := by decide +kernel
theorem dX10_opened_70 : decode cX10_opened 70 = .ok (.lconst 0, 1) := by decide +kernel
theorem dX10_opened_71 : decode cX10_opened 71 = .ok (.lcmp, 1) := by decide +kernel
theorem dX10_opened_72 : decode cX10_opened 72 = .ok (.ifCond .le 6, 3) := by decide +kernel
theorem dX10_opened_75 : decode cX10_opened 75 = .ok (.iload 4, 2) := by decide +kernel
theorem dX10_opened_77 : decode cX10_opened 77 = .ok (.istore_n 3, 1) := by decide +kernel
theorem dX10_opened_78 : decode cX10_opened 78 = .ok (.iinc 4 1, 3) := by decide +kernel
theorem dX10_opened_81 : decode cX10_opened 81 = .ok (.goto (-65), 3) := by decide +kernel
theorem dX10_opened_84 : decode cX10_opened 84 = .ok (.aload_n 0, 1) := by decide +kernel
theorem dX10_opened_85 : decode cX10_opened 85 = .ok (.iload_n 1, 1) := by decide +kernel
theorem dX10_opened_86 : decode cX10_opened 86 = .ok (.putfield 35, 3) := by decide +kernel
theorem dX10_opened_89 : decode cX10_opened 89 = .ok (.aload_n 0, 1) := by decide +kernel
theorem dX10_opened_90 : decode cX10_opened 90 = .ok (.iload_n 2, 1) := by decide +kernel
theorem dX10_opened_91 : decode cX10_opened 91 = .ok (.putfield 38, 3) := by decide +kernel
theorem dX10_opened_94 : decode cX10_opened 94 = .ok (.aload_n 0, 1) := by decide +kernel
theorem dX10_opened_95 : decode cX10_opened 95 = .ok (.iconst 1, 1) := by decide +kernel
theorem dX10_opened_96 : decode cX10_opened 96 = .ok (.putfield 41, 3) := by decide +kernel
theorem dX10_opened_99 : decode cX10_opened 99 = .ok (.iload_n 3, 1) := by decide +kernel
theorem dX10_opened_100 : decode cX10_opened 100 = .ok (.ireturn, 1) := by decide +kernel
theorem dX10_hangs_0 : decode cX10_hangs 0 = .ok (.aload_n 0, 1) := by decide +kernel
theorem dX10_hangs_1 : decode cX10_hangs 1 = .ok (.invokevirtual 182, 3) := by decide +kernel
theorem dX10_hangs_4 : decode cX10_hangs 4 = .ok (.aload_n 0, 1) := by decide +kernel
theorem dX10_hangs_5 : decode cX10_hangs 5 = .ok (.invokevirtual 175, 3) := by decide +kernel
theorem dX10_hangs_8 : decode cX10_hangs 8 = .ok (.aload_n 0, 1) := by decide +kernel
theorem dX10_hangs_9 : decode cX10_hangs 9 = .ok (.invokevirtual 178, 3) := by decide +kernel
theorem dX10_hangs_12 : decode cX10_hangs 12 = .ok (.lstore_n 1, 1) := by decide +kernel
theorem dX10_hangs_13 : decode cX10_hangs 13 = .ok (.bipush (-9), 2) := by decide +kernel
theorem dX10_hangs_15 : decode cX10_hangs 15 = .ok (.istore_n 3, 1) := by decide +kernel
theorem dX10_hangs_16 : decode cX10_hangs 16 = .ok (.iconst 0, 1) := by decide +kernel
theorem dX10_hangs_17 : decode cX10_hangs 17 = .ok (.istore 4, 2) := by decide +kernel
theorem dX10_hangs_19 : decode cX10_hangs 19 = .ok (.iload 4, 2) := by decide +kernel
theorem dX10_hangs_21 : decode cX10_hangs 21 = .ok (.aload_n 0, 1) := by decide +kernel
theorem dX10_hangs_22 : decode cX10_hangs 22 = .ok (.getfield 125, 3) := by decide +kernel
theorem dX10_hangs_25 : decode cX10_hangs 25 = .ok (.if_icmp .ge 83, 3) := by decide +kernel
theorem dX10_hangs_28 : decode cX10_hangs 28 = .ok (.aload_n 0, 1) := by decide +kernel
theorem dX10_hangs_29 : decode cX10_hangs 29 = .ok (.iconst 0, 1) := by decide +kernel
theorem dX10_hangs_30 : decode cX10_hangs 30 = .ok (.putfield 159, 3) := by decide +kernel
theorem dX10_hangs_33 : decode cX10_hangs 33 = .ok (.iconst 0, 1) := by decide +kernel
theorem dX10_hangs_34 : decode cX10_hangs 34 = .ok (.istore 5, 2) := by decide +kernel
theorem dX10_hangs_36 : decode cX10_hangs 36 = .ok (.iload 5, 2) := by decide +kernel
theorem dX10_hangs_38 : decode cX10_hangs 38 = .ok (.aload_n 0, 1) := by decide +kernel
theorem dX10_hangs_39 : decode cX10_hangs 39 = .ok (.getfield 152, 3) := by decide +kernel
theorem dX10_hangs_42 : decode cX10_hangs 42 = .ok (.if_icmp .ge 38, 3) := by decide +kernel
theorem dX10_hangs_45 : decode cX10_hangs 45 = .ok (.aload_n 0, 1) := by decide +kernel
theorem dX10_hangs_46 : decode cX10_hangs 46 = .ok (.dup, 1) := by decide +kernel
theorem dX10_hangs_47 : decode cX10_hangs 47 = .ok (.getfield 159, 3) := by decide +kernel
theorem dX10_hangs_50 : decode cX10_hangs 50 = .ok (.aload_n 0, 1) := by decide +kernel
theorem dX10_hangs_51 : decode cX10_hangs 51 = .ok (.getfield 45, 3) := by decide +kernel
theorem dX10_hangs_54 : decode cX10_hangs 54 = .ok (.iload 5, 2) := by decide +kernel
theorem dX10_hangs_56 : decode cX10_hangs 56 = .ok (.iaload, 1) := by decide +kernel
theorem dX10_hangs_57 : decode cX10_hangs 57 = .ok (.iload 4, 2) := by decide +kernel
theorem dX10_hangs_59 : decode cX10_hangs 59 = .ok (.if_icmp .ne 10, 3) := by decide +kernel
theorem dX10_hangs_62 : decode cX10_hangs 62 = .ok (.iconst 1, 1) := by decide +kernel
theorem dX10_hangs_63 : decode cX10_hangs 63 = .ok (.iload 5, 2) := by decide +kernel
theorem dX10_hangs_65 : decode cX10_hangs 65 = .ok (.ishl, 1) := by decide +kernel
theorem dX10_hangs_66 : decode cX10_hangs 66 = .ok (.goto 4, 3) := by decide +kernel
theorem dX10_hangs_69 : decode cX10_hangs 69 = .ok (.iconst 0, 1) := by decide +kernel
theorem dX10_hangs_70 : decode cX10_hangs 70 = .ok (.ior, 1) := by decide +kernel
theorem dX10_hangs_71 : decode cX10_hangs 71 = .ok (.putfield 159, 3) := by decide +kernel
theorem dX10_hangs_74 : decode cX10_hangs 74 = .ok (.iinc 5 1, 3) := by decide +kernel
theorem dX10_hangs_77 : decode cX10_hangs 77 = .ok (.goto (-41), 3) := by decide +kernel
theorem dX10_hangs_80 : decode cX10_hangs 80 = .ok (.aload_n 0, 1) := by decide +kernel
theorem dX10_hangs_81 : decode cX10_hangs 81 = .ok (.invokevirtual 178, 3) := by decide +kernel
theorem dX10_hangs_84 : decode cX10_hangs 84 = .ok (.lstore 5, 2) := by decide +kernel
theorem dX10_hangs_86 : decode cX10_hangs 86 = .ok (.lload 5, 2) := by decide +kernel
theorem dX10_hangs_88 : decode cX10_hangs 88 = .ok (.lload_n 1, 1) := by decide +kernel
theorem dX10_hangs_89 : decode cX10_hangs 89 = .ok (.lcmp, 1) := by decide +kernel
theorem dX10_hangs_90 : decode cX10_hangs 90 = .ok (.ifCond .gt 6, 3) := by decide +kernel
theorem dX10_hangs_93 : decode cX10_hangs 93 = .ok (.goto 9, 3) := by decide +kernel
theorem dX10_hangs_96 : decode cX10_hangs 96 = .ok (.lload 5, 2) := by decide +kernel
theorem dX10_hangs_98 : decode cX10_hangs 98 = .ok (.lstore_n 1, 1) := by decide +kernel
theorem dX10_hangs_99 : decode cX10_hangs 99 = .ok (.iload 4, 2) := by decide +kernel
theorem dX10_hangs_101 : decode cX10_hangs 101 = .ok (.istore_n 3, 1) := by decide +kernel
theorem dX10_hangs_102 : decode cX10_hangs 102 = .ok (.iinc 4 1, 3) := by decide +kernel
theorem dX10_hangs_105 : decode cX10_hangs 105 = .ok (.goto (-86), 3) := by decide +kernel
theorem dX10_hangs_108 : decode cX10_hangs 108 = .ok (.iload_n 3, 1) := by decide +kernel
theorem dX10_hangs_109 : decode cX10_hangs 109 = .ok (.ireturn, 1) := by decide +kernel
theorem dX10_ahead_0 : decode cX10_ahead 0 = .ok (.aload_n 0, 1) := by decide +kernel
theorem dX10_ahead_1 : decode cX10_ahead 1 = .ok (.iload_n 1, 1) := by decide +kernel
theorem dX10_ahead_2 : decode cX10_ahead 2 = .ok (.invokevirtual 132, 3) := by decide +kernel
theorem dX10_ahead_5 : decode cX10_ahead 5 = .ok (.ifCond .eq 16, 3) := by decide +kernel
theorem dX10_ahead_8 : decode cX10_ahead 8 = .ok (.aload_n 0, 1) := by decide +kernel
theorem dX10_ahead_9 : decode cX10_ahead 9 = .ok (.iload_n 2, 1) := by decide +kernel
theorem dX10_ahead_10 : decode cX10_ahead 10 = .ok (.invokevirtual 132, 3) := by decide +kernel
theorem dX10_ahead_13 : decode cX10_ahead 13 = .ok (.ifCond .eq 8, 3) := by decide +kernel
theorem dX10_ahead_16 : decode cX10_ahead 16 = .ok (.iload_n 1, 1) := by decide +kernel
theorem dX10_ahead_17 : decode cX10_ahead 17 = .ok (.iload_n 2, 1) := by decide +kernel
theorem dX10_ahead_18 : decode cX10_ahead 18 = .ok (.if_icmp .ne 9, 3) := by decide +kernel
theorem dX10_ahead_21 : decode cX10_ahead 21 = .ok (.aload_n 0, 1) := by decide +kernel
theorem dX10_ahead_22 : decode cX10_ahead 22 = .ok (.iconst (-1), 1) := by decide +kernel
theorem dX10_ahead_23 : decode cX10_ahead 23 = .ok (.invokevirtual 105, 3) := by decide +kernel
theorem dX10_ahead_26 : decode cX10_ahead 26 = .ok (.ireturn, 1) := by decide +kernel
theorem dX10_ahead_27 : decode cX10_ahead 27 = .ok (.aload_n 0, 1) := by decide +kernel
theorem dX10_ahead_28 : decode cX10_ahead 28 = .ok (.invokevirtual 182, 3) := by decide +kernel
theorem dX10_ahead_31 : decode cX10_ahead 31 = .ok (.aload_n 0, 1) := by decide +kernel
theorem dX10_ahead_32 : decode cX10_ahead 32 = .ok (.invokevirtual 175, 3) := by decide +kernel
theorem dX10_ahead_35 : decode cX10_ahead 35 = .ok (.aload_n 0, 1) := by decide +kernel
theorem dX10_ahead_36 : decode cX10_ahead 36 = .ok (.invokevirtual 178, 3) := by decide +kernel
theorem dX10_ahead_39 : decode cX10_ahead 39 = .ok (.lstore_n 3, 1) := by decide +kernel
theorem dX10_ahead_40 : decode cX10_ahead 40 = .ok (.lload_n 3, 1) := by decide +kernel
theorem dX10_ahead_41 : decode cX10_ahead 41 = .ok (.lconst 0, 1) := by decide +kernel
theorem dX10_ahead_42 : decode cX10_ahead 42 = .ok (.lcmp, 1) := by decide +kernel
theorem dX10_ahead_43 : decode cX10_ahead 43 = .ok (.ifCond .ne 6, 3) := by decide +kernel
theorem dX10_ahead_46 : decode cX10_ahead 46 = .ok (.bipush (-9), 2) := by decide +kernel
theorem dX10_ahead_48 : decode cX10_ahead 48 = .ok (.ireturn, 1) := by decide +kernel
theorem dX10_ahead_49 : decode cX10_ahead 49 = .ok (.lconst 0, 1) := by decide +kernel
theorem dX10_ahead_50 : decode cX10_ahead 50 = .ok (.lstore 5, 2) := by decide +kernel
theorem dX10_ahead_52 : decode cX10_ahead 52 = .ok (.iconst 0, 1) := by decide +kernel
theorem dX10_ahead_53 : decode cX10_ahead 53 = .ok (.istore 7, 2) := by decide +kernel
theorem dX10_ahead_55 : decode cX10_ahead 55 = .ok (.iload 7, 2) := by decide +kernel
theorem dX10_ahead_57 : decode cX10_ahead 57 = .ok (.sipush 299, 3) := by decide +kernel
theorem dX10_ahead_60 : decode cX10_ahead 60 = .ok (.if_icmp .ge 44, 3) := by decide +kernel
theorem dX10_ahead_63 : decode cX10_ahead 63 = .ok (.aload_n 0, 1) := by decide +kernel
theorem dX10_ahead_64 : decode cX10_ahead 64 = .ok (.getfield 73, 3) := by decide +kernel
theorem dX10_ahead_67 : decode cX10_ahead 67 = .ok (.iload_n 1, 1) := by decide +kernel
theorem dX10_ahead_68 : decode cX10_ahead 68 = .ok (.iload 7, 2) := by decide +kernel
theorem dX10_ahead_70 : decode cX10_ahead 70 = .ok (.iastore, 1) := by decide +kernel
theorem dX10_ahead_71 : decode cX10_ahead 71 = .ok (.aload_n 0, 1) := by decide +kernel
theorem dX10_ahead_72 : decode cX10_ahead 72 = .ok (.getfield 76, 3) := by decide +kernel
theorem dX10_ahead_75 : decode cX10_ahead 75 = .ok (.iload_n 1, 1) := by decide +kernel
theorem dX10_ahead_76 : decode cX10_ahead 76 = .ok (.iload 7, 2) := by decide +kernel
theorem dX10_ahead_78 : decode cX10_ahead 78 = .ok (.iastore, 1) := by decide +kernel
theorem dX10_ahead_79 : decode cX10_ahead 79 = .ok (.aload_n 0, 1) := by decide +kernel
theorem dX10_ahead_80 : decode cX10_ahead 80 = .ok (.getfield 73, 3) := by decide +kernel
theorem dX10_ahead_83 : decode cX10_ahead 83 = .ok (.iload_n 2, 1) := by decide +kernel
theorem dX10_ahead_84 : decode cX10_ahead 84 = .ok (.iload 7, 2) := by decide +kernel
theorem dX10_ahead_86 : decode cX10_ahead 86 = .ok (.iconst 1, 1) := by decide +kernel
theorem dX10_ahead_87 : decode cX10_ahead 87 = .ok (.iadd, 1) := by decide +kernel
theorem dX10_ahead_88 : decode cX10_ahead 88 = .ok (.iastore, 1) := by decide +kernel
theorem dX10_ahead_89 : decode cX10_ahead 89 = .ok (.lload 5, 2) := by decide +kernel
theorem dX10_ahead_91 : decode cX10_ahead 91 = .ok (.aload_n 0, 1) := by decide +kernel
theorem dX10_ahead_92 : decode cX10_ahead 92 = .ok (.invokevirtual 178, 3) := by decide +kernel
theorem dX10_ahead_95 : decode cX10_ahead 95 = .ok (.ladd, 1) := by decide +kernel
theorem dX10_ahead_96 : decode cX10_ahead 96 = .ok (.lstore 5, 2) := by decide +kernel
theorem dX10_ahead_98 : decode cX10_ahead 98 = .ok (.iinc 7 1, 3) := by decide +kernel
theorem dX10_ahead_101 : decode cX10_ahead 101 = .ok (.goto (-46), 3) := by decide +kernel
theorem dX10_ahead_104 : decode cX10_ahead 104 = .ok (.lload 5, 2) := by decide +kernel
theorem dX10_ahead_106 : decode cX10_ahead 106 = .ok (.lload_n 3, 1) := by decide +kernel
theorem dX10_ahead_107 : decode cX10_ahead 107 = .ok (.lcmp, 1) := by decide +kernel
theorem dX10_ahead_108 : decode cX10_ahead 108 = .ok (.ifCond .ne 7, 3) := by decide +kernel
theorem dX10_ahead_111 : decode cX10_ahead 111 = .ok (.iconst 1, 1) := by decide +kernel
theorem dX10_ahead_112 : decode cX10_ahead 112 = .ok (.goto 15, 3) := by decide +kernel
theorem dX10_ahead_115 : decode cX10_ahead 115 = .ok (.lload 5, 2) := by decide +kernel
theorem dX10_ahead_117 : decode cX10_ahead 117 = .ok (.lconst 0, 1) := by decide +kernel
theorem dX10_ahead_118 : decode cX10_ahead 118 = .ok (.lcmp, 1) := by decide +kernel
theorem dX10_ahead_119 : decode cX10_ahead 119 = .ok (.ifCond .ne 7, 3) := by decide +kernel
theorem dX10_ahead_122 : decode cX10_ahead 122 = .ok (.iconst 0, 1) := by decide +kernel
theorem dX10_ahead_123 : decode cX10_ahead 123 = .ok (.goto 4, 3) := by decide +kernel
theorem dX10_ahead_126 : decode cX10_ahead 126 = .ok (.iconst 2, 1) := by decide +kernel
theorem dX10_ahead_127 : decode cX10_ahead 127 = .ok (.ireturn, 1) := by decide +kernel
theorem dX10_narrowOf_0 : decode cX10_narrowOf 0 = .ok (.aload_n 0, 1) := by decide +kernel
theorem dX10_narrowOf_1 : decode cX10_narrowOf 1 = .ok (.iload_n 1, 1) := by decide +kernel
theorem dX10_narrowOf_2 : decode cX10_narrowOf 2 = .ok (.invokevirtual 188, 3) := by decide +kernel
theorem dX10_narrowOf_5 : decode cX10_narrowOf 5 = .ok (.iconst 0, 1) := by decide +kernel
theorem dX10_narrowOf_6 : decode cX10_narrowOf 6 = .ok (.istore_n 3, 1) := by decide +kernel
theorem dX10_narrowOf_7 : decode cX10_narrowOf 7 = .ok (.iload_n 3, 1) := by decide +kernel
theorem dX10_narrowOf_8 : decode cX10_narrowOf 8 = .ok (.sipush 10000, 3) := by decide +kernel
theorem dX10_narrowOf_11 : decode cX10_narrowOf 11 = .ok (.if_icmp .ge 16, 3) := by decide +kernel
theorem dX10_narrowOf_14 : decode cX10_narrowOf 14 = .ok (.aload_n 0, 1) := by decide +kernel
theorem dX10_narrowOf_15 : decode cX10_narrowOf 15 = .ok (.getfield 92, 3) := by decide +kernel
theorem dX10_narrowOf_18 : decode cX10_narrowOf 18 = .ok (.iload_n 3, 1) := by decide +kernel
theorem dX10_narrowOf_19 : decode cX10_narrowOf 19 = .ok (.iconst 0, 1) := by decide +kernel
theorem dX10_narrowOf_20 : decode cX10_narrowOf 20 = .ok (.iastore, 1) := by decide +kernel
theorem dX10_narrowOf_21 : decode cX10_narrowOf 21 = .ok (.iinc 3 1, 3) := by decide +kernel
theorem dX10_narrowOf_24 : decode cX10_narrowOf 24 = .ok (.goto (-17), 3) := by decide +kernel
theorem dX10_narrowOf_27 : decode cX10_narrowOf 27 = .ok (.bipush (-9), 2) := by decide +kernel
theorem dX10_narrowOf_29 : decode cX10_narrowOf 29 = .ok (.istore_n 3, 1) := by decide +kernel
theorem dX10_narrowOf_30 : decode cX10_narrowOf 30 = .ok (.iconst 0, 1) := by decide +kernel
theorem dX10_narrowOf_31 : decode cX10_narrowOf 31 = .ok (.istore 4, 2) := by decide +kernel
theorem dX10_narrowOf_33 : decode cX10_narrowOf 33 = .ok (.iload 4, 2) := by decide +kernel
theorem dX10_narrowOf_35 : decode cX10_narrowOf 35 = .ok (.iload_n 2, 1) := by decide +kernel
theorem dX10_narrowOf_36 : decode cX10_narrowOf 36 = .ok (.if_icmp .gt 69, 3) := by decide +kernel
theorem dX10_narrowOf_39 : decode cX10_narrowOf 39 = .ok (.aload_n 0, 1) := by decide +kernel
theorem dX10_narrowOf_40 : decode cX10_narrowOf 40 = .ok (.getfield 86, 3) := by decide +kernel
theorem dX10_narrowOf_43 : decode cX10_narrowOf 43 = .ok (.iload 4, 2) := by decide +kernel
theorem dX10_narrowOf_45 : decode cX10_narrowOf 45 = .ok (.baload, 1) := by decide +kernel
theorem dX10_narrowOf_46 : decode cX10_narrowOf 46 = .ok (.ifCond .ne 6, 3) := by decide +kernel
theorem dX10_narrowOf_49 : decode cX10_narrowOf 49 = .ok (.goto 50, 3) := by decide +kernel
theorem dX10_narrowOf_52 : decode cX10_narrowOf 52 = .ok (.aload_n 0, 1) := by decide +kernel
theorem dX10_narrowOf_53 : decode cX10_narrowOf 53 = .ok (.iload_n 1, 1) := by decide +kernel
theorem dX10_narrowOf_54 : decode cX10_narrowOf 54 = .ok (.iload 4, 2) := by decide +kernel
theorem dX10_narrowOf_56 : decode cX10_narrowOf 56 = .ok (.iload_n 2, 1) := by decide +kernel
theorem dX10_narrowOf_57 : decode cX10_narrowOf 57 = .ok (.iload 4, 2) := by decide +kernel
theorem dX10_narrowOf_59 : decode cX10_narrowOf 59 = .ok (.isub, 1) := by decide +kernel
theorem dX10_narrowOf_60 : decode cX10_narrowOf 60 = .ok (.invokevirtual 149, 3) := by decide +kernel
theorem dX10_narrowOf_63 : decode cX10_narrowOf 63 = .ok (.istore 5, 2) := by decide +kernel
theorem dX10_narrowOf_65 : decode cX10_narrowOf 65 = .ok (.aload_n 0, 1) := by decide +kernel
theorem dX10_narrowOf_66 : decode cX10_narrowOf 66 = .ok (.getfield 92, 3) := by decide +kernel
theorem dX10_narrowOf_69 : decode cX10_narrowOf 69 = .ok (.iload 5, 2) := by decide +kernel
theorem dX10_narrowOf_71 : decode cX10_narrowOf 71 = .ok (.dup2, 1) := by decide +kernel
theorem dX10_narrowOf_72 : decode cX10_narrowOf 72 = .ok (.iaload, 1) := by decide +kernel
theorem dX10_narrowOf_73 : decode cX10_narrowOf 73 = .ok (.iconst 1, 1) := by decide +kernel
theorem dX10_narrowOf_74 : decode cX10_narrowOf 74 = .ok (.iadd, 1) := by decide +kernel
theorem dX10_narrowOf_75 : decode cX10_narrowOf 75 = .ok (.iastore, 1) := by decide +kernel
theorem dX10_narrowOf_76 : decode cX10_narrowOf 76 = .ok (.aload_n 0, 1) := by decide +kernel
theorem dX10_narrowOf_77 : decode cX10_narrowOf 77 = .ok (.getfield 92, 3) := by decide +kernel
theorem dX10_narrowOf_80 : decode cX10_narrowOf 80 = .ok (.iload 5, 2) := by decide +kernel
theorem dX10_narrowOf_82 : decode cX10_narrowOf 82 = .ok (.iaload, 1) := by decide +kernel
theorem dX10_narrowOf_83 : decode cX10_narrowOf 83 = .ok (.iload_n 3, 1) := by decide +kernel
theorem dX10_narrowOf_84 : decode cX10_narrowOf 84 = .ok (.if_icmp .le 13, 3) := by decide +kernel
theorem dX10_narrowOf_87 : decode cX10_narrowOf 87 = .ok (.aload_n 0, 1) := by decide +kernel
theorem dX10_narrowOf_88 : decode cX10_narrowOf 88 = .ok (.getfield 92, 3) := by decide +kernel
theorem dX10_narrowOf_91 : decode cX10_narrowOf 91 = .ok (.iload 5, 2) := by decide +kernel
theorem dX10_narrowOf_93 : decode cX10_narrowOf 93 = .ok (.iaload, 1) := by decide +kernel
theorem dX10_narrowOf_94 : decode cX10_narrowOf 94 = .ok (.goto 4, 3) := by decide +kernel
theorem dX10_narrowOf_97 : decode cX10_narrowOf 97 = .ok (.iload_n 3, 1) := by decide +kernel
theorem dX10_narrowOf_98 : decode cX10_narrowOf 98 = .ok (.istore_n 3, 1) := by decide +kernel
theorem dX10_narrowOf_99 : decode cX10_narrowOf 99 = .ok (.iinc 4 1, 3) := by decide +kernel
theorem dX10_narrowOf_102 : decode cX10_narrowOf 102 = .ok (.goto (-69), 3) := by decide +kernel
theorem dX10_narrowOf_105 : decode cX10_narrowOf 105 = .ok (.iload_n 3, 1) := by decide +kernel
theorem dX10_narrowOf_106 : decode cX10_narrowOf 106 = .ok (.ireturn, 1) := by decide +kernel
theorem dX10_narrow_0 : decode cX10_narrow 0 = .ok (.aload_n 0, 1) := by decide +kernel
theorem dX10_narrow_1 : decode cX10_narrow 1 = .ok (.iload_n 1, 1) := by decide +kernel
theorem dX10_narrow_2 : decode cX10_narrow 2 = .ok (.invokevirtual 132, 3) := by decide +kernel
theorem dX10_narrow_5 : decode cX10_narrow 5 = .ok (.ifCond .ne 9, 3) := by decide +kernel
theorem dX10_narrow_8 : decode cX10_narrow 8 = .ok (.aload_n 0, 1) := by decide +kernel
theorem dX10_narrow_9 : decode cX10_narrow 9 = .ok (.iconst (-1), 1) := by decide +kernel
theorem dX10_narrow_10 : decode cX10_narrow 10 = .ok (.invokevirtual 105, 3) := by decide +kernel
theorem dX10_narrow_13 : decode cX10_narrow 13 = .ok (.ireturn, 1) := by decide +kernel
theorem dX10_narrow_14 : decode cX10_narrow 14 = .ok (.iload_n 2, 1) := by decide +kernel
theorem dX10_narrow_15 : decode cX10_narrow 15 = .ok (.iconst 0, 1) := by decide +kernel
theorem dX10_narrow_16 : decode cX10_narrow 16 = .ok (.sipush 299, 3) := by decide +kernel
theorem dX10_narrow_19 : decode cX10_narrow 19 = .ok (.invokestatic 98, 3) := by decide +kernel
theorem dX10_narrow_22 : decode cX10_narrow 22 = .ok (.istore_n 3, 1) := by decide +kernel
theorem dX10_narrow_23 : decode cX10_narrow 23 = .ok (.iload_n 3, 1) := by decide +kernel
theorem dX10_narrow_24 : decode cX10_narrow 24 = .ok (.ifCond .eq 11, 3) := by decide +kernel
theorem dX10_narrow_27 : decode cX10_narrow 27 = .ok (.aload_n 0, 1) := by decide +kernel
theorem dX10_narrow_28 : decode cX10_narrow 28 = .ok (.iload_n 3, 1) := by decide +kernel
theorem dX10_narrow_29 : decode cX10_narrow 29 = .ok (.invokevirtual 105, 3) := by decide +kernel
theorem dX10_narrow_32 : decode cX10_narrow 32 = .ok (.goto 9, 3) := by decide +kernel
theorem dX10_narrow_35 : decode cX10_narrow 35 = .ok (.aload_n 0, 1) := by decide +kernel
theorem dX10_narrow_36 : decode cX10_narrow 36 = .ok (.iload_n 1, 1) := by decide +kernel
theorem dX10_narrow_37 : decode cX10_narrow 37 = .ok (.iload_n 2, 1) := by decide +kernel
theorem dX10_narrow_38 : decode cX10_narrow 38 = .ok (.invokevirtual 205, 3) := by decide +kernel
theorem dX10_narrow_41 : decode cX10_narrow 41 = .ok (.ireturn, 1) := by decide +kernel
theorem dX10_next_0 : decode cX10_next 0 = .ok (.iload_n 1, 1) := by decide +kernel
theorem dX10_next_1 : decode cX10_next 1 = .ok (.iconst 0, 1) := by decide +kernel
theorem dX10_next_2 : decode cX10_next 2 = .ok (.sipush 299, 3) := by decide +kernel
theorem dX10_next_5 : decode cX10_next 5 = .ok (.invokestatic 98, 3) := by decide +kernel
theorem dX10_next_8 : decode cX10_next 8 = .ok (.istore_n 2, 1) := by decide +kernel
theorem dX10_next_9 : decode cX10_next 9 = .ok (.iload_n 2, 1) := by decide +kernel
theorem dX10_next_10 : decode cX10_next 10 = .ok (.ifCond .eq 9, 3) := by decide +kernel
theorem dX10_next_13 : decode cX10_next 13 = .ok (.aload_n 0, 1) := by decide +kernel
theorem dX10_next_14 : decode cX10_next 14 = .ok (.iload_n 2, 1) := by decide +kernel
theorem dX10_next_15 : decode cX10_next 15 = .ok (.invokevirtual 105, 3) := by decide +kernel
theorem dX10_next_18 : decode cX10_next 18 = .ok (.ireturn, 1) := by decide +kernel
theorem dX10_next_19 : decode cX10_next 19 = .ok (.bipush (-9), 2) := by decide +kernel
theorem dX10_next_21 : decode cX10_next 21 = .ok (.istore_n 3, 1) := by decide +kernel
theorem dX10_next_22 : decode cX10_next 22 = .ok (.iconst 0, 1) := by decide +kernel
theorem dX10_next_23 : decode cX10_next 23 = .ok (.istore 4, 2) := by decide +kernel
theorem dX10_next_25 : decode cX10_next 25 = .ok (.iconst 0, 1) := by decide +kernel
theorem dX10_next_26 : decode cX10_next 26 = .ok (.istore 5, 2) := by decide +kernel
theorem dX10_next_28 : decode cX10_next 28 = .ok (.iload 5, 2) := by decide +kernel
theorem dX10_next_30 : decode cX10_next 30 = .ok (.aload_n 0, 1) := by decide +kernel
theorem dX10_next_31 : decode cX10_next 31 = .ok (.getfield 125, 3) := by decide +kernel
theorem dX10_next_34 : decode cX10_next 34 = .ok (.if_icmp .ge 46, 3) := by decide +kernel
theorem dX10_next_37 : decode cX10_next 37 = .ok (.aload_n 0, 1) := by decide +kernel
theorem dX10_next_38 : decode cX10_next 38 = .ok (.iload 5, 2) := by decide +kernel
theorem dX10_next_40 : decode cX10_next 40 = .ok (.iload_n 1, 1) := by decide +kernel
theorem dX10_next_41 : decode cX10_next 41 = .ok (.invokevirtual 205, 3) := by decide +kernel
theorem dX10_next_44 : decode cX10_next 44 = .ok (.istore 6, 2) := by decide +kernel
theorem dX10_next_46 : decode cX10_next 46 = .ok (.iload 6, 2) := by decide +kernel
theorem dX10_next_48 : decode cX10_next 48 = .ok (.bipush (-9), 2) := by decide +kernel
theorem dX10_next_50 : decode cX10_next 50 = .ok (.if_icmp .eq 24, 3) := by decide +kernel
theorem dX10_next_53 : decode cX10_next 53 = .ok (.iload_n 3, 1) := by decide +kernel
theorem dX10_next_54 : decode cX10_next 54 = .ok (.ifCond .lt 13, 3) := by decide +kernel
theorem dX10_next_57 : decode cX10_next 57 = .ok (.iload 6, 2) := by decide +kernel
theorem dX10_next_59 : decode cX10_next 59 = .ok (.iload 4, 2) := by decide +kernel
theorem dX10_next_61 : decode cX10_next 61 = .ok (.if_icmp .lt 6, 3) := by decide +kernel
theorem dX10_next_64 : decode cX10_next 64 = .ok (.goto 10, 3) := by decide +kernel
theorem dX10_next_67 : decode cX10_next 67 = .ok (.iload 5, 2) := by decide +kernel
theorem dX10_next_69 : decode cX10_next 69 = .ok (.istore_n 3, 1) := by decide +kernel
theorem dX10_next_70 : decode cX10_next 70 = .ok (.iload 6, 2) := by decide +kernel
theorem dX10_next_72 : decode cX10_next 72 = .ok (.istore 4, 2) := by decide +kernel
theorem dX10_next_74 : decode cX10_next 74 = .ok (.iinc 5 1, 3) := by decide +kernel
theorem dX10_next_77 : decode cX10_next 77 = .ok (.goto (-49), 3) := by decide +kernel
theorem dX10_next_80 : decode cX10_next 80 = .ok (.iload_n 3, 1) := by decide +kernel
theorem dX10_next_81 : decode cX10_next 81 = .ok (.ireturn, 1) := by decide +kernel
theorem dX10_passes_0 : decode cX10_passes 0 = .ok (.iconst 0, 1) := by decide +kernel
theorem dX10_passes_1 : decode cX10_passes 1 = .ok (.istore_n 2, 1) := by decide +kernel
theorem dX10_passes_2 : decode cX10_passes 2 = .ok (.iload_n 2, 1) := by decide +kernel
theorem dX10_passes_3 : decode cX10_passes 3 = .ok (.aload_n 1, 1) := by decide +kernel
theorem dX10_passes_4 : decode cX10_passes 4 = .ok (.arraylength, 1) := by decide +kernel
theorem dX10_passes_5 : decode cX10_passes 5 = .ok (.if_icmp .ge 53, 3) := by decide +kernel
theorem dX10_passes_8 : decode cX10_passes 8 = .ok (.aload_n 0, 1) := by decide +kernel
theorem dX10_passes_9 : decode cX10_passes 9 = .ok (.getfield 208, 3) := by decide +kernel
theorem dX10_passes_12 : decode cX10_passes 12 = .ok (.ifCond .eq 18, 3) := by decide +kernel
theorem dX10_passes_15 : decode cX10_passes 15 = .ok (.aload_n 0, 1) := by decide +kernel
theorem dX10_passes_16 : decode cX10_passes 16 = .ok (.getfield 95, 3) := by decide +kernel
theorem dX10_passes_19 : decode cX10_passes 19 = .ok (.aload_n 0, 1) := by decide +kernel
theorem dX10_passes_20 : decode cX10_passes 20 = .ok (.getfield 211, 3) := by decide +kernel
theorem dX10_passes_23 : decode cX10_passes 23 = .ok (.aload_n 1, 1) := by decide +kernel
theorem dX10_passes_24 : decode cX10_passes 24 = .ok (.iload_n 2, 1) := by decide +kernel
theorem dX10_passes_25 : decode cX10_passes 25 = .ok (.iaload, 1) := by decide +kernel
theorem dX10_passes_26 : decode cX10_passes 26 = .ok (.iastore, 1) := by decide +kernel
theorem dX10_passes_27 : decode cX10_passes 27 = .ok (.goto 15, 3) := by decide +kernel
theorem dX10_passes_30 : decode cX10_passes 30 = .ok (.aload_n 1, 1) := by decide +kernel
theorem dX10_passes_31 : decode cX10_passes 31 = .ok (.iload_n 2, 1) := by decide +kernel
theorem dX10_passes_32 : decode cX10_passes 32 = .ok (.aload_n 0, 1) := by decide +kernel
theorem dX10_passes_33 : decode cX10_passes 33 = .ok (.getfield 95, 3) := by decide +kernel
theorem dX10_passes_36 : decode cX10_passes 36 = .ok (.aload_n 0, 1) := by decide +kernel
theorem dX10_passes_37 : decode cX10_passes 37 = .ok (.getfield 211, 3) := by decide +kernel
theorem dX10_passes_40 : decode cX10_passes 40 = .ok (.iaload, 1) := by decide +kernel
theorem dX10_passes_41 : decode cX10_passes 41 = .ok (.iastore, 1) := by decide +kernel
theorem dX10_passes_42 : decode cX10_passes 42 = .ok (.aload_n 0, 1) := by decide +kernel
theorem dX10_passes_43 : decode cX10_passes 43 = .ok (.dup, 1) := by decide +kernel
theorem dX10_passes_44 : decode cX10_passes 44 = .ok (.getfield 211, 3) := by decide +kernel
theorem dX10_passes_47 : decode cX10_passes 47 = .ok (.iconst 1, 1) := by decide +kernel
theorem dX10_passes_48 : decode cX10_passes 48 = .ok (.iadd, 1) := by decide +kernel
theorem dX10_passes_49 : decode cX10_passes 49 = .ok (.putfield 211, 3) := by decide +kernel
theorem dX10_passes_52 : decode cX10_passes 52 = .ok (.iinc 2 1, 3) := by decide +kernel
theorem dX10_passes_55 : decode cX10_passes 55 = .ok (.goto (-53), 3) := by decide +kernel
theorem dX10_passes_58 : decode cX10_passes 58 = .ok (.return_, 1) := by decide +kernel
theorem dX10_passOne_0 : decode cX10_passOne 0 = .ok (.aload_n 0, 1) := by decide +kernel
theorem dX10_passOne_1 : decode cX10_passOne 1 = .ok (.getfield 208, 3) := by decide +kernel
theorem dX10_passOne_4 : decode cX10_passOne 4 = .ok (.ifCond .eq 7, 3) := by decide +kernel
theorem dX10_passOne_7 : decode cX10_passOne 7 = .ok (.iload_n 1, 1) := by decide +kernel
theorem dX10_passOne_8 : decode cX10_passOne 8 = .ok (.goto 12, 3) := by decide +kernel
theorem dX10_passOne_11 : decode cX10_passOne 11 = .ok (.aload_n 0, 1) := by decide +kernel
theorem dX10_passOne_12 : decode cX10_passOne 12 = .ok (.getfield 95, 3) := by decide +kernel
theorem dX10_passOne_15 : decode cX10_passOne 15 = .ok (.aload_n 0, 1) := by decide +kernel
theorem dX10_passOne_16 : decode cX10_passOne 16 = .ok (.getfield 211, 3) := by decide +kernel
theorem dX10_passOne_19 : decode cX10_passOne 19 = .ok (.iaload, 1) := by decide +kernel
theorem dX10_passOne_20 : decode cX10_passOne 20 = .ok (.istore_n 2, 1) := by decide +kernel
theorem dX10_passOne_21 : decode cX10_passOne 21 = .ok (.aload_n 0, 1) := by decide +kernel
theorem dX10_passOne_22 : decode cX10_passOne 22 = .ok (.getfield 208, 3) := by decide +kernel
theorem dX10_passOne_25 : decode cX10_passOne 25 = .ok (.ifCond .eq 13, 3) := by decide +kernel
theorem dX10_passOne_28 : decode cX10_passOne 28 = .ok (.aload_n 0, 1) := by decide +kernel
theorem dX10_passOne_29 : decode cX10_passOne 29 = .ok (.getfield 95, 3) := by decide +kernel
theorem dX10_passOne_32 : decode cX10_passOne 32 = .ok (.aload_n 0, 1) := by decide +kernel
theorem dX10_passOne_33 : decode cX10_passOne 33 = .ok (.getfield 211, 3) := by decide +kernel
theorem dX10_passOne_36 : decode cX10_passOne 36 = .ok (.iload_n 1, 1) := by decide +kernel
theorem dX10_passOne_37 : decode cX10_passOne 37 = .ok (.iastore, 1) := by decide +kernel
theorem dX10_passOne_38 : decode cX10_passOne 38 = .ok (.aload_n 0, 1) := by decide +kernel
theorem dX10_passOne_39 : decode cX10_passOne 39 = .ok (.dup, 1) := by decide +kernel
theorem dX10_passOne_40 : decode cX10_passOne 40 = .ok (.getfield 211, 3) := by decide +kernel
theorem dX10_passOne_43 : decode cX10_passOne 43 = .ok (.iconst 1, 1) := by decide +kernel
theorem dX10_passOne_44 : decode cX10_passOne 44 = .ok (.iadd, 1) := by decide +kernel
theorem dX10_passOne_45 : decode cX10_passOne 45 = .ok (.putfield 211, 3) := by decide +kernel
theorem dX10_passOne_48 : decode cX10_passOne 48 = .ok (.iload_n 2, 1) := by decide +kernel
theorem dX10_passOne_49 : decode cX10_passOne 49 = .ok (.ireturn, 1) := by decide +kernel
theorem dX10_passesAll_0 : decode cX10_passesAll 0 = .ok (.aload_n 0, 1) := by decide +kernel
theorem dX10_passesAll_1 : decode cX10_passesAll 1 = .ok (.iconst 0, 1) := by decide +kernel
theorem dX10_passesAll_2 : decode cX10_passesAll 2 = .ok (.putfield 211, 3) := by decide +kernel
theorem dX10_passesAll_5 : decode cX10_passesAll 5 = .ok (.aload_n 0, 1) := by decide +kernel
theorem dX10_passesAll_6 : decode cX10_passesAll 6 = .ok (.aload_n 0, 1) := by decide +kernel
theorem dX10_passesAll_7 : decode cX10_passesAll 7 = .ok (.getfield 16, 3) := by decide +kernel
theorem dX10_passesAll_10 : decode cX10_passesAll 10 = .ok (.invokevirtual 214, 3) := by decide +kernel
theorem dX10_passesAll_13 : decode cX10_passesAll 13 = .ok (.aload_n 0, 1) := by decide +kernel
theorem dX10_passesAll_14 : decode cX10_passesAll 14 = .ok (.aload_n 0, 1) := by decide +kernel
theorem dX10_passesAll_15 : decode cX10_passesAll 15 = .ok (.getfield 19, 3) := by decide +kernel
theorem dX10_passesAll_18 : decode cX10_passesAll 18 = .ok (.invokevirtual 214, 3) := by decide +kernel
theorem dX10_passesAll_21 : decode cX10_passesAll 21 = .ok (.aload_n 0, 1) := by decide +kernel
theorem dX10_passesAll_22 : decode cX10_passesAll 22 = .ok (.aload_n 0, 1) := by decide +kernel
theorem dX10_passesAll_23 : decode cX10_passesAll 23 = .ok (.getfield 22, 3) := by decide +kernel
theorem dX10_passesAll_26 : decode cX10_passesAll 26 = .ok (.invokevirtual 214, 3) := by decide +kernel
theorem dX10_passesAll_29 : decode cX10_passesAll 29 = .ok (.aload_n 0, 1) := by decide +kernel
theorem dX10_passesAll_30 : decode cX10_passesAll 30 = .ok (.aload_n 0, 1) := by decide +kernel
theorem dX10_passesAll_31 : decode cX10_passesAll 31 = .ok (.getfield 25, 3) := by decide +kernel
theorem dX10_passesAll_34 : decode cX10_passesAll 34 = .ok (.invokevirtual 214, 3) := by decide +kernel
theorem dX10_passesAll_37 : decode cX10_passesAll 37 = .ok (.aload_n 0, 1) := by decide +kernel
theorem dX10_passesAll_38 : decode cX10_passesAll 38 = .ok (.aload_n 0, 1) := by decide +kernel
theorem dX10_passesAll_39 : decode cX10_passesAll 39 = .ok (.getfield 28, 3) := by decide +kernel
theorem dX10_passesAll_42 : decode cX10_passesAll 42 = .ok (.invokevirtual 214, 3) := by decide +kernel
theorem dX10_passesAll_45 : decode cX10_passesAll 45 = .ok (.aload_n 0, 1) := by decide +kernel
theorem dX10_passesAll_46 : decode cX10_passesAll 46 = .ok (.aload_n 0, 1) := by decide +kernel
theorem dX10_passesAll_47 : decode cX10_passesAll 47 = .ok (.getfield 45, 3) := by decide +kernel
theorem dX10_passesAll_50 : decode cX10_passesAll 50 = .ok (.invokevirtual 214, 3) := by decide +kernel
theorem dX10_passesAll_53 : decode cX10_passesAll 53 = .ok (.aload_n 0, 1) := by decide +kernel
theorem dX10_passesAll_54 : decode cX10_passesAll 54 = .ok (.aload_n 0, 1) := by decide +kernel
theorem dX10_passesAll_55 : decode cX10_passesAll 55 = .ok (.getfield 48, 3) := by decide +kernel
theorem dX10_passesAll_58 : decode cX10_passesAll 58 = .ok (.invokevirtual 214, 3) := by decide +kernel
theorem dX10_passesAll_61 : decode cX10_passesAll 61 = .ok (.aload_n 0, 1) := by decide +kernel
theorem dX10_passesAll_62 : decode cX10_passesAll 62 = .ok (.aload_n 0, 1) := by decide +kernel
theorem dX10_passesAll_63 : decode cX10_passesAll 63 = .ok (.getfield 51, 3) := by decide +kernel
theorem dX10_passesAll_66 : decode cX10_passesAll 66 = .ok (.invokevirtual 214, 3) := by decide +kernel
theorem dX10_passesAll_69 : decode cX10_passesAll 69 = .ok (.aload_n 0, 1) := by decide +kernel
theorem dX10_passesAll_70 : decode cX10_passesAll 70 = .ok (.aload_n 0, 1) := by decide +kernel
theorem dX10_passesAll_71 : decode cX10_passesAll 71 = .ok (.getfield 54, 3) := by decide +kernel
theorem dX10_passesAll_74 : decode cX10_passesAll 74 = .ok (.invokevirtual 214, 3) := by decide +kernel
theorem dX10_passesAll_77 : decode cX10_passesAll 77 = .ok (.aload_n 0, 1) := by decide +kernel
theorem dX10_passesAll_78 : decode cX10_passesAll 78 = .ok (.aload_n 0, 1) := by decide +kernel
theorem dX10_passesAll_79 : decode cX10_passesAll 79 = .ok (.getfield 57, 3) := by decide +kernel
theorem dX10_passesAll_82 : decode cX10_passesAll 82 = .ok (.invokevirtual 214, 3) := by decide +kernel
theorem dX10_passesAll_85 : decode cX10_passesAll 85 = .ok (.aload_n 0, 1) := by decide +kernel
theorem dX10_passesAll_86 : decode cX10_passesAll 86 = .ok (.aload_n 0, 1) := by decide +kernel
theorem dX10_passesAll_87 : decode cX10_passesAll 87 = .ok (.getfield 60, 3) := by decide +kernel
theorem dX10_passesAll_90 : decode cX10_passesAll 90 = .ok (.invokevirtual 214, 3) := by decide +kernel
theorem dX10_passesAll_93 : decode cX10_passesAll 93 = .ok (.aload_n 0, 1) := by decide +kernel
theorem dX10_passesAll_94 : decode cX10_passesAll 94 = .ok (.aload_n 0, 1) := by decide +kernel
theorem dX10_passesAll_95 : decode cX10_passesAll 95 = .ok (.getfield 63, 3) := by decide +kernel
theorem dX10_passesAll_98 : decode cX10_passesAll 98 = .ok (.invokevirtual 214, 3) := by decide +kernel
theorem dX10_passesAll_101 : decode cX10_passesAll 101 = .ok (.aload_n 0, 1) := by decide +kernel
theorem dX10_passesAll_102 : decode cX10_passesAll 102 = .ok (.aload_n 0, 1) := by decide +kernel
theorem dX10_passesAll_103 : decode cX10_passesAll 103 = .ok (.getfield 66, 3) := by decide +kernel
theorem dX10_passesAll_106 : decode cX10_passesAll 106 = .ok (.invokevirtual 214, 3) := by decide +kernel
theorem dX10_passesAll_109 : decode cX10_passesAll 109 = .ok (.aload_n 0, 1) := by decide +kernel
theorem dX10_passesAll_110 : decode cX10_passesAll 110 = .ok (.aload_n 0, 1) := by decide +kernel
theorem dX10_passesAll_111 : decode cX10_passesAll 111 = .ok (.aload_n 0, 1) := by decide +kernel
theorem dX10_passesAll_112 : decode cX10_passesAll 112 = .ok (.getfield 125, 3) := by decide +kernel
theorem dX10_passesAll_115 : decode cX10_passesAll 115 = .ok (.invokevirtual 218, 3) := by decide +kernel
theorem dX10_passesAll_118 : decode cX10_passesAll 118 = .ok (.putfield 125, 3) := by decide +kernel
theorem dX10_passesAll_121 : decode cX10_passesAll 121 = .ok (.aload_n 0, 1) := by decide +kernel
theorem dX10_passesAll_122 : decode cX10_passesAll 122 = .ok (.aload_n 0, 1) := by decide +kernel
theorem dX10_passesAll_123 : decode cX10_passesAll 123 = .ok (.aload_n 0, 1) := by decide +kernel
theorem dX10_passesAll_124 : decode cX10_passesAll 124 = .ok (.getfield 31, 3) := by decide +kernel
theorem dX10_passesAll_127 : decode cX10_passesAll 127 = .ok (.invokevirtual 218, 3) := by decide +kernel
theorem dX10_passesAll_130 : decode cX10_passesAll 130 = .ok (.putfield 31, 3) := by decide +kernel
theorem dX10_passesAll_133 : decode cX10_passesAll 133 = .ok (.aload_n 0, 1) := by decide +kernel
theorem dX10_passesAll_134 : decode cX10_passesAll 134 = .ok (.aload_n 0, 1) := by decide +kernel
theorem dX10_passesAll_135 : decode cX10_passesAll 135 = .ok (.aload_n 0, 1) := by decide +kernel
theorem dX10_passesAll_136 : decode cX10_passesAll 136 = .ok (.getfield 35, 3) := by decide +kernel
theorem dX10_passesAll_139 : decode cX10_passesAll 139 = .ok (.invokevirtual 218, 3) := by decide +kernel
theorem dX10_passesAll_142 : decode cX10_passesAll 142 = .ok (.putfield 35, 3) := by decide +kernel
theorem dX10_passesAll_145 : decode cX10_passesAll 145 = .ok (.aload_n 0, 1) := by decide +kernel
theorem dX10_passesAll_146 : decode cX10_passesAll 146 = .ok (.aload_n 0, 1) := by decide +kernel
theorem dX10_passesAll_147 : decode cX10_passesAll 147 = .ok (.aload_n 0, 1) := by decide +kernel
theorem dX10_passesAll_148 : decode cX10_passesAll 148 = .ok (.getfield 38, 3) := by decide +kernel
theorem dX10_passesAll_151 : decode cX10_passesAll 151 = .ok (.invokevirtual 218, 3) := by decide +kernel
theorem dX10_passesAll_154 : decode cX10_passesAll 154 = .ok (.putfield 38, 3) := by decide +kernel
theorem dX10_passesAll_157 : decode cX10_passesAll 157 = .ok (.aload_n 0, 1) := by decide +kernel
theorem dX10_passesAll_158 : decode cX10_passesAll 158 = .ok (.aload_n 0, 1) := by decide +kernel
theorem dX10_passesAll_159 : decode cX10_passesAll 159 = .ok (.aload_n 0, 1) := by decide +kernel
theorem dX10_passesAll_160 : decode cX10_passesAll 160 = .ok (.getfield 136, 3) := by decide +kernel
theorem dX10_passesAll_163 : decode cX10_passesAll 163 = .ok (.invokevirtual 218, 3) := by decide +kernel
theorem dX10_passesAll_166 : decode cX10_passesAll 166 = .ok (.putfield 136, 3) := by decide +kernel
theorem dX10_passesAll_169 : decode cX10_passesAll 169 = .ok (.aload_n 0, 1) := by decide +kernel
theorem dX10_passesAll_170 : decode cX10_passesAll 170 = .ok (.aload_n 0, 1) := by decide +kernel
theorem dX10_passesAll_171 : decode cX10_passesAll 171 = .ok (.aload_n 0, 1) := by decide +kernel
theorem dX10_passesAll_172 : decode cX10_passesAll 172 = .ok (.getfield 152, 3) := by decide +kernel
theorem dX10_passesAll_175 : decode cX10_passesAll 175 = .ok (.invokevirtual 218, 3) := by decide +kernel
theorem dX10_passesAll_178 : decode cX10_passesAll 178 = .ok (.putfield 152, 3) := by decide +kernel
theorem dX10_passesAll_181 : decode cX10_passesAll 181 = .ok (.return_, 1) := by decide +kernel
theorem dX10_image_0 : decode cX10_image 0 = .ok (.aload_n 0, 1) := by decide +kernel
theorem dX10_image_1 : decode cX10_image 1 = .ok (.iconst 1, 1) := by decide +kernel
theorem dX10_image_2 : decode cX10_image 2 = .ok (.putfield 208, 3) := by decide +kernel
theorem dX10_image_5 : decode cX10_image 5 = .ok (.aload_n 0, 1) := by decide +kernel
theorem dX10_image_6 : decode cX10_image 6 = .ok (.iconst 1, 1) := by decide +kernel
theorem dX10_image_7 : decode cX10_image 7 = .ok (.putfield 221, 3) := by decide +kernel
theorem dX10_image_10 : decode cX10_image 10 = .ok (.aload_n 0, 1) := by decide +kernel
theorem dX10_image_11 : decode cX10_image 11 = .ok (.invokevirtual 224, 3) := by decide +kernel
theorem dX10_image_14 : decode cX10_image 14 = .ok (.aload_n 0, 1) := by decide +kernel
theorem dX10_image_15 : decode cX10_image 15 = .ok (.getfield 125, 3) := by decide +kernel
theorem dX10_image_18 : decode cX10_image 18 = .ok (.ireturn, 1) := by decide +kernel
theorem dX10_on_0 : decode cX10_on 0 = .ok (.aload_n 0, 1) := by decide +kernel
theorem dX10_on_1 : decode cX10_on 1 = .ok (.getfield 221, 3) := by decide +kernel
theorem dX10_on_4 : decode cX10_on 4 = .ok (.ifCond .ne 10, 3) := by decide +kernel
theorem dX10_on_7 : decode cX10_on 7 = .ok (.aload_n 0, 1) := by decide +kernel
theorem dX10_on_8 : decode cX10_on 8 = .ok (.bipush (-3), 2) := by decide +kernel
theorem dX10_on_10 : decode cX10_on 10 = .ok (.invokevirtual 105, 3) := by decide +kernel
theorem dX10_on_13 : decode cX10_on 13 = .ok (.ireturn, 1) := by decide +kernel
theorem dX10_on_14 : decode cX10_on 14 = .ok (.aload_n 0, 1) := by decide +kernel
theorem dX10_on_15 : decode cX10_on 15 = .ok (.iconst 0, 1) := by decide +kernel
theorem dX10_on_16 : decode cX10_on 16 = .ok (.putfield 208, 3) := by decide +kernel
theorem dX10_on_19 : decode cX10_on 19 = .ok (.aload_n 0, 1) := by decide +kernel
theorem dX10_on_20 : decode cX10_on 20 = .ok (.invokevirtual 224, 3) := by decide +kernel
theorem dX10_on_23 : decode cX10_on 23 = .ok (.aload_n 0, 1) := by decide +kernel
theorem dX10_on_24 : decode cX10_on 24 = .ok (.iconst 1, 1) := by decide +kernel
theorem dX10_on_25 : decode cX10_on 25 = .ok (.putfield 41, 3) := by decide +kernel
theorem dX10_on_28 : decode cX10_on 28 = .ok (.aload_n 0, 1) := by decide +kernel
theorem dX10_on_29 : decode cX10_on 29 = .ok (.getfield 125, 3) := by decide +kernel
theorem dX10_on_32 : decode cX10_on 32 = .ok (.ireturn, 1) := by decide +kernel
theorem dX10_count_0 : decode cX10_count 0 = .ok (.iload_n 1, 1) := by decide +kernel
theorem dX10_count_1 : decode cX10_count 1 = .ok (.bipush 11, 2) := by decide +kernel
theorem dX10_count_3 : decode cX10_count 3 = .ok (.bipush 16, 2) := by decide +kernel
theorem dX10_count_5 : decode cX10_count 5 = .ok (.invokestatic 118, 3) := by decide +kernel
theorem dX10_count_8 : decode cX10_count 8 = .ok (.ifCond .eq 13, 3) := by decide +kernel
theorem dX10_count_11 : decode cX10_count 11 = .ok (.aload_n 0, 1) := by decide +kernel
theorem dX10_count_12 : decode cX10_count 12 = .ok (.getfield 7, 3) := by decide +kernel
theorem dX10_count_15 : decode cX10_count 15 = .ok (.iload_n 1, 1) := by decide +kernel
theorem dX10_count_16 : decode cX10_count 16 = .ok (.bipush 10, 2) := by decide +kernel
theorem dX10_count_18 : decode cX10_count 18 = .ok (.isub, 1) := by decide +kernel
theorem dX10_count_19 : decode cX10_count 19 = .ok (.iaload, 1) := by decide +kernel
theorem dX10_count_20 : decode cX10_count 20 = .ok (.ireturn, 1) := by decide +kernel
theorem dX10_count_21 : decode cX10_count 21 = .ok (.iconst 0, 1) := by decide +kernel
theorem dX10_count_22 : decode cX10_count 22 = .ok (.istore_n 2, 1) := by decide +kernel
theorem dX10_count_23 : decode cX10_count 23 = .ok (.iload_n 1, 1) := by decide +kernel
theorem dX10_count_24 : decode cX10_count 24 = .ok (.tableswitch 131 0 6 #[44, 49, 54, 81, 116, 121, 126], 44) := by decide +kernel
theorem dX10_count_68 : decode cX10_count 68 = .ok (.aload_n 0, 1) := by decide +kernel
theorem dX10_count_69 : decode cX10_count 69 = .ok (.getfield 125, 3) := by decide +kernel
theorem dX10_count_72 : decode cX10_count 72 = .ok (.ireturn, 1) := by decide +kernel
theorem dX10_count_73 : decode cX10_count 73 = .ok (.aload_n 0, 1) := by decide +kernel
theorem dX10_count_74 : decode cX10_count 74 = .ok (.getfield 152, 3) := by decide +kernel
theorem dX10_count_77 : decode cX10_count 77 = .ok (.ireturn, 1) := by decide +kernel
theorem dX10_count_78 : decode cX10_count 78 = .ok (.iconst 0, 1) := by decide +kernel
theorem dX10_count_79 : decode cX10_count 79 = .ok (.istore_n 3, 1) := by decide +kernel
theorem dX10_count_80 : decode cX10_count 80 = .ok (.iload_n 3, 1) := by decide +kernel
theorem dX10_count_81 : decode cX10_count 81 = .ok (.aload_n 0, 1) := by decide +kernel
theorem dX10_count_82 : decode cX10_count 82 = .ok (.getfield 152, 3) := by decide +kernel
theorem dX10_count_85 : decode cX10_count 85 = .ok (.if_icmp .ge 18, 3) := by decide +kernel
theorem dX10_count_88 : decode cX10_count 88 = .ok (.iload_n 2, 1) := by decide +kernel
theorem dX10_count_89 : decode cX10_count 89 = .ok (.aload_n 0, 1) := by decide +kernel
theorem dX10_count_90 : decode cX10_count 90 = .ok (.getfield 57, 3) := by decide +kernel
theorem dX10_count_93 : decode cX10_count 93 = .ok (.iload_n 3, 1) := by decide +kernel
theorem dX10_count_94 : decode cX10_count 94 = .ok (.iaload, 1) := by decide +kernel
theorem dX10_count_95 : decode cX10_count 95 = .ok (.iadd, 1) := by decide +kernel
theorem dX10_count_96 : decode cX10_count 96 = .ok (.istore_n 2, 1) := by decide +kernel
theorem dX10_count_97 : decode cX10_count 97 = .ok (.iinc 3 1, 3) := by decide +kernel
theorem dX10_count_100 : decode cX10_count 100 = .ok (.goto (-20), 3) := by decide +kernel
theorem dX10_count_103 : decode cX10_count 103 = .ok (.iload_n 2, 1) := by decide +kernel
theorem dX10_count_104 : decode cX10_count 104 = .ok (.ireturn, 1) := by decide +kernel
theorem dX10_count_105 : decode cX10_count 105 = .ok (.iconst 0, 1) := by decide +kernel
theorem dX10_count_106 : decode cX10_count 106 = .ok (.istore_n 3, 1) := by decide +kernel
theorem dX10_count_107 : decode cX10_count 107 = .ok (.iload_n 3, 1) := by decide +kernel
theorem dX10_count_108 : decode cX10_count 108 = .ok (.aload_n 0, 1) := by decide +kernel
theorem dX10_count_109 : decode cX10_count 109 = .ok (.getfield 125, 3) := by decide +kernel
theorem dX10_count_112 : decode cX10_count 112 = .ok (.if_icmp .ge 26, 3) := by decide +kernel
theorem dX10_count_115 : decode cX10_count 115 = .ok (.iload_n 2, 1) := by decide +kernel
theorem dX10_count_116 : decode cX10_count 116 = .ok (.aload_n 0, 1) := by decide +kernel
theorem dX10_count_117 : decode cX10_count 117 = .ok (.getfield 60, 3) := by decide +kernel
theorem dX10_count_120 : decode cX10_count 120 = .ok (.iload_n 3, 1) := by decide +kernel
theorem dX10_count_121 : decode cX10_count 121 = .ok (.iaload, 1) := by decide +kernel
theorem dX10_count_122 : decode cX10_count 122 = .ok (.ifCond .lt 7, 3) := by decide +kernel
theorem dX10_count_125 : decode cX10_count 125 = .ok (.iconst 1, 1) := by decide +kernel
theorem dX10_count_126 : decode cX10_count 126 = .ok (.goto 4, 3) := by decide +kernel
theorem dX10_count_129 : decode cX10_count 129 = .ok (.iconst 0, 1) := by decide +kernel
theorem dX10_count_130 : decode cX10_count 130 = .ok (.iadd, 1) := by decide +kernel
theorem dX10_count_131 : decode cX10_count 131 = .ok (.istore_n 2, 1) := by decide +kernel
theorem dX10_count_132 : decode cX10_count 132 = .ok (.iinc 3 1, 3) := by decide +kernel
theorem dX10_count_135 : decode cX10_count 135 = .ok (.goto (-28), 3) := by decide +kernel
theorem dX10_count_138 : decode cX10_count 138 = .ok (.iload_n 2, 1) := by decide +kernel
theorem dX10_count_139 : decode cX10_count 139 = .ok (.ireturn, 1) := by decide +kernel
theorem dX10_count_140 : decode cX10_count 140 = .ok (.aload_n 0, 1) := by decide +kernel
theorem dX10_count_141 : decode cX10_count 141 = .ok (.getfield 136, 3) := by decide +kernel
theorem dX10_count_144 : decode cX10_count 144 = .ok (.ireturn, 1) := by decide +kernel
theorem dX10_count_145 : decode cX10_count 145 = .ok (.aload_n 0, 1) := by decide +kernel
theorem dX10_count_146 : decode cX10_count 146 = .ok (.getfield 102, 3) := by decide +kernel
theorem dX10_count_149 : decode cX10_count 149 = .ok (.ireturn, 1) := by decide +kernel
theorem dX10_count_150 : decode cX10_count 150 = .ok (.aload_n 0, 1) := by decide +kernel
theorem dX10_count_151 : decode cX10_count 151 = .ok (.getfield 196, 3) := by decide +kernel
theorem dX10_count_154 : decode cX10_count 154 = .ok (.ireturn, 1) := by decide +kernel
theorem dX10_count_155 : decode cX10_count 155 = .ok (.bipush (-9), 2) := by decide +kernel
theorem dX10_count_157 : decode cX10_count 157 = .ok (.ireturn, 1) := by decide +kernel
set_option maxRecDepth 100000 in
set_option maxHeartbeats 4000000 in
theorem b_X10_out {Γ : bd_G} {ε : bd_E} {t0 : Option (Int32 × bd_T)} (hC : bd_C Γ cX10_out 3 RX10 (some .int) ({ frames := 0, cells := 0, slots := 0, locals := 0 } : Room) ε (cM ε) bd_vi t0) (x0 : Int32) (x1 : Int32) (x2 : Int32)  (S : bd_T) : bd_S Γ 3 t0 ((f_X10_out x0 x1 x2 S).bind some) (cM ε S) 0 [(0, .int x0), (1, .int x1), (2, .int x2)] [] := by
  unfold f_X10_out
  refine bs_iload_n hC 0 dX10_out_0 rfl rfl ?_
  refine bs_iload_n hC 1 dX10_out_1 rfl rfl ?_
  refine bs_icmp_ge hC 10 dX10_out_2 (by decide) (fun c2 => ?_) (fun c2 => ?_)
  · refine bs_iload_n hC 0 dX10_out_10 rfl rfl ?_
    refine bs_iload_n hC 2 dX10_out_11 rfl rfl ?_
    refine bs_icmp_le hC 20 dX10_out_12 (by decide) (fun c1 => ?_) (fun c1 => ?_)
    · refine bs_iconst hC (0 : Int32) dX10_out_20 rfl ?_
      exact bs_iret hC dX10_out_21 rfl
    refine bs_bipush hC (-6 : Int32) dX10_out_15 rfl ?_
    refine bs_goto hC 21 dX10_out_17 (by decide) ?_
    exact bs_iret hC dX10_out_21 rfl
  refine bs_bipush hC (-4 : Int32) dX10_out_5 rfl ?_
  refine bs_goto hC 21 dX10_out_7 (by decide) ?_
  exact bs_iret hC dX10_out_21 rfl
theorem c_X10_out (l : Launch) (D : va_G) (ε : bd_E) (x0 : Int32) (x1 : Int32) (x2 : Int32)  (S : bd_T) (h0 : (f_X10_out x0 x1 x2 S).isSome = true) : bd_Con l yX10_out (Cond.code yX10_out cX10_out 3 (some .int) :: bd_tbl) ({ frames := 0, cells := 0, slots := 0, locals := 0 } : Room) D ε (cM ε) bd_vi [.int x0, .int x1, .int x2] S (f_X10_out x0 x1 x2 S) :=
  bd_con (by decide +kernel) (Nat.le_of_ble_eq_true rfl) ⟨rfl, rfl⟩ h0 (fun Γ _ _ hC => bs_eq bs_bs (b_X10_out hC x0 x1 x2 S))
set_option maxRecDepth 100000 in
set_option maxHeartbeats 4000000 in
theorem b_X10_no {Γ : bd_G} {ε : bd_E} {t0 : Option (Int32 × bd_T)} (hC : bd_C Γ cX10_no 2 RX10 (some .int) ({ frames := 0, cells := 0, slots := 0, locals := 0 } : Room) ε (cM ε) bd_vi t0) (x1 : Int32)  (S : bd_T) : bd_S Γ 2 t0 ((f_X10_no x1 S).bind some) (cM ε S) 0 [(0, .ref (bd_a ε 0)), (1, .int x1)] [] := by
  unfold f_X10_no
  refine bs_aload_n hC 0 dX10_no_0 rfl rfl ?_
  refine bs_get hC (v := .ref (bd_a ε (1 + 0))) hin_X10 0 (cM_o0 ε S) rfl 0 (by decide) mw_560 rfl dX10_no_1 ?_
  refine bs_iload_n hC 1 dX10_no_4 rfl rfl ?_
  refine bs_ineg hC dX10_no_5 ?_
  refine bs_dup2 hC dX10_no_6 rfl rfl ?_
  refine bs_iald hC _ (cM_gi ε S 0 7 (by decide) rfl) dX10_no_7 (fun z1 ez1 => ?_)
  refine bs_iconst hC (1 : Int32) dX10_no_8 rfl ?_
  refine bs_iadd hC dX10_no_9 ?_
  refine bs_iast hC _ (cM_gi ε S 0 7 (by decide) rfl) (cM_si ε S 0 7 (by decide) rfl _) dX10_no_10 (fun S2 eS2 => ?_)
  refine bs_iload_n hC 1 dX10_no_11 rfl rfl ?_
  exact bs_iret hC dX10_no_12 rfl
theorem c_X10_no (l : Launch) (D : va_G) (ε : bd_E) (x1 : Int32)  (S : bd_T) (h0 : (f_X10_no x1 S).isSome = true) : bd_Con l yX10_no (Cond.code yX10_no cX10_no 2 (some .int) :: bd_tbl) ({ frames := 0, cells := 0, slots := 0, locals := 0 } : Room) D ε (cM ε) bd_vi [.ref (bd_a ε 0), .int x1] S (f_X10_no x1 S) :=
  bd_con (by decide +kernel) (Nat.le_of_ble_eq_true rfl) ⟨rfl, rfl⟩ h0 (fun Γ _ _ hC => bs_eq bs_bs (b_X10_no hC x1 S))
set_option maxRecDepth 100000 in
set_option maxHeartbeats 4000000 in
theorem lb_X10_feed_44 {Γ : bd_G} {ε : bd_E} {t0 : Option (Int32 × bd_T)} (hC : bd_C Γ cX10_feed 6 RX10 (some .int) ({ frames := 1, cells := 0, slots := 0, locals := 22 } : Room) ε (cM ε) bd_vi t0) (p1 : Int32) (p2 : Int64) {K : (Int32 × bd_T) ⊕ (bd_T) → Option (Int32 × bd_T)} (hk : ∀ (x5 : Int32) (S : bd_T), bd_S Γ 6 t0 (K (.inl (x5, S))) (cM ε S) 44 [(0, .ref (bd_a ε 0)), (1, .int p1), (2, .long p2), (5, .int x5)] []) (hx : ∀ (S : bd_T), bd_S Γ 6 t0 (K (.inr S)) (cM ε S) 87 [(0, .ref (bd_a ε 0))] []) (x5 : Int32) (S : bd_T) : bd_S Γ 6 t0 ((fb_X10_feed_44 p1 p2 x5 S).bind K) (cM ε S) 44 [(0, .ref (bd_a ε 0)), (1, .int p1), (2, .long p2), (5, .int x5)] [] := by
  unfold fb_X10_feed_44
  refine bs_iload hC 3 dX10_feed_44 rfl ?_
  refine bs_iload_n hC 1 dX10_feed_46 rfl rfl ?_
  refine bs_icmp_ge hC 87 dX10_feed_47 (by decide) (fun c5 => ?_) (fun c5 => ?_)
  · refine bs_some ?_
    refine bs_pick [0] rfl ?_
    exact hx S
  refine bs_aload_n hC 0 dX10_feed_50 rfl rfl ?_
  refine bs_get hC (v := .ref (bd_a ε (1 + 1))) hin_X10 0 (cM_o0 ε S) rfl 1 (by decide) mw_561 rfl dX10_feed_51 ?_
  refine bs_aload_n hC 0 dX10_feed_54 rfl rfl ?_
  refine bs_get hC (v := .int (bd_I S 0)) hin_X10 0 (cM_o0 ε S) rfl 5 (by decide) mw_565 rfl dX10_feed_55 ?_
  refine bs_lload_n hC 2 dX10_feed_58 rfl rfl ?_
  refine bs_bipush hC (8 : Int32) dX10_feed_59 rfl ?_
  refine bs_iload hC 3 dX10_feed_61 rfl ?_
  refine bs_imul hC dX10_feed_63 ?_
  refine bs_lshr hC dX10_feed_64 ?_
  refine bs_ldc2 hC (255 : Int64) mw_647 dX10_feed_65 ?_
  refine bs_land hC dX10_feed_68 ?_
  refine bs_l2i hC dX10_feed_69 ?_
  refine bs_iast hC _ (cM_gi ε S 1 20 (by decide) rfl) (cM_si ε S 1 20 (by decide) rfl _) dX10_feed_70 (fun S3 eS3 => ?_)
  refine bs_aload_n hC 0 dX10_feed_71 rfl rfl ?_
  refine bs_dup hC dX10_feed_72 rfl ?_
  refine bs_get hC (v := .int (bd_I S3 0)) hin_X10 0 (cM_o0 ε S3) rfl 5 (by decide) mw_565 rfl dX10_feed_73 ?_
  refine bs_iconst hC (1 : Int32) dX10_feed_76 rfl ?_
  refine bs_iadd hC dX10_feed_77 ?_
  refine bs_put hC (kk := 0) hin_X10 tyX10 tyX10_ok nmX10 0 (cM_o0 ε S3) rfl 5 (by decide) mw_565 rfl rfl rfl (Nat.le_of_ble_eq_true rfl) (cM_p0 ε S3 _) dX10_feed_78 (fun S4 eS4 => ?_)
  refine bs_iinc hC 3 [(5, .int (x5 + 1)), (0, .ref (bd_a ε 0)), (1, .int p1), (2, .long p2)] dX10_feed_81 rfl rfl (by decide) rfl ?_
  refine bs_goto hC 44 dX10_feed_84 (by decide) ?_
  refine bs_some ?_
  refine bs_pick [1, 2, 3, 0] rfl ?_
  exact hk (x5 + 1) S4
set_option maxRecDepth 100000 in
set_option maxHeartbeats 4000000 in
theorem b_X10_feed {Γ : bd_G} {ε : bd_E} {t0 : Option (Int32 × bd_T)} (hC : bd_C Γ cX10_feed 6 RX10 (some .int) ({ frames := 1, cells := 0, slots := 0, locals := 22 } : Room) ε (cM ε) bd_vi t0) (x1 : Int32) (x2 : Int64)  (S : bd_T) : bd_S Γ 6 t0 ((f_X10_feed x1 x2 S).bind some) (cM ε S) 0 [(0, .ref (bd_a ε 0)), (1, .int x1), (2, .long x2)] [] := by
  unfold f_X10_feed
  refine bs_iload_n hC 1 dX10_feed_0 rfl rfl ?_
  refine bs_iconst hC (1 : Int32) dX10_feed_1 rfl ?_
  refine bs_bipush hC (8 : Int32) dX10_feed_2 rfl ?_
  refine bs_callS_i hC (rm := ({ frames := 0, cells := 0, slots := 0, locals := 0 } : Room)) [.int x1, .int (1 : Int32), .int (8 : Int32)] [] (fun h => c_X10_out (bd_l Γ) (bd_D Γ) ε x1 (1 : Int32) (8 : Int32) S h) mw_643 mw_641 mw_642 mw_82 by_X10_out ⟨rfl, rfl, by decide, by decide⟩ rfl rfl (Nat.le_of_ble_eq_true rfl) dX10_feed_4 (fun r1 S2 eS2 => ?_)
  refine bs_istore hC [(4, .int r1), (0, .ref (bd_a ε 0)), (1, .int x1), (2, .long x2)] dX10_feed_7 (by decide) rfl ?_
  refine bs_iload hC 0 dX10_feed_9 rfl ?_
  refine bs_if_ne hC 29 dX10_feed_11 (by decide) (fun c17 => ?_) (fun c17 => ?_)
  · refine bs_aload_n hC 1 dX10_feed_14 rfl rfl ?_
    refine bs_get hC (v := .int (bd_I S2 0)) hin_X10 0 (cM_o0 ε S2) rfl 5 (by decide) mw_565 rfl dX10_feed_15 ?_
    refine bs_iload_n hC 2 dX10_feed_18 rfl rfl ?_
    refine bs_iadd hC dX10_feed_19 ?_
    refine bs_bipush hC (20 : Int32) dX10_feed_20 rfl ?_
    refine bs_icmp_le hC 29 dX10_feed_22 (by decide) (fun c12 => ?_) (fun c12 => ?_)
    · refine bs_iload hC 0 dX10_feed_29 rfl ?_
      refine bs_if_eq hC 41 dX10_feed_31 (by decide) (fun c9 => ?_) (fun c9 => ?_)
      · refine bs_iconst hC (0 : Int32) dX10_feed_41 rfl ?_
        refine bs_istore hC [(5, .int (0 : Int32)), (4, .int r1), (0, .ref (bd_a ε 0)), (1, .int x1), (2, .long x2)] dX10_feed_42 (by decide) rfl ?_
        refine bs_pick [2, 3, 4, 0] rfl ?_
        refine bs_loopK (fun (q : Int32 × bd_T) t => bd_S Γ 6 t0 t (cM ε (q.2)) 44 [(0, .ref (bd_a ε 0)), (1, .int x1), (2, .long x2), (5, .int (q.1))] []) (fun (q : bd_T) t => bd_S Γ 6 t0 t (cM ε (q)) 87 [(0, .ref (bd_a ε 0))] []) (fun q => fb_X10_feed_44 x1 x2 q.1 q.2) (fun _ => bs_none) (fun K hk hx q => lb_X10_feed_44 hC   x1 x2 (fun a0 S => hk (a0, S)) (fun  S => hx (S))  (q.1) (q.2)) (fun r => ?_) bd_K ((0 : Int32), S2)
        obtain ⟨S6, rfl⟩ : ∃ z, z = r := ⟨_, rfl⟩
        show bd_S Γ 6 t0 (Option.bind _ _) (cM ε S6) 87 [(0, .ref (bd_a ε 0))] []
        try dsimp only
        refine bs_aload_n hC 0 dX10_feed_87 rfl rfl ?_
        refine bs_get hC (v := .int (bd_I S6 0)) hin_X10 0 (cM_o0 ε S6) rfl 5 (by decide) mw_565 rfl dX10_feed_88 ?_
        exact bs_iret hC dX10_feed_91 rfl
      refine bs_aload_n hC 1 dX10_feed_34 rfl rfl ?_
      refine bs_iload hC 0 dX10_feed_35 rfl ?_
      refine bs_callV_i hC (rm := ({ frames := 0, cells := 0, slots := 0, locals := 0 } : Room)) [.int r1] [] (fun h => c_X10_no (bd_l Γ) (bd_D Γ) ε r1 S2 h) mw_646 mw_644 mw_645 mw_82 mw_48 (cM_o0 ε S2) rfl by_X10_no ⟨rfl, rfl, by decide, by decide⟩ rfl rfl (Nat.le_of_ble_eq_true rfl) dX10_feed_37 (fun r7 S8 eS8 => ?_)
      exact bs_iret hC dX10_feed_40 rfl
    refine bs_bipush hC (-6 : Int32) dX10_feed_25 rfl ?_
    refine bs_istore hC [(4, .int (-6 : Int32)), (0, .ref (bd_a ε 0)), (1, .int x1), (2, .long x2)] dX10_feed_27 (by decide) rfl ?_
    refine bs_iload hC 0 dX10_feed_29 rfl ?_
    refine bs_if_eqF hC 41 dX10_feed_31 (by decide) (by decide) ?_
    refine bs_aload_n hC 1 dX10_feed_34 rfl rfl ?_
    refine bs_iload hC 0 dX10_feed_35 rfl ?_
    refine bs_callV_i hC (rm := ({ frames := 0, cells := 0, slots := 0, locals := 0 } : Room)) [.int (-6 : Int32)] [] (fun h => c_X10_no (bd_l Γ) (bd_D Γ) ε (-6 : Int32) S2 h) mw_646 mw_644 mw_645 mw_82 mw_48 (cM_o0 ε S2) rfl by_X10_no ⟨rfl, rfl, by decide, by decide⟩ rfl rfl (Nat.le_of_ble_eq_true rfl) dX10_feed_37 (fun r10 S11 eS11 => ?_)
    exact bs_iret hC dX10_feed_40 rfl
  refine bs_iload hC 0 dX10_feed_29 rfl ?_
  refine bs_if_eq hC 41 dX10_feed_31 (by decide) (fun c16 => ?_) (fun c16 => ?_)
  · refine bs_iconst hC (0 : Int32) dX10_feed_41 rfl ?_
    refine bs_istore hC [(5, .int (0 : Int32)), (4, .int r1), (0, .ref (bd_a ε 0)), (1, .int x1), (2, .long x2)] dX10_feed_42 (by decide) rfl ?_
    refine bs_pick [2, 3, 4, 0] rfl ?_
    refine bs_loopK (fun (q : Int32 × bd_T) t => bd_S Γ 6 t0 t (cM ε (q.2)) 44 [(0, .ref (bd_a ε 0)), (1, .int x1), (2, .long x2), (5, .int (q.1))] []) (fun (q : bd_T) t => bd_S Γ 6 t0 t (cM ε (q)) 87 [(0, .ref (bd_a ε 0))] []) (fun q => fb_X10_feed_44 x1 x2 q.1 q.2) (fun _ => bs_none) (fun K hk hx q => lb_X10_feed_44 hC   x1 x2 (fun a0 S => hk (a0, S)) (fun  S => hx (S))  (q.1) (q.2)) (fun r => ?_) bd_K ((0 : Int32), S2)
    obtain ⟨S13, rfl⟩ : ∃ z, z = r := ⟨_, rfl⟩
    show bd_S Γ 6 t0 (Option.bind _ _) (cM ε S13) 87 [(0, .ref (bd_a ε 0))] []
    try dsimp only
    refine bs_aload_n hC 0 dX10_feed_87 rfl rfl ?_
    refine bs_get hC (v := .int (bd_I S13 0)) hin_X10 0 (cM_o0 ε S13) rfl 5 (by decide) mw_565 rfl dX10_feed_88 ?_
    exact bs_iret hC dX10_feed_91 rfl
  refine bs_aload_n hC 1 dX10_feed_34 rfl rfl ?_
  refine bs_iload hC 0 dX10_feed_35 rfl ?_
  refine bs_callV_i hC (rm := ({ frames := 0, cells := 0, slots := 0, locals := 0 } : Room)) [.int r1] [] (fun h => c_X10_no (bd_l Γ) (bd_D Γ) ε r1 S2 h) mw_646 mw_644 mw_645 mw_82 mw_48 (cM_o0 ε S2) rfl by_X10_no ⟨rfl, rfl, by decide, by decide⟩ rfl rfl (Nat.le_of_ble_eq_true rfl) dX10_feed_37 (fun r14 S15 eS15 => ?_)
  exact bs_iret hC dX10_feed_40 rfl
theorem c_X10_feed (l : Launch) (D : va_G) (ε : bd_E) (x1 : Int32) (x2 : Int64)  (S : bd_T) (h0 : (f_X10_feed x1 x2 S).isSome = true) : bd_Con l yX10_feed (Cond.code yX10_feed cX10_feed 6 (some .int) :: bd_tbl) ({ frames := 1, cells := 0, slots := 0, locals := 22 } : Room) D ε (cM ε) bd_vi [.ref (bd_a ε 0), .int x1, .long x2] S (f_X10_feed x1 x2 S) :=
  bd_con (by decide +kernel) (Nat.le_of_ble_eq_true rfl) ⟨rfl, rfl⟩ h0 (fun Γ _ _ hC => bs_eq bs_bs (b_X10_feed hC x1 x2 S))
set_option maxRecDepth 100000 in
set_option maxHeartbeats 4000000 in
theorem b_X10_sign {Γ : bd_G} {ε : bd_E} {t0 : Option (Int32 × bd_T)} (hC : bd_C Γ cX10_sign 1 RX10 (some .int) ({ frames := 0, cells := 0, slots := 0, locals := 0 } : Room) ε (cM ε) bd_vi t0)  (S : bd_T) : bd_S Γ 1 t0 ((f_X10_sign S).bind some) (cM ε S) 0 [(0, .ref (bd_a ε 0))] [] := by
  unfold f_X10_sign
  refine bs_aload_n hC 0 dX10_sign_0 rfl rfl ?_
  refine bs_get hC (v := .int (bd_I S 1)) hin_X10 0 (cM_o0 ε S) rfl 6 (by decide) mw_566 rfl dX10_sign_1 ?_
  refine bs_aload_n hC 0 dX10_sign_4 rfl rfl ?_
  refine bs_get hC (v := .int (bd_I S 0)) hin_X10 0 (cM_o0 ε S) rfl 5 (by decide) mw_565 rfl dX10_sign_5 ?_
  refine bs_icmp_ge hC 23 dX10_sign_8 (by decide) (fun c2 => ?_) (fun c2 => ?_)
  · refine bs_iconst hC (-1 : Int32) dX10_sign_23 rfl ?_
    exact bs_iret hC dX10_sign_24 rfl
  refine bs_aload_n hC 0 dX10_sign_11 rfl rfl ?_
  refine bs_get hC (v := .ref (bd_a ε (1 + 1))) hin_X10 0 (cM_o0 ε S) rfl 1 (by decide) mw_561 rfl dX10_sign_12 ?_
  refine bs_aload_n hC 0 dX10_sign_15 rfl rfl ?_
  refine bs_get hC (v := .int (bd_I S 1)) hin_X10 0 (cM_o0 ε S) rfl 6 (by decide) mw_566 rfl dX10_sign_16 ?_
  refine bs_iald hC _ (cM_gi ε S 1 20 (by decide) rfl) dX10_sign_19 (fun z1 ez1 => ?_)
  refine bs_goto hC 24 dX10_sign_20 (by decide) ?_
  exact bs_iret hC dX10_sign_24 rfl
theorem c_X10_sign (l : Launch) (D : va_G) (ε : bd_E)  (S : bd_T) (h0 : (f_X10_sign S).isSome = true) : bd_Con l yX10_sign (Cond.code yX10_sign cX10_sign 1 (some .int) :: bd_tbl) ({ frames := 0, cells := 0, slots := 0, locals := 0 } : Room) D ε (cM ε) bd_vi [.ref (bd_a ε 0)] S (f_X10_sign S) :=
  bd_con (by decide +kernel) (Nat.le_of_ble_eq_true rfl) ⟨rfl, rfl⟩ h0 (fun Γ _ _ hC => bs_eq bs_bs (b_X10_sign hC S))
set_option maxRecDepth 100000 in
set_option maxHeartbeats 4000000 in
theorem b_X10_isIn {Γ : bd_G} {ε : bd_E} {t0 : Option (Int32 × bd_T)} (hC : bd_C Γ cX10_isIn 3 RX10 (some .boolean) ({ frames := 0, cells := 0, slots := 0, locals := 0 } : Room) ε (cM ε) bd_vi t0) (x0 : Int32) (x1 : Int32) (x2 : Int32)  (S : bd_T) : bd_S Γ 3 t0 ((f_X10_isIn x0 x1 x2 S).bind some) (cM ε S) 0 [(0, .int x0), (1, .int x1), (2, .int x2)] [] := by
  unfold f_X10_isIn
  refine bs_iload_n hC 0 dX10_isIn_0 rfl rfl ?_
  refine bs_iload_n hC 1 dX10_isIn_1 rfl rfl ?_
  refine bs_icmp_lt hC 14 dX10_isIn_2 (by decide) (fun c2 => ?_) (fun c2 => ?_)
  · refine bs_iconst hC (0 : Int32) dX10_isIn_14 rfl ?_
    exact bs_zret hC dX10_isIn_15 rfl rfl
  refine bs_iload_n hC 0 dX10_isIn_5 rfl rfl ?_
  refine bs_iload_n hC 2 dX10_isIn_6 rfl rfl ?_
  refine bs_icmp_gt hC 14 dX10_isIn_7 (by decide) (fun c1 => ?_) (fun c1 => ?_)
  · refine bs_iconst hC (0 : Int32) dX10_isIn_14 rfl ?_
    exact bs_zret hC dX10_isIn_15 rfl rfl
  refine bs_iconst hC (1 : Int32) dX10_isIn_10 rfl ?_
  refine bs_goto hC 15 dX10_isIn_11 (by decide) ?_
  exact bs_zret hC dX10_isIn_15 rfl rfl
theorem c_X10_isIn (l : Launch) (D : va_G) (ε : bd_E) (x0 : Int32) (x1 : Int32) (x2 : Int32)  (S : bd_T) (h0 : (f_X10_isIn x0 x1 x2 S).isSome = true) : bd_Con l yX10_isIn (Cond.code yX10_isIn cX10_isIn 3 (some .boolean) :: bd_tbl) ({ frames := 0, cells := 0, slots := 0, locals := 0 } : Room) D ε (cM ε) bd_vi [.int x0, .int x1, .int x2] S (f_X10_isIn x0 x1 x2 S) :=
  bd_con (by decide +kernel) (Nat.le_of_ble_eq_true rfl) ⟨rfl, rfl⟩ h0 (fun Γ _ _ hC => bs_eq bs_bs (b_X10_isIn hC x0 x1 x2 S))
set_option maxRecDepth 100000 in
set_option maxHeartbeats 4000000 in
theorem lb_X10_number_20 {Γ : bd_G} {ε : bd_E} {t0 : Option (Int32 × bd_T)} (hC : bd_C Γ cX10_number 4 RX10 (some .int) ({ frames := 1, cells := 0, slots := 0, locals := 22 } : Room) ε (cM ε) bd_vi t0) (p1 : Int32) {K : (Int32 × Int32 × bd_T) ⊕ (Int32 × bd_T) → Option (Int32 × bd_T)} (hk : ∀ (x2 : Int32) (x3 : Int32) (S : bd_T), bd_S Γ 4 t0 (K (.inl (x2, x3, S))) (cM ε S) 20 [(0, .ref (bd_a ε 0)), (1, .int p1), (2, .int x2), (3, .int x3)] []) (hx : ∀ (y2 : Int32) (S : bd_T), bd_S Γ 4 t0 (K (.inr (y2, S))) (cM ε S) 68 [(2, .int y2)] []) (x2 : Int32) (x3 : Int32) (S : bd_T) : bd_S Γ 4 t0 ((fb_X10_number_20 p1 x2 x3 S).bind K) (cM ε S) 20 [(0, .ref (bd_a ε 0)), (1, .int p1), (2, .int x2), (3, .int x3)] [] := by
  unfold fb_X10_number_20
  refine bs_iload_n hC 3 dX10_number_20 rfl rfl ?_
  refine bs_iload_n hC 1 dX10_number_21 rfl rfl ?_
  refine bs_icmp_ge hC 68 dX10_number_22 (by decide) (fun c14 => ?_) (fun c14 => ?_)
  · refine bs_some ?_
    refine bs_pick [2] rfl ?_
    exact hx x2 S
  refine bs_aload_n hC 0 dX10_number_25 rfl rfl ?_
  refine bs_callV_i hC (rm := ({ frames := 0, cells := 0, slots := 0, locals := 0 } : Room)) [] [] (fun h => c_X10_sign (bd_l Γ) (bd_D Γ) ε S h) mw_657 mw_655 mw_656 mw_82 mw_50 (cM_o0 ε S) rfl by_X10_sign ⟨rfl, rfl, by decide, by decide⟩ rfl rfl (Nat.le_of_ble_eq_true rfl) dX10_number_26 (fun r5 S6 eS6 => ?_)
  refine bs_bipush hC (48 : Int32) dX10_number_29 rfl ?_
  refine bs_bipush hC (57 : Int32) dX10_number_31 rfl ?_
  refine bs_callS_i hC (rm := ({ frames := 0, cells := 0, slots := 0, locals := 0 } : Room)) [.int r5, .int (48 : Int32), .int (57 : Int32)] [] (fun h => c_X10_isIn (bd_l Γ) (bd_D Γ) ε r5 (48 : Int32) (57 : Int32) S6 h) mw_663 mw_661 mw_662 mw_82 by_X10_isIn ⟨rfl, rfl, by decide, by decide⟩ rfl rfl (Nat.le_of_ble_eq_true rfl) dX10_number_33 (fun r7 S8 eS8 => ?_)
  refine bs_if_eq hC 68 dX10_number_36 (by decide) (fun c13 => ?_) (fun c13 => ?_)
  · refine bs_some ?_
    refine bs_pick [2] rfl ?_
    exact hx x2 S8
  refine bs_bipush hC (10 : Int32) dX10_number_39 rfl ?_
  refine bs_iload_n hC 2 dX10_number_41 rfl rfl ?_
  refine bs_imul hC dX10_number_42 ?_
  refine bs_aload_n hC 0 dX10_number_43 rfl rfl ?_
  refine bs_callV_i hC (rm := ({ frames := 0, cells := 0, slots := 0, locals := 0 } : Room)) [] [.int ((10 : Int32) * x2)] (fun h => c_X10_sign (bd_l Γ) (bd_D Γ) ε S8 h) mw_657 mw_655 mw_656 mw_82 mw_50 (cM_o0 ε S8) rfl by_X10_sign ⟨rfl, rfl, by decide, by decide⟩ rfl rfl (Nat.le_of_ble_eq_true rfl) dX10_number_44 (fun r9 S10 eS10 => ?_)
  refine bs_iadd hC dX10_number_47 ?_
  refine bs_bipush hC (48 : Int32) dX10_number_48 rfl ?_
  refine bs_isub hC dX10_number_50 ?_
  refine bs_leti (fun z11 ez11 => ?_)
  refine bs_istore_n hC [(2, .int z11), (0, .ref (bd_a ε 0)), (1, .int p1), (3, .int x3)] dX10_number_51 rfl (by decide) rfl ?_
  refine bs_aload_n hC 1 dX10_number_52 rfl rfl ?_
  refine bs_dup hC dX10_number_53 rfl ?_
  refine bs_get hC (v := .int (bd_I S10 1)) hin_X10 0 (cM_o0 ε S10) rfl 6 (by decide) mw_566 rfl dX10_number_54 ?_
  refine bs_iconst hC (1 : Int32) dX10_number_57 rfl ?_
  refine bs_iadd hC dX10_number_58 ?_
  refine bs_put hC (kk := 1) hin_X10 tyX10 tyX10_ok nmX10 0 (cM_o0 ε S10) rfl 6 (by decide) mw_566 rfl rfl rfl (Nat.le_of_ble_eq_true rfl) (cM_p1 ε S10 _) dX10_number_59 (fun S12 eS12 => ?_)
  refine bs_iinc hC 3 [(3, .int (x3 + 1)), (2, .int z11), (0, .ref (bd_a ε 0)), (1, .int p1)] dX10_number_62 rfl rfl (by decide) rfl ?_
  refine bs_goto hC 20 dX10_number_65 (by decide) ?_
  refine bs_some ?_
  refine bs_pick [2, 3, 1, 0] rfl ?_
  exact hk z11 (x3 + 1) S12
set_option maxRecDepth 100000 in
set_option maxHeartbeats 4000000 in
theorem b_X10_number {Γ : bd_G} {ε : bd_E} {t0 : Option (Int32 × bd_T)} (hC : bd_C Γ cX10_number 4 RX10 (some .int) ({ frames := 1, cells := 0, slots := 0, locals := 22 } : Room) ε (cM ε) bd_vi t0) (x1 : Int32)  (S : bd_T) : bd_S Γ 4 t0 ((f_X10_number x1 S).bind some) (cM ε S) 0 [(0, .ref (bd_a ε 0)), (1, .int x1)] [] := by
  unfold f_X10_number
  refine bs_aload_n hC 0 dX10_number_0 rfl rfl ?_
  refine bs_callV_i hC (rm := ({ frames := 0, cells := 0, slots := 0, locals := 0 } : Room)) [] [] (fun h => c_X10_sign (bd_l Γ) (bd_D Γ) ε S h) mw_657 mw_655 mw_656 mw_82 mw_50 (cM_o0 ε S) rfl by_X10_sign ⟨rfl, rfl, by decide, by decide⟩ rfl rfl (Nat.le_of_ble_eq_true rfl) dX10_number_1 (fun r1 S2 eS2 => ?_)
  refine bs_bipush hC (48 : Int32) dX10_number_4 rfl ?_
  refine bs_bipush hC (57 : Int32) dX10_number_6 rfl ?_
  refine bs_callS_i hC (rm := ({ frames := 0, cells := 0, slots := 0, locals := 0 } : Room)) [.int r1, .int (48 : Int32), .int (57 : Int32)] [] (fun h => c_X10_isIn (bd_l Γ) (bd_D Γ) ε r1 (48 : Int32) (57 : Int32) S2 h) mw_663 mw_661 mw_662 mw_82 by_X10_isIn ⟨rfl, rfl, by decide, by decide⟩ rfl rfl (Nat.le_of_ble_eq_true rfl) dX10_number_8 (fun r3 S4 eS4 => ?_)
  refine bs_if_ne hC 16 dX10_number_11 (by decide) (fun c17 => ?_) (fun c17 => ?_)
  · refine bs_iconst hC (-1 : Int32) dX10_number_14 rfl ?_
    exact bs_iret hC dX10_number_15 rfl
  refine bs_iconst hC (0 : Int32) dX10_number_16 rfl ?_
  refine bs_istore_n hC [(2, .int (0 : Int32)), (0, .ref (bd_a ε 0)), (1, .int x1)] dX10_number_17 rfl (by decide) rfl ?_
  refine bs_iconst hC (0 : Int32) dX10_number_18 rfl ?_
  refine bs_istore_n hC [(3, .int (0 : Int32)), (2, .int (0 : Int32)), (0, .ref (bd_a ε 0)), (1, .int x1)] dX10_number_19 rfl (by decide) rfl ?_
  refine bs_pick [2, 3, 1, 0] rfl ?_
  refine bs_loopK (fun (q : Int32 × Int32 × bd_T) t => bd_S Γ 4 t0 t (cM ε (q.2.2)) 20 [(0, .ref (bd_a ε 0)), (1, .int x1), (2, .int (q.1)), (3, .int (q.2.1))] []) (fun (q : Int32 × bd_T) t => bd_S Γ 4 t0 t (cM ε (q.2)) 68 [(2, .int (q.1))] []) (fun q => fb_X10_number_20 x1 q.1 q.2.1 q.2.2) (fun _ => bs_none) (fun K hk hx q => lb_X10_number_20 hC   x1 (fun a0 a1 S => hk (a0, a1, S)) (fun b0 S => hx (b0, S))  (q.1) (q.2.1) (q.2.2)) (fun r => ?_) bd_K ((0 : Int32), (0 : Int32), S4)
  obtain ⟨y15, S16⟩ := r
  show bd_S Γ 4 t0 (Option.bind _ _) (cM ε S16) 68 [(2, .int y15)] []
  try dsimp only
  refine bs_iload_n hC 0 dX10_number_68 rfl rfl ?_
  exact bs_iret hC dX10_number_69 rfl
theorem c_X10_number (l : Launch) (D : va_G) (ε : bd_E) (x1 : Int32)  (S : bd_T) (h0 : (f_X10_number x1 S).isSome = true) : bd_Con l yX10_number (Cond.code yX10_number cX10_number 4 (some .int) :: bd_tbl) ({ frames := 1, cells := 0, slots := 0, locals := 22 } : Room) D ε (cM ε) bd_vi [.ref (bd_a ε 0), .int x1] S (f_X10_number x1 S) :=
  bd_con (by decide +kernel) (Nat.le_of_ble_eq_true rfl) ⟨rfl, rfl⟩ h0 (fun Γ _ _ hC => bs_eq bs_bs (b_X10_number hC x1 S))
set_option maxRecDepth 100000 in
set_option maxHeartbeats 4000000 in
theorem b_X10_reads {Γ : bd_G} {ε : bd_E} {t0 : Option (Int32 × bd_T)} (hC : bd_C Γ cX10_reads 5 RX10 (some .boolean) ({ frames := 2, cells := 0, slots := 0, locals := 45 } : Room) ε (cM ε) bd_vi t0)  (S : bd_T) : bd_S Γ 5 t0 ((f_X10_reads S).bind some) (cM ε S) 0 [(0, .ref (bd_a ε 0))] [] := by
  unfold f_X10_reads
  refine bs_aload_n hC 0 dX10_reads_0 rfl rfl ?_
  refine bs_iconst hC (0 : Int32) dX10_reads_1 rfl ?_
  refine bs_put hC (kk := 1) hin_X10 tyX10 tyX10_ok nmX10 0 (cM_o0 ε S) rfl 6 (by decide) mw_566 rfl rfl rfl (Nat.le_of_ble_eq_true rfl) (cM_p1 ε S _) dX10_reads_2 (fun S1 eS1 => ?_)
  refine bs_aload_n hC 0 dX10_reads_5 rfl rfl ?_
  refine bs_callV_i hC (rm := ({ frames := 0, cells := 0, slots := 0, locals := 0 } : Room)) [] [] (fun h => c_X10_sign (bd_l Γ) (bd_D Γ) ε S1 h) mw_657 mw_655 mw_656 mw_82 mw_50 (cM_o0 ε S1) rfl by_X10_sign ⟨rfl, rfl, by decide, by decide⟩ rfl rfl (Nat.le_of_ble_eq_true rfl) dX10_reads_6 (fun r2 S3 eS3 => ?_)
  refine bs_istore_n hC [(1, .int r2), (0, .ref (bd_a ε 0))] dX10_reads_9 rfl (by decide) rfl ?_
  refine bs_iload_n hC 0 dX10_reads_10 rfl rfl ?_
  refine bs_bipush hC (101 : Int32) dX10_reads_11 rfl ?_
  refine bs_icmp_ne hC 20 dX10_reads_13 (by decide) (fun c105 => ?_) (fun c105 => ?_)
  · refine bs_iconst hC (0 : Int32) dX10_reads_16 rfl ?_
    refine bs_goto hC 71 dX10_reads_17 (by decide) ?_
    refine bs_istore_n hC [(2, .int (0 : Int32)), (1, .int r2), (0, .ref (bd_a ε 0))] dX10_reads_71 rfl (by decide) rfl ?_
    refine bs_iload_n hC 0 dX10_reads_72 rfl rfl ?_
    refine bs_if_geT hC 78 dX10_reads_73 (by decide) (by decide) ?_
    refine bs_aload_n hC 2 dX10_reads_78 rfl rfl ?_
    refine bs_dup hC dX10_reads_79 rfl ?_
    refine bs_get hC (v := .int (bd_I S3 1)) hin_X10 0 (cM_o0 ε S3) rfl 6 (by decide) mw_566 rfl dX10_reads_80 ?_
    refine bs_iconst hC (1 : Int32) dX10_reads_83 rfl ?_
    refine bs_iadd hC dX10_reads_84 ?_
    refine bs_put hC (kk := 1) hin_X10 tyX10 tyX10_ok nmX10 0 (cM_o0 ε S3) rfl 6 (by decide) mw_566 rfl rfl rfl (Nat.le_of_ble_eq_true rfl) (cM_p1 ε S3 _) dX10_reads_85 (fun S4 eS4 => ?_)
    refine bs_aload_n hC 2 dX10_reads_88 rfl rfl ?_
    refine bs_iconst hC (4 : Int32) dX10_reads_89 rfl ?_
    refine bs_callV_i hC (rm := ({ frames := 1, cells := 0, slots := 0, locals := 22 } : Room)) [.int (4 : Int32)] [] (fun h => c_X10_number (bd_l Γ) (bd_D Γ) ε (4 : Int32) S4 h) mw_660 mw_658 mw_659 mw_82 mw_51 (cM_o0 ε S4) rfl by_X10_number ⟨rfl, rfl, by decide, by decide⟩ rfl rfl (Nat.le_of_ble_eq_true rfl) dX10_reads_90 (fun r5 S6 eS6 => ?_)
    refine bs_istore_n hC [(3, .int r5), (2, .int (0 : Int32)), (1, .int r2), (0, .ref (bd_a ε 0))] dX10_reads_93 rfl (by decide) rfl ?_
    refine bs_iload_n hC 0 dX10_reads_94 rfl rfl ?_
    refine bs_if_lt hC 107 dX10_reads_95 (by decide) (fun c19 => ?_) (fun c19 => ?_)
    · refine bs_iconst hC (0 : Int32) dX10_reads_107 rfl ?_
      exact bs_zret hC dX10_reads_108 rfl rfl
    refine bs_aload_n hC 3 dX10_reads_98 rfl rfl ?_
    refine bs_callV_i hC (rm := ({ frames := 0, cells := 0, slots := 0, locals := 0 } : Room)) [] [] (fun h => c_X10_sign (bd_l Γ) (bd_D Γ) ε S6 h) mw_657 mw_655 mw_656 mw_82 mw_50 (cM_o0 ε S6) rfl by_X10_sign ⟨rfl, rfl, by decide, by decide⟩ rfl rfl (Nat.le_of_ble_eq_true rfl) dX10_reads_99 (fun r7 S8 eS8 => ?_)
    refine bs_bipush hC (44 : Int32) dX10_reads_102 rfl ?_
    refine bs_icmp_eq hC 109 dX10_reads_104 (by decide) (fun c18 => ?_) (fun c18 => ?_)
    · refine bs_aload_n hC 3 dX10_reads_109 rfl rfl ?_
      refine bs_dup hC dX10_reads_110 rfl ?_
      refine bs_get hC (v := .int (bd_I S8 1)) hin_X10 0 (cM_o0 ε S8) rfl 6 (by decide) mw_566 rfl dX10_reads_111 ?_
      refine bs_iconst hC (1 : Int32) dX10_reads_114 rfl ?_
      refine bs_iadd hC dX10_reads_115 ?_
      refine bs_put hC (kk := 1) hin_X10 tyX10 tyX10_ok nmX10 0 (cM_o0 ε S8) rfl 6 (by decide) mw_566 rfl rfl rfl (Nat.le_of_ble_eq_true rfl) (cM_p1 ε S8 _) dX10_reads_116 (fun S9 eS9 => ?_)
      refine bs_aload_n hC 3 dX10_reads_119 rfl rfl ?_
      refine bs_iconst hC (2 : Int32) dX10_reads_120 rfl ?_
      refine bs_callV_i hC (rm := ({ frames := 1, cells := 0, slots := 0, locals := 22 } : Room)) [.int (2 : Int32)] [] (fun h => c_X10_number (bd_l Γ) (bd_D Γ) ε (2 : Int32) S9 h) mw_660 mw_658 mw_659 mw_82 mw_51 (cM_o0 ε S9) rfl by_X10_number ⟨rfl, rfl, by decide, by decide⟩ rfl rfl (Nat.le_of_ble_eq_true rfl) dX10_reads_121 (fun r10 S11 eS11 => ?_)
      refine bs_istore hC [(4, .int r10), (3, .int r5), (2, .int (0 : Int32)), (1, .int r2), (0, .ref (bd_a ε 0))] dX10_reads_124 (by decide) rfl ?_
      refine bs_iload hC 0 dX10_reads_126 rfl ?_
      refine bs_if_lt hC 142 dX10_reads_128 (by decide) (fun c17 => ?_) (fun c17 => ?_)
      · refine bs_iconst hC (0 : Int32) dX10_reads_142 rfl ?_
        exact bs_zret hC dX10_reads_143 rfl rfl
      refine bs_aload_n hC 4 dX10_reads_131 rfl rfl ?_
      refine bs_get hC (v := .int (bd_I S11 1)) hin_X10 0 (cM_o0 ε S11) rfl 6 (by decide) mw_566 rfl dX10_reads_132 ?_
      refine bs_aload_n hC 4 dX10_reads_135 rfl rfl ?_
      refine bs_get hC (v := .int (bd_I S11 0)) hin_X10 0 (cM_o0 ε S11) rfl 5 (by decide) mw_565 rfl dX10_reads_136 ?_
      refine bs_icmp_ge hC 144 dX10_reads_139 (by decide) (fun c16 => ?_) (fun c16 => ?_)
      · refine bs_aload_n hC 4 dX10_reads_144 rfl rfl ?_
        refine bs_get hC (v := .ref (bd_a ε (1 + 2))) hin_X10 0 (cM_o0 ε S11) rfl 2 (by decide) mw_562 rfl dX10_reads_145 ?_
        refine bs_aload_n hC 4 dX10_reads_148 rfl rfl ?_
        refine bs_get hC (v := .int (bd_I S11 2)) hin_X10 0 (cM_o0 ε S11) rfl 7 (by decide) mw_567 rfl dX10_reads_149 ?_
        refine bs_iload_n hC 2 dX10_reads_152 rfl rfl ?_
        refine bs_iast hC _ (cM_gi ε S11 2 6 (by decide) rfl) (cM_si ε S11 2 6 (by decide) rfl _) dX10_reads_153 (fun S12 eS12 => ?_)
        refine bs_aload_n hC 4 dX10_reads_154 rfl rfl ?_
        refine bs_get hC (v := .ref (bd_a ε (1 + 3))) hin_X10 0 (cM_o0 ε S12) rfl 3 (by decide) mw_563 rfl dX10_reads_155 ?_
        refine bs_aload_n hC 4 dX10_reads_158 rfl rfl ?_
        refine bs_get hC (v := .int (bd_I S12 2)) hin_X10 0 (cM_o0 ε S12) rfl 7 (by decide) mw_567 rfl dX10_reads_159 ?_
        refine bs_iload_n hC 1 dX10_reads_162 rfl rfl ?_
        refine bs_iast hC _ (cM_gi ε S12 3 6 (by decide) rfl) (cM_si ε S12 3 6 (by decide) rfl _) dX10_reads_163 (fun S13 eS13 => ?_)
        refine bs_aload_n hC 4 dX10_reads_164 rfl rfl ?_
        refine bs_get hC (v := .ref (bd_a ε (1 + 4))) hin_X10 0 (cM_o0 ε S13) rfl 4 (by decide) mw_564 rfl dX10_reads_165 ?_
        refine bs_aload_n hC 4 dX10_reads_168 rfl rfl ?_
        refine bs_get hC (v := .int (bd_I S13 2)) hin_X10 0 (cM_o0 ε S13) rfl 7 (by decide) mw_567 rfl dX10_reads_169 ?_
        refine bs_iload hC 0 dX10_reads_172 rfl ?_
        refine bs_iast hC _ (cM_gi ε S13 4 6 (by decide) rfl) (cM_si ε S13 4 6 (by decide) rfl _) dX10_reads_174 (fun S14 eS14 => ?_)
        refine bs_aload_n hC 4 dX10_reads_175 rfl rfl ?_
        refine bs_get hC (v := .ref (bd_a ε (1 + 12))) hin_X10 0 (cM_o0 ε S14) rfl 21 (by decide) mw_581 rfl dX10_reads_176 ?_
        refine bs_aload_n hC 4 dX10_reads_179 rfl rfl ?_
        refine bs_get hC (v := .int (bd_I S14 2)) hin_X10 0 (cM_o0 ε S14) rfl 7 (by decide) mw_567 rfl dX10_reads_180 ?_
        refine bs_iconst hC (-1 : Int32) dX10_reads_183 rfl ?_
        refine bs_iast hC _ (cM_gi ε S14 12 6 (by decide) rfl) (cM_si ε S14 12 6 (by decide) rfl _) dX10_reads_184 (fun S15 eS15 => ?_)
        refine bs_iconst hC (1 : Int32) dX10_reads_185 rfl ?_
        exact bs_zret hC dX10_reads_186 rfl rfl
      refine bs_iconst hC (0 : Int32) dX10_reads_142 rfl ?_
      exact bs_zret hC dX10_reads_143 rfl rfl
    refine bs_iconst hC (0 : Int32) dX10_reads_107 rfl ?_
    exact bs_zret hC dX10_reads_108 rfl rfl
  refine bs_iload_n hC 0 dX10_reads_20 rfl rfl ?_
  refine bs_bipush hC (116 : Int32) dX10_reads_21 rfl ?_
  refine bs_icmp_ne hC 30 dX10_reads_23 (by decide) (fun c104 => ?_) (fun c104 => ?_)
  · refine bs_iconst hC (1 : Int32) dX10_reads_26 rfl ?_
    refine bs_goto hC 71 dX10_reads_27 (by decide) ?_
    refine bs_istore_n hC [(2, .int (1 : Int32)), (1, .int r2), (0, .ref (bd_a ε 0))] dX10_reads_71 rfl (by decide) rfl ?_
    refine bs_iload_n hC 0 dX10_reads_72 rfl rfl ?_
    refine bs_if_geT hC 78 dX10_reads_73 (by decide) (by decide) ?_
    refine bs_aload_n hC 2 dX10_reads_78 rfl rfl ?_
    refine bs_dup hC dX10_reads_79 rfl ?_
    refine bs_get hC (v := .int (bd_I S3 1)) hin_X10 0 (cM_o0 ε S3) rfl 6 (by decide) mw_566 rfl dX10_reads_80 ?_
    refine bs_iconst hC (1 : Int32) dX10_reads_83 rfl ?_
    refine bs_iadd hC dX10_reads_84 ?_
    refine bs_put hC (kk := 1) hin_X10 tyX10 tyX10_ok nmX10 0 (cM_o0 ε S3) rfl 6 (by decide) mw_566 rfl rfl rfl (Nat.le_of_ble_eq_true rfl) (cM_p1 ε S3 _) dX10_reads_85 (fun S20 eS20 => ?_)
    refine bs_aload_n hC 2 dX10_reads_88 rfl rfl ?_
    refine bs_iconst hC (4 : Int32) dX10_reads_89 rfl ?_
    refine bs_callV_i hC (rm := ({ frames := 1, cells := 0, slots := 0, locals := 22 } : Room)) [.int (4 : Int32)] [] (fun h => c_X10_number (bd_l Γ) (bd_D Γ) ε (4 : Int32) S20 h) mw_660 mw_658 mw_659 mw_82 mw_51 (cM_o0 ε S20) rfl by_X10_number ⟨rfl, rfl, by decide, by decide⟩ rfl rfl (Nat.le_of_ble_eq_true rfl) dX10_reads_90 (fun r21 S22 eS22 => ?_)
    refine bs_istore_n hC [(3, .int r21), (2, .int (1 : Int32)), (1, .int r2), (0, .ref (bd_a ε 0))] dX10_reads_93 rfl (by decide) rfl ?_
    refine bs_iload_n hC 0 dX10_reads_94 rfl rfl ?_
    refine bs_if_lt hC 107 dX10_reads_95 (by decide) (fun c35 => ?_) (fun c35 => ?_)
    · refine bs_iconst hC (0 : Int32) dX10_reads_107 rfl ?_
      exact bs_zret hC dX10_reads_108 rfl rfl
    refine bs_aload_n hC 3 dX10_reads_98 rfl rfl ?_
    refine bs_callV_i hC (rm := ({ frames := 0, cells := 0, slots := 0, locals := 0 } : Room)) [] [] (fun h => c_X10_sign (bd_l Γ) (bd_D Γ) ε S22 h) mw_657 mw_655 mw_656 mw_82 mw_50 (cM_o0 ε S22) rfl by_X10_sign ⟨rfl, rfl, by decide, by decide⟩ rfl rfl (Nat.le_of_ble_eq_true rfl) dX10_reads_99 (fun r23 S24 eS24 => ?_)
    refine bs_bipush hC (44 : Int32) dX10_reads_102 rfl ?_
    refine bs_icmp_eq hC 109 dX10_reads_104 (by decide) (fun c34 => ?_) (fun c34 => ?_)
    · refine bs_aload_n hC 3 dX10_reads_109 rfl rfl ?_
      refine bs_dup hC dX10_reads_110 rfl ?_
      refine bs_get hC (v := .int (bd_I S24 1)) hin_X10 0 (cM_o0 ε S24) rfl 6 (by decide) mw_566 rfl dX10_reads_111 ?_
      refine bs_iconst hC (1 : Int32) dX10_reads_114 rfl ?_
      refine bs_iadd hC dX10_reads_115 ?_
      refine bs_put hC (kk := 1) hin_X10 tyX10 tyX10_ok nmX10 0 (cM_o0 ε S24) rfl 6 (by decide) mw_566 rfl rfl rfl (Nat.le_of_ble_eq_true rfl) (cM_p1 ε S24 _) dX10_reads_116 (fun S25 eS25 => ?_)
      refine bs_aload_n hC 3 dX10_reads_119 rfl rfl ?_
      refine bs_iconst hC (2 : Int32) dX10_reads_120 rfl ?_
      refine bs_callV_i hC (rm := ({ frames := 1, cells := 0, slots := 0, locals := 22 } : Room)) [.int (2 : Int32)] [] (fun h => c_X10_number (bd_l Γ) (bd_D Γ) ε (2 : Int32) S25 h) mw_660 mw_658 mw_659 mw_82 mw_51 (cM_o0 ε S25) rfl by_X10_number ⟨rfl, rfl, by decide, by decide⟩ rfl rfl (Nat.le_of_ble_eq_true rfl) dX10_reads_121 (fun r26 S27 eS27 => ?_)
      refine bs_istore hC [(4, .int r26), (3, .int r21), (2, .int (1 : Int32)), (1, .int r2), (0, .ref (bd_a ε 0))] dX10_reads_124 (by decide) rfl ?_
      refine bs_iload hC 0 dX10_reads_126 rfl ?_
      refine bs_if_lt hC 142 dX10_reads_128 (by decide) (fun c33 => ?_) (fun c33 => ?_)
      · refine bs_iconst hC (0 : Int32) dX10_reads_142 rfl ?_
        exact bs_zret hC dX10_reads_143 rfl rfl
      refine bs_aload_n hC 4 dX10_reads_131 rfl rfl ?_
      refine bs_get hC (v := .int (bd_I S27 1)) hin_X10 0 (cM_o0 ε S27) rfl 6 (by decide) mw_566 rfl dX10_reads_132 ?_
      refine bs_aload_n hC 4 dX10_reads_135 rfl rfl ?_
      refine bs_get hC (v := .int (bd_I S27 0)) hin_X10 0 (cM_o0 ε S27) rfl 5 (by decide) mw_565 rfl dX10_reads_136 ?_
      refine bs_icmp_ge hC 144 dX10_reads_139 (by decide) (fun c32 => ?_) (fun c32 => ?_)
      · refine bs_aload_n hC 4 dX10_reads_144 rfl rfl ?_
        refine bs_get hC (v := .ref (bd_a ε (1 + 2))) hin_X10 0 (cM_o0 ε S27) rfl 2 (by decide) mw_562 rfl dX10_reads_145 ?_
        refine bs_aload_n hC 4 dX10_reads_148 rfl rfl ?_
        refine bs_get hC (v := .int (bd_I S27 2)) hin_X10 0 (cM_o0 ε S27) rfl 7 (by decide) mw_567 rfl dX10_reads_149 ?_
        refine bs_iload_n hC 2 dX10_reads_152 rfl rfl ?_
        refine bs_iast hC _ (cM_gi ε S27 2 6 (by decide) rfl) (cM_si ε S27 2 6 (by decide) rfl _) dX10_reads_153 (fun S28 eS28 => ?_)
        refine bs_aload_n hC 4 dX10_reads_154 rfl rfl ?_
        refine bs_get hC (v := .ref (bd_a ε (1 + 3))) hin_X10 0 (cM_o0 ε S28) rfl 3 (by decide) mw_563 rfl dX10_reads_155 ?_
        refine bs_aload_n hC 4 dX10_reads_158 rfl rfl ?_
        refine bs_get hC (v := .int (bd_I S28 2)) hin_X10 0 (cM_o0 ε S28) rfl 7 (by decide) mw_567 rfl dX10_reads_159 ?_
        refine bs_iload_n hC 1 dX10_reads_162 rfl rfl ?_
        refine bs_iast hC _ (cM_gi ε S28 3 6 (by decide) rfl) (cM_si ε S28 3 6 (by decide) rfl _) dX10_reads_163 (fun S29 eS29 => ?_)
        refine bs_aload_n hC 4 dX10_reads_164 rfl rfl ?_
        refine bs_get hC (v := .ref (bd_a ε (1 + 4))) hin_X10 0 (cM_o0 ε S29) rfl 4 (by decide) mw_564 rfl dX10_reads_165 ?_
        refine bs_aload_n hC 4 dX10_reads_168 rfl rfl ?_
        refine bs_get hC (v := .int (bd_I S29 2)) hin_X10 0 (cM_o0 ε S29) rfl 7 (by decide) mw_567 rfl dX10_reads_169 ?_
        refine bs_iload hC 0 dX10_reads_172 rfl ?_
        refine bs_iast hC _ (cM_gi ε S29 4 6 (by decide) rfl) (cM_si ε S29 4 6 (by decide) rfl _) dX10_reads_174 (fun S30 eS30 => ?_)
        refine bs_aload_n hC 4 dX10_reads_175 rfl rfl ?_
        refine bs_get hC (v := .ref (bd_a ε (1 + 12))) hin_X10 0 (cM_o0 ε S30) rfl 21 (by decide) mw_581 rfl dX10_reads_176 ?_
        refine bs_aload_n hC 4 dX10_reads_179 rfl rfl ?_
        refine bs_get hC (v := .int (bd_I S30 2)) hin_X10 0 (cM_o0 ε S30) rfl 7 (by decide) mw_567 rfl dX10_reads_180 ?_
        refine bs_iconst hC (-1 : Int32) dX10_reads_183 rfl ?_
        refine bs_iast hC _ (cM_gi ε S30 12 6 (by decide) rfl) (cM_si ε S30 12 6 (by decide) rfl _) dX10_reads_184 (fun S31 eS31 => ?_)
        refine bs_iconst hC (1 : Int32) dX10_reads_185 rfl ?_
        exact bs_zret hC dX10_reads_186 rfl rfl
      refine bs_iconst hC (0 : Int32) dX10_reads_142 rfl ?_
      exact bs_zret hC dX10_reads_143 rfl rfl
    refine bs_iconst hC (0 : Int32) dX10_reads_107 rfl ?_
    exact bs_zret hC dX10_reads_108 rfl rfl
  refine bs_iload_n hC 0 dX10_reads_30 rfl rfl ?_
  refine bs_bipush hC (115 : Int32) dX10_reads_31 rfl ?_
  refine bs_icmp_ne hC 40 dX10_reads_33 (by decide) (fun c103 => ?_) (fun c103 => ?_)
  · refine bs_iconst hC (2 : Int32) dX10_reads_36 rfl ?_
    refine bs_goto hC 71 dX10_reads_37 (by decide) ?_
    refine bs_istore_n hC [(2, .int (2 : Int32)), (1, .int r2), (0, .ref (bd_a ε 0))] dX10_reads_71 rfl (by decide) rfl ?_
    refine bs_iload_n hC 0 dX10_reads_72 rfl rfl ?_
    refine bs_if_geT hC 78 dX10_reads_73 (by decide) (by decide) ?_
    refine bs_aload_n hC 2 dX10_reads_78 rfl rfl ?_
    refine bs_dup hC dX10_reads_79 rfl ?_
    refine bs_get hC (v := .int (bd_I S3 1)) hin_X10 0 (cM_o0 ε S3) rfl 6 (by decide) mw_566 rfl dX10_reads_80 ?_
    refine bs_iconst hC (1 : Int32) dX10_reads_83 rfl ?_
    refine bs_iadd hC dX10_reads_84 ?_
    refine bs_put hC (kk := 1) hin_X10 tyX10 tyX10_ok nmX10 0 (cM_o0 ε S3) rfl 6 (by decide) mw_566 rfl rfl rfl (Nat.le_of_ble_eq_true rfl) (cM_p1 ε S3 _) dX10_reads_85 (fun S36 eS36 => ?_)
    refine bs_aload_n hC 2 dX10_reads_88 rfl rfl ?_
    refine bs_iconst hC (4 : Int32) dX10_reads_89 rfl ?_
    refine bs_callV_i hC (rm := ({ frames := 1, cells := 0, slots := 0, locals := 22 } : Room)) [.int (4 : Int32)] [] (fun h => c_X10_number (bd_l Γ) (bd_D Γ) ε (4 : Int32) S36 h) mw_660 mw_658 mw_659 mw_82 mw_51 (cM_o0 ε S36) rfl by_X10_number ⟨rfl, rfl, by decide, by decide⟩ rfl rfl (Nat.le_of_ble_eq_true rfl) dX10_reads_90 (fun r37 S38 eS38 => ?_)
    refine bs_istore_n hC [(3, .int r37), (2, .int (2 : Int32)), (1, .int r2), (0, .ref (bd_a ε 0))] dX10_reads_93 rfl (by decide) rfl ?_
    refine bs_iload_n hC 0 dX10_reads_94 rfl rfl ?_
    refine bs_if_lt hC 107 dX10_reads_95 (by decide) (fun c51 => ?_) (fun c51 => ?_)
    · refine bs_iconst hC (0 : Int32) dX10_reads_107 rfl ?_
      exact bs_zret hC dX10_reads_108 rfl rfl
    refine bs_aload_n hC 3 dX10_reads_98 rfl rfl ?_
    refine bs_callV_i hC (rm := ({ frames := 0, cells := 0, slots := 0, locals := 0 } : Room)) [] [] (fun h => c_X10_sign (bd_l Γ) (bd_D Γ) ε S38 h) mw_657 mw_655 mw_656 mw_82 mw_50 (cM_o0 ε S38) rfl by_X10_sign ⟨rfl, rfl, by decide, by decide⟩ rfl rfl (Nat.le_of_ble_eq_true rfl) dX10_reads_99 (fun r39 S40 eS40 => ?_)
    refine bs_bipush hC (44 : Int32) dX10_reads_102 rfl ?_
    refine bs_icmp_eq hC 109 dX10_reads_104 (by decide) (fun c50 => ?_) (fun c50 => ?_)
    · refine bs_aload_n hC 3 dX10_reads_109 rfl rfl ?_
      refine bs_dup hC dX10_reads_110 rfl ?_
      refine bs_get hC (v := .int (bd_I S40 1)) hin_X10 0 (cM_o0 ε S40) rfl 6 (by decide) mw_566 rfl dX10_reads_111 ?_
      refine bs_iconst hC (1 : Int32) dX10_reads_114 rfl ?_
      refine bs_iadd hC dX10_reads_115 ?_
      refine bs_put hC (kk := 1) hin_X10 tyX10 tyX10_ok nmX10 0 (cM_o0 ε S40) rfl 6 (by decide) mw_566 rfl rfl rfl (Nat.le_of_ble_eq_true rfl) (cM_p1 ε S40 _) dX10_reads_116 (fun S41 eS41 => ?_)
      refine bs_aload_n hC 3 dX10_reads_119 rfl rfl ?_
      refine bs_iconst hC (2 : Int32) dX10_reads_120 rfl ?_
      refine bs_callV_i hC (rm := ({ frames := 1, cells := 0, slots := 0, locals := 22 } : Room)) [.int (2 : Int32)] [] (fun h => c_X10_number (bd_l Γ) (bd_D Γ) ε (2 : Int32) S41 h) mw_660 mw_658 mw_659 mw_82 mw_51 (cM_o0 ε S41) rfl by_X10_number ⟨rfl, rfl, by decide, by decide⟩ rfl rfl (Nat.le_of_ble_eq_true rfl) dX10_reads_121 (fun r42 S43 eS43 => ?_)
      refine bs_istore hC [(4, .int r42), (3, .int r37), (2, .int (2 : Int32)), (1, .int r2), (0, .ref (bd_a ε 0))] dX10_reads_124 (by decide) rfl ?_
      refine bs_iload hC 0 dX10_reads_126 rfl ?_
      refine bs_if_lt hC 142 dX10_reads_128 (by decide) (fun c49 => ?_) (fun c49 => ?_)
      · refine bs_iconst hC (0 : Int32) dX10_reads_142 rfl ?_
        exact bs_zret hC dX10_reads_143 rfl rfl
      refine bs_aload_n hC 4 dX10_reads_131 rfl rfl ?_
      refine bs_get hC (v := .int (bd_I S43 1)) hin_X10 0 (cM_o0 ε S43) rfl 6 (by decide) mw_566 rfl dX10_reads_132 ?_
      refine bs_aload_n hC 4 dX10_reads_135 rfl rfl ?_
      refine bs_get hC (v := .int (bd_I S43 0)) hin_X10 0 (cM_o0 ε S43) rfl 5 (by decide) mw_565 rfl dX10_reads_136 ?_
      refine bs_icmp_ge hC 144 dX10_reads_139 (by decide) (fun c48 => ?_) (fun c48 => ?_)
      · refine bs_aload_n hC 4 dX10_reads_144 rfl rfl ?_
        refine bs_get hC (v := .ref (bd_a ε (1 + 2))) hin_X10 0 (cM_o0 ε S43) rfl 2 (by decide) mw_562 rfl dX10_reads_145 ?_
        refine bs_aload_n hC 4 dX10_reads_148 rfl rfl ?_
        refine bs_get hC (v := .int (bd_I S43 2)) hin_X10 0 (cM_o0 ε S43) rfl 7 (by decide) mw_567 rfl dX10_reads_149 ?_
        refine bs_iload_n hC 2 dX10_reads_152 rfl rfl ?_
        refine bs_iast hC _ (cM_gi ε S43 2 6 (by decide) rfl) (cM_si ε S43 2 6 (by decide) rfl _) dX10_reads_153 (fun S44 eS44 => ?_)
        refine bs_aload_n hC 4 dX10_reads_154 rfl rfl ?_
        refine bs_get hC (v := .ref (bd_a ε (1 + 3))) hin_X10 0 (cM_o0 ε S44) rfl 3 (by decide) mw_563 rfl dX10_reads_155 ?_
        refine bs_aload_n hC 4 dX10_reads_158 rfl rfl ?_
        refine bs_get hC (v := .int (bd_I S44 2)) hin_X10 0 (cM_o0 ε S44) rfl 7 (by decide) mw_567 rfl dX10_reads_159 ?_
        refine bs_iload_n hC 1 dX10_reads_162 rfl rfl ?_
        refine bs_iast hC _ (cM_gi ε S44 3 6 (by decide) rfl) (cM_si ε S44 3 6 (by decide) rfl _) dX10_reads_163 (fun S45 eS45 => ?_)
        refine bs_aload_n hC 4 dX10_reads_164 rfl rfl ?_
        refine bs_get hC (v := .ref (bd_a ε (1 + 4))) hin_X10 0 (cM_o0 ε S45) rfl 4 (by decide) mw_564 rfl dX10_reads_165 ?_
        refine bs_aload_n hC 4 dX10_reads_168 rfl rfl ?_
        refine bs_get hC (v := .int (bd_I S45 2)) hin_X10 0 (cM_o0 ε S45) rfl 7 (by decide) mw_567 rfl dX10_reads_169 ?_
        refine bs_iload hC 0 dX10_reads_172 rfl ?_
        refine bs_iast hC _ (cM_gi ε S45 4 6 (by decide) rfl) (cM_si ε S45 4 6 (by decide) rfl _) dX10_reads_174 (fun S46 eS46 => ?_)
        refine bs_aload_n hC 4 dX10_reads_175 rfl rfl ?_
        refine bs_get hC (v := .ref (bd_a ε (1 + 12))) hin_X10 0 (cM_o0 ε S46) rfl 21 (by decide) mw_581 rfl dX10_reads_176 ?_
        refine bs_aload_n hC 4 dX10_reads_179 rfl rfl ?_
        refine bs_get hC (v := .int (bd_I S46 2)) hin_X10 0 (cM_o0 ε S46) rfl 7 (by decide) mw_567 rfl dX10_reads_180 ?_
        refine bs_iconst hC (-1 : Int32) dX10_reads_183 rfl ?_
        refine bs_iast hC _ (cM_gi ε S46 12 6 (by decide) rfl) (cM_si ε S46 12 6 (by decide) rfl _) dX10_reads_184 (fun S47 eS47 => ?_)
        refine bs_iconst hC (1 : Int32) dX10_reads_185 rfl ?_
        exact bs_zret hC dX10_reads_186 rfl rfl
      refine bs_iconst hC (0 : Int32) dX10_reads_142 rfl ?_
      exact bs_zret hC dX10_reads_143 rfl rfl
    refine bs_iconst hC (0 : Int32) dX10_reads_107 rfl ?_
    exact bs_zret hC dX10_reads_108 rfl rfl
  refine bs_iload_n hC 0 dX10_reads_40 rfl rfl ?_
  refine bs_bipush hC (119 : Int32) dX10_reads_41 rfl ?_
  refine bs_icmp_ne hC 50 dX10_reads_43 (by decide) (fun c102 => ?_) (fun c102 => ?_)
  · refine bs_iconst hC (3 : Int32) dX10_reads_46 rfl ?_
    refine bs_goto hC 71 dX10_reads_47 (by decide) ?_
    refine bs_istore_n hC [(2, .int (3 : Int32)), (1, .int r2), (0, .ref (bd_a ε 0))] dX10_reads_71 rfl (by decide) rfl ?_
    refine bs_iload_n hC 0 dX10_reads_72 rfl rfl ?_
    refine bs_if_geT hC 78 dX10_reads_73 (by decide) (by decide) ?_
    refine bs_aload_n hC 2 dX10_reads_78 rfl rfl ?_
    refine bs_dup hC dX10_reads_79 rfl ?_
    refine bs_get hC (v := .int (bd_I S3 1)) hin_X10 0 (cM_o0 ε S3) rfl 6 (by decide) mw_566 rfl dX10_reads_80 ?_
    refine bs_iconst hC (1 : Int32) dX10_reads_83 rfl ?_
    refine bs_iadd hC dX10_reads_84 ?_
    refine bs_put hC (kk := 1) hin_X10 tyX10 tyX10_ok nmX10 0 (cM_o0 ε S3) rfl 6 (by decide) mw_566 rfl rfl rfl (Nat.le_of_ble_eq_true rfl) (cM_p1 ε S3 _) dX10_reads_85 (fun S52 eS52 => ?_)
    refine bs_aload_n hC 2 dX10_reads_88 rfl rfl ?_
    refine bs_iconst hC (4 : Int32) dX10_reads_89 rfl ?_
    refine bs_callV_i hC (rm := ({ frames := 1, cells := 0, slots := 0, locals := 22 } : Room)) [.int (4 : Int32)] [] (fun h => c_X10_number (bd_l Γ) (bd_D Γ) ε (4 : Int32) S52 h) mw_660 mw_658 mw_659 mw_82 mw_51 (cM_o0 ε S52) rfl by_X10_number ⟨rfl, rfl, by decide, by decide⟩ rfl rfl (Nat.le_of_ble_eq_true rfl) dX10_reads_90 (fun r53 S54 eS54 => ?_)
    refine bs_istore_n hC [(3, .int r53), (2, .int (3 : Int32)), (1, .int r2), (0, .ref (bd_a ε 0))] dX10_reads_93 rfl (by decide) rfl ?_
    refine bs_iload_n hC 0 dX10_reads_94 rfl rfl ?_
    refine bs_if_lt hC 107 dX10_reads_95 (by decide) (fun c67 => ?_) (fun c67 => ?_)
    · refine bs_iconst hC (0 : Int32) dX10_reads_107 rfl ?_
      exact bs_zret hC dX10_reads_108 rfl rfl
    refine bs_aload_n hC 3 dX10_reads_98 rfl rfl ?_
    refine bs_callV_i hC (rm := ({ frames := 0, cells := 0, slots := 0, locals := 0 } : Room)) [] [] (fun h => c_X10_sign (bd_l Γ) (bd_D Γ) ε S54 h) mw_657 mw_655 mw_656 mw_82 mw_50 (cM_o0 ε S54) rfl by_X10_sign ⟨rfl, rfl, by decide, by decide⟩ rfl rfl (Nat.le_of_ble_eq_true rfl) dX10_reads_99 (fun r55 S56 eS56 => ?_)
    refine bs_bipush hC (44 : Int32) dX10_reads_102 rfl ?_
    refine bs_icmp_eq hC 109 dX10_reads_104 (by decide) (fun c66 => ?_) (fun c66 => ?_)
    · refine bs_aload_n hC 3 dX10_reads_109 rfl rfl ?_
      refine bs_dup hC dX10_reads_110 rfl ?_
      refine bs_get hC (v := .int (bd_I S56 1)) hin_X10 0 (cM_o0 ε S56) rfl 6 (by decide) mw_566 rfl dX10_reads_111 ?_
      refine bs_iconst hC (1 : Int32) dX10_reads_114 rfl ?_
      refine bs_iadd hC dX10_reads_115 ?_
      refine bs_put hC (kk := 1) hin_X10 tyX10 tyX10_ok nmX10 0 (cM_o0 ε S56) rfl 6 (by decide) mw_566 rfl rfl rfl (Nat.le_of_ble_eq_true rfl) (cM_p1 ε S56 _) dX10_reads_116 (fun S57 eS57 => ?_)
      refine bs_aload_n hC 3 dX10_reads_119 rfl rfl ?_
      refine bs_iconst hC (2 : Int32) dX10_reads_120 rfl ?_
      refine bs_callV_i hC (rm := ({ frames := 1, cells := 0, slots := 0, locals := 22 } : Room)) [.int (2 : Int32)] [] (fun h => c_X10_number (bd_l Γ) (bd_D Γ) ε (2 : Int32) S57 h) mw_660 mw_658 mw_659 mw_82 mw_51 (cM_o0 ε S57) rfl by_X10_number ⟨rfl, rfl, by decide, by decide⟩ rfl rfl (Nat.le_of_ble_eq_true rfl) dX10_reads_121 (fun r58 S59 eS59 => ?_)
      refine bs_istore hC [(4, .int r58), (3, .int r53), (2, .int (3 : Int32)), (1, .int r2), (0, .ref (bd_a ε 0))] dX10_reads_124 (by decide) rfl ?_
      refine bs_iload hC 0 dX10_reads_126 rfl ?_
      refine bs_if_lt hC 142 dX10_reads_128 (by decide) (fun c65 => ?_) (fun c65 => ?_)
      · refine bs_iconst hC (0 : Int32) dX10_reads_142 rfl ?_
        exact bs_zret hC dX10_reads_143 rfl rfl
      refine bs_aload_n hC 4 dX10_reads_131 rfl rfl ?_
      refine bs_get hC (v := .int (bd_I S59 1)) hin_X10 0 (cM_o0 ε S59) rfl 6 (by decide) mw_566 rfl dX10_reads_132 ?_
      refine bs_aload_n hC 4 dX10_reads_135 rfl rfl ?_
      refine bs_get hC (v := .int (bd_I S59 0)) hin_X10 0 (cM_o0 ε S59) rfl 5 (by decide) mw_565 rfl dX10_reads_136 ?_
      refine bs_icmp_ge hC 144 dX10_reads_139 (by decide) (fun c64 => ?_) (fun c64 => ?_)
      · refine bs_aload_n hC 4 dX10_reads_144 rfl rfl ?_
        refine bs_get hC (v := .ref (bd_a ε (1 + 2))) hin_X10 0 (cM_o0 ε S59) rfl 2 (by decide) mw_562 rfl dX10_reads_145 ?_
        refine bs_aload_n hC 4 dX10_reads_148 rfl rfl ?_
        refine bs_get hC (v := .int (bd_I S59 2)) hin_X10 0 (cM_o0 ε S59) rfl 7 (by decide) mw_567 rfl dX10_reads_149 ?_
        refine bs_iload_n hC 2 dX10_reads_152 rfl rfl ?_
        refine bs_iast hC _ (cM_gi ε S59 2 6 (by decide) rfl) (cM_si ε S59 2 6 (by decide) rfl _) dX10_reads_153 (fun S60 eS60 => ?_)
        refine bs_aload_n hC 4 dX10_reads_154 rfl rfl ?_
        refine bs_get hC (v := .ref (bd_a ε (1 + 3))) hin_X10 0 (cM_o0 ε S60) rfl 3 (by decide) mw_563 rfl dX10_reads_155 ?_
        refine bs_aload_n hC 4 dX10_reads_158 rfl rfl ?_
        refine bs_get hC (v := .int (bd_I S60 2)) hin_X10 0 (cM_o0 ε S60) rfl 7 (by decide) mw_567 rfl dX10_reads_159 ?_
        refine bs_iload_n hC 1 dX10_reads_162 rfl rfl ?_
        refine bs_iast hC _ (cM_gi ε S60 3 6 (by decide) rfl) (cM_si ε S60 3 6 (by decide) rfl _) dX10_reads_163 (fun S61 eS61 => ?_)
        refine bs_aload_n hC 4 dX10_reads_164 rfl rfl ?_
        refine bs_get hC (v := .ref (bd_a ε (1 + 4))) hin_X10 0 (cM_o0 ε S61) rfl 4 (by decide) mw_564 rfl dX10_reads_165 ?_
        refine bs_aload_n hC 4 dX10_reads_168 rfl rfl ?_
        refine bs_get hC (v := .int (bd_I S61 2)) hin_X10 0 (cM_o0 ε S61) rfl 7 (by decide) mw_567 rfl dX10_reads_169 ?_
        refine bs_iload hC 0 dX10_reads_172 rfl ?_
        refine bs_iast hC _ (cM_gi ε S61 4 6 (by decide) rfl) (cM_si ε S61 4 6 (by decide) rfl _) dX10_reads_174 (fun S62 eS62 => ?_)
        refine bs_aload_n hC 4 dX10_reads_175 rfl rfl ?_
        refine bs_get hC (v := .ref (bd_a ε (1 + 12))) hin_X10 0 (cM_o0 ε S62) rfl 21 (by decide) mw_581 rfl dX10_reads_176 ?_
        refine bs_aload_n hC 4 dX10_reads_179 rfl rfl ?_
        refine bs_get hC (v := .int (bd_I S62 2)) hin_X10 0 (cM_o0 ε S62) rfl 7 (by decide) mw_567 rfl dX10_reads_180 ?_
        refine bs_iconst hC (-1 : Int32) dX10_reads_183 rfl ?_
        refine bs_iast hC _ (cM_gi ε S62 12 6 (by decide) rfl) (cM_si ε S62 12 6 (by decide) rfl _) dX10_reads_184 (fun S63 eS63 => ?_)
        refine bs_iconst hC (1 : Int32) dX10_reads_185 rfl ?_
        exact bs_zret hC dX10_reads_186 rfl rfl
      refine bs_iconst hC (0 : Int32) dX10_reads_142 rfl ?_
      exact bs_zret hC dX10_reads_143 rfl rfl
    refine bs_iconst hC (0 : Int32) dX10_reads_107 rfl ?_
    exact bs_zret hC dX10_reads_108 rfl rfl
  refine bs_iload_n hC 0 dX10_reads_50 rfl rfl ?_
  refine bs_bipush hC (100 : Int32) dX10_reads_51 rfl ?_
  refine bs_icmp_ne hC 60 dX10_reads_53 (by decide) (fun c101 => ?_) (fun c101 => ?_)
  · refine bs_iconst hC (4 : Int32) dX10_reads_56 rfl ?_
    refine bs_goto hC 71 dX10_reads_57 (by decide) ?_
    refine bs_istore_n hC [(2, .int (4 : Int32)), (1, .int r2), (0, .ref (bd_a ε 0))] dX10_reads_71 rfl (by decide) rfl ?_
    refine bs_iload_n hC 0 dX10_reads_72 rfl rfl ?_
    refine bs_if_geT hC 78 dX10_reads_73 (by decide) (by decide) ?_
    refine bs_aload_n hC 2 dX10_reads_78 rfl rfl ?_
    refine bs_dup hC dX10_reads_79 rfl ?_
    refine bs_get hC (v := .int (bd_I S3 1)) hin_X10 0 (cM_o0 ε S3) rfl 6 (by decide) mw_566 rfl dX10_reads_80 ?_
    refine bs_iconst hC (1 : Int32) dX10_reads_83 rfl ?_
    refine bs_iadd hC dX10_reads_84 ?_
    refine bs_put hC (kk := 1) hin_X10 tyX10 tyX10_ok nmX10 0 (cM_o0 ε S3) rfl 6 (by decide) mw_566 rfl rfl rfl (Nat.le_of_ble_eq_true rfl) (cM_p1 ε S3 _) dX10_reads_85 (fun S68 eS68 => ?_)
    refine bs_aload_n hC 2 dX10_reads_88 rfl rfl ?_
    refine bs_iconst hC (4 : Int32) dX10_reads_89 rfl ?_
    refine bs_callV_i hC (rm := ({ frames := 1, cells := 0, slots := 0, locals := 22 } : Room)) [.int (4 : Int32)] [] (fun h => c_X10_number (bd_l Γ) (bd_D Γ) ε (4 : Int32) S68 h) mw_660 mw_658 mw_659 mw_82 mw_51 (cM_o0 ε S68) rfl by_X10_number ⟨rfl, rfl, by decide, by decide⟩ rfl rfl (Nat.le_of_ble_eq_true rfl) dX10_reads_90 (fun r69 S70 eS70 => ?_)
    refine bs_istore_n hC [(3, .int r69), (2, .int (4 : Int32)), (1, .int r2), (0, .ref (bd_a ε 0))] dX10_reads_93 rfl (by decide) rfl ?_
    refine bs_iload_n hC 0 dX10_reads_94 rfl rfl ?_
    refine bs_if_lt hC 107 dX10_reads_95 (by decide) (fun c83 => ?_) (fun c83 => ?_)
    · refine bs_iconst hC (0 : Int32) dX10_reads_107 rfl ?_
      exact bs_zret hC dX10_reads_108 rfl rfl
    refine bs_aload_n hC 3 dX10_reads_98 rfl rfl ?_
    refine bs_callV_i hC (rm := ({ frames := 0, cells := 0, slots := 0, locals := 0 } : Room)) [] [] (fun h => c_X10_sign (bd_l Γ) (bd_D Γ) ε S70 h) mw_657 mw_655 mw_656 mw_82 mw_50 (cM_o0 ε S70) rfl by_X10_sign ⟨rfl, rfl, by decide, by decide⟩ rfl rfl (Nat.le_of_ble_eq_true rfl) dX10_reads_99 (fun r71 S72 eS72 => ?_)
    refine bs_bipush hC (44 : Int32) dX10_reads_102 rfl ?_
    refine bs_icmp_eq hC 109 dX10_reads_104 (by decide) (fun c82 => ?_) (fun c82 => ?_)
    · refine bs_aload_n hC 3 dX10_reads_109 rfl rfl ?_
      refine bs_dup hC dX10_reads_110 rfl ?_
      refine bs_get hC (v := .int (bd_I S72 1)) hin_X10 0 (cM_o0 ε S72) rfl 6 (by decide) mw_566 rfl dX10_reads_111 ?_
      refine bs_iconst hC (1 : Int32) dX10_reads_114 rfl ?_
      refine bs_iadd hC dX10_reads_115 ?_
      refine bs_put hC (kk := 1) hin_X10 tyX10 tyX10_ok nmX10 0 (cM_o0 ε S72) rfl 6 (by decide) mw_566 rfl rfl rfl (Nat.le_of_ble_eq_true rfl) (cM_p1 ε S72 _) dX10_reads_116 (fun S73 eS73 => ?_)
      refine bs_aload_n hC 3 dX10_reads_119 rfl rfl ?_
      refine bs_iconst hC (2 : Int32) dX10_reads_120 rfl ?_
      refine bs_callV_i hC (rm := ({ frames := 1, cells := 0, slots := 0, locals := 22 } : Room)) [.int (2 : Int32)] [] (fun h => c_X10_number (bd_l Γ) (bd_D Γ) ε (2 : Int32) S73 h) mw_660 mw_658 mw_659 mw_82 mw_51 (cM_o0 ε S73) rfl by_X10_number ⟨rfl, rfl, by decide, by decide⟩ rfl rfl (Nat.le_of_ble_eq_true rfl) dX10_reads_121 (fun r74 S75 eS75 => ?_)
      refine bs_istore hC [(4, .int r74), (3, .int r69), (2, .int (4 : Int32)), (1, .int r2), (0, .ref (bd_a ε 0))] dX10_reads_124 (by decide) rfl ?_
      refine bs_iload hC 0 dX10_reads_126 rfl ?_
      refine bs_if_lt hC 142 dX10_reads_128 (by decide) (fun c81 => ?_) (fun c81 => ?_)
      · refine bs_iconst hC (0 : Int32) dX10_reads_142 rfl ?_
        exact bs_zret hC dX10_reads_143 rfl rfl
      refine bs_aload_n hC 4 dX10_reads_131 rfl rfl ?_
      refine bs_get hC (v := .int (bd_I S75 1)) hin_X10 0 (cM_o0 ε S75) rfl 6 (by decide) mw_566 rfl dX10_reads_132 ?_
      refine bs_aload_n hC 4 dX10_reads_135 rfl rfl ?_
      refine bs_get hC (v := .int (bd_I S75 0)) hin_X10 0 (cM_o0 ε S75) rfl 5 (by decide) mw_565 rfl dX10_reads_136 ?_
      refine bs_icmp_ge hC 144 dX10_reads_139 (by decide) (fun c80 => ?_) (fun c80 => ?_)
      · refine bs_aload_n hC 4 dX10_reads_144 rfl rfl ?_
        refine bs_get hC (v := .ref (bd_a ε (1 + 2))) hin_X10 0 (cM_o0 ε S75) rfl 2 (by decide) mw_562 rfl dX10_reads_145 ?_
        refine bs_aload_n hC 4 dX10_reads_148 rfl rfl ?_
        refine bs_get hC (v := .int (bd_I S75 2)) hin_X10 0 (cM_o0 ε S75) rfl 7 (by decide) mw_567 rfl dX10_reads_149 ?_
        refine bs_iload_n hC 2 dX10_reads_152 rfl rfl ?_
        refine bs_iast hC _ (cM_gi ε S75 2 6 (by decide) rfl) (cM_si ε S75 2 6 (by decide) rfl _) dX10_reads_153 (fun S76 eS76 => ?_)
        refine bs_aload_n hC 4 dX10_reads_154 rfl rfl ?_
        refine bs_get hC (v := .ref (bd_a ε (1 + 3))) hin_X10 0 (cM_o0 ε S76) rfl 3 (by decide) mw_563 rfl dX10_reads_155 ?_
        refine bs_aload_n hC 4 dX10_reads_158 rfl rfl ?_
        refine bs_get hC (v := .int (bd_I S76 2)) hin_X10 0 (cM_o0 ε S76) rfl 7 (by decide) mw_567 rfl dX10_reads_159 ?_
        refine bs_iload_n hC 1 dX10_reads_162 rfl rfl ?_
        refine bs_iast hC _ (cM_gi ε S76 3 6 (by decide) rfl) (cM_si ε S76 3 6 (by decide) rfl _) dX10_reads_163 (fun S77 eS77 => ?_)
        refine bs_aload_n hC 4 dX10_reads_164 rfl rfl ?_
        refine bs_get hC (v := .ref (bd_a ε (1 + 4))) hin_X10 0 (cM_o0 ε S77) rfl 4 (by decide) mw_564 rfl dX10_reads_165 ?_
        refine bs_aload_n hC 4 dX10_reads_168 rfl rfl ?_
        refine bs_get hC (v := .int (bd_I S77 2)) hin_X10 0 (cM_o0 ε S77) rfl 7 (by decide) mw_567 rfl dX10_reads_169 ?_
        refine bs_iload hC 0 dX10_reads_172 rfl ?_
        refine bs_iast hC _ (cM_gi ε S77 4 6 (by decide) rfl) (cM_si ε S77 4 6 (by decide) rfl _) dX10_reads_174 (fun S78 eS78 => ?_)
        refine bs_aload_n hC 4 dX10_reads_175 rfl rfl ?_
        refine bs_get hC (v := .ref (bd_a ε (1 + 12))) hin_X10 0 (cM_o0 ε S78) rfl 21 (by decide) mw_581 rfl dX10_reads_176 ?_
        refine bs_aload_n hC 4 dX10_reads_179 rfl rfl ?_
        refine bs_get hC (v := .int (bd_I S78 2)) hin_X10 0 (cM_o0 ε S78) rfl 7 (by decide) mw_567 rfl dX10_reads_180 ?_
        refine bs_iconst hC (-1 : Int32) dX10_reads_183 rfl ?_
        refine bs_iast hC _ (cM_gi ε S78 12 6 (by decide) rfl) (cM_si ε S78 12 6 (by decide) rfl _) dX10_reads_184 (fun S79 eS79 => ?_)
        refine bs_iconst hC (1 : Int32) dX10_reads_185 rfl ?_
        exact bs_zret hC dX10_reads_186 rfl rfl
      refine bs_iconst hC (0 : Int32) dX10_reads_142 rfl ?_
      exact bs_zret hC dX10_reads_143 rfl rfl
    refine bs_iconst hC (0 : Int32) dX10_reads_107 rfl ?_
    exact bs_zret hC dX10_reads_108 rfl rfl
  refine bs_iload_n hC 0 dX10_reads_60 rfl rfl ?_
  refine bs_bipush hC (107 : Int32) dX10_reads_61 rfl ?_
  refine bs_icmp_ne hC 70 dX10_reads_63 (by decide) (fun c100 => ?_) (fun c100 => ?_)
  · refine bs_iconst hC (5 : Int32) dX10_reads_66 rfl ?_
    refine bs_goto hC 71 dX10_reads_67 (by decide) ?_
    refine bs_istore_n hC [(2, .int (5 : Int32)), (1, .int r2), (0, .ref (bd_a ε 0))] dX10_reads_71 rfl (by decide) rfl ?_
    refine bs_iload_n hC 0 dX10_reads_72 rfl rfl ?_
    refine bs_if_geT hC 78 dX10_reads_73 (by decide) (by decide) ?_
    refine bs_aload_n hC 2 dX10_reads_78 rfl rfl ?_
    refine bs_dup hC dX10_reads_79 rfl ?_
    refine bs_get hC (v := .int (bd_I S3 1)) hin_X10 0 (cM_o0 ε S3) rfl 6 (by decide) mw_566 rfl dX10_reads_80 ?_
    refine bs_iconst hC (1 : Int32) dX10_reads_83 rfl ?_
    refine bs_iadd hC dX10_reads_84 ?_
    refine bs_put hC (kk := 1) hin_X10 tyX10 tyX10_ok nmX10 0 (cM_o0 ε S3) rfl 6 (by decide) mw_566 rfl rfl rfl (Nat.le_of_ble_eq_true rfl) (cM_p1 ε S3 _) dX10_reads_85 (fun S84 eS84 => ?_)
    refine bs_aload_n hC 2 dX10_reads_88 rfl rfl ?_
    refine bs_iconst hC (4 : Int32) dX10_reads_89 rfl ?_
    refine bs_callV_i hC (rm := ({ frames := 1, cells := 0, slots := 0, locals := 22 } : Room)) [.int (4 : Int32)] [] (fun h => c_X10_number (bd_l Γ) (bd_D Γ) ε (4 : Int32) S84 h) mw_660 mw_658 mw_659 mw_82 mw_51 (cM_o0 ε S84) rfl by_X10_number ⟨rfl, rfl, by decide, by decide⟩ rfl rfl (Nat.le_of_ble_eq_true rfl) dX10_reads_90 (fun r85 S86 eS86 => ?_)
    refine bs_istore_n hC [(3, .int r85), (2, .int (5 : Int32)), (1, .int r2), (0, .ref (bd_a ε 0))] dX10_reads_93 rfl (by decide) rfl ?_
    refine bs_iload_n hC 0 dX10_reads_94 rfl rfl ?_
    refine bs_if_lt hC 107 dX10_reads_95 (by decide) (fun c99 => ?_) (fun c99 => ?_)
    · refine bs_iconst hC (0 : Int32) dX10_reads_107 rfl ?_
      exact bs_zret hC dX10_reads_108 rfl rfl
    refine bs_aload_n hC 3 dX10_reads_98 rfl rfl ?_
    refine bs_callV_i hC (rm := ({ frames := 0, cells := 0, slots := 0, locals := 0 } : Room)) [] [] (fun h => c_X10_sign (bd_l Γ) (bd_D Γ) ε S86 h) mw_657 mw_655 mw_656 mw_82 mw_50 (cM_o0 ε S86) rfl by_X10_sign ⟨rfl, rfl, by decide, by decide⟩ rfl rfl (Nat.le_of_ble_eq_true rfl) dX10_reads_99 (fun r87 S88 eS88 => ?_)
    refine bs_bipush hC (44 : Int32) dX10_reads_102 rfl ?_
    refine bs_icmp_eq hC 109 dX10_reads_104 (by decide) (fun c98 => ?_) (fun c98 => ?_)
    · refine bs_aload_n hC 3 dX10_reads_109 rfl rfl ?_
      refine bs_dup hC dX10_reads_110 rfl ?_
      refine bs_get hC (v := .int (bd_I S88 1)) hin_X10 0 (cM_o0 ε S88) rfl 6 (by decide) mw_566 rfl dX10_reads_111 ?_
      refine bs_iconst hC (1 : Int32) dX10_reads_114 rfl ?_
      refine bs_iadd hC dX10_reads_115 ?_
      refine bs_put hC (kk := 1) hin_X10 tyX10 tyX10_ok nmX10 0 (cM_o0 ε S88) rfl 6 (by decide) mw_566 rfl rfl rfl (Nat.le_of_ble_eq_true rfl) (cM_p1 ε S88 _) dX10_reads_116 (fun S89 eS89 => ?_)
      refine bs_aload_n hC 3 dX10_reads_119 rfl rfl ?_
      refine bs_iconst hC (2 : Int32) dX10_reads_120 rfl ?_
      refine bs_callV_i hC (rm := ({ frames := 1, cells := 0, slots := 0, locals := 22 } : Room)) [.int (2 : Int32)] [] (fun h => c_X10_number (bd_l Γ) (bd_D Γ) ε (2 : Int32) S89 h) mw_660 mw_658 mw_659 mw_82 mw_51 (cM_o0 ε S89) rfl by_X10_number ⟨rfl, rfl, by decide, by decide⟩ rfl rfl (Nat.le_of_ble_eq_true rfl) dX10_reads_121 (fun r90 S91 eS91 => ?_)
      refine bs_istore hC [(4, .int r90), (3, .int r85), (2, .int (5 : Int32)), (1, .int r2), (0, .ref (bd_a ε 0))] dX10_reads_124 (by decide) rfl ?_
      refine bs_iload hC 0 dX10_reads_126 rfl ?_
      refine bs_if_lt hC 142 dX10_reads_128 (by decide) (fun c97 => ?_) (fun c97 => ?_)
      · refine bs_iconst hC (0 : Int32) dX10_reads_142 rfl ?_
        exact bs_zret hC dX10_reads_143 rfl rfl
      refine bs_aload_n hC 4 dX10_reads_131 rfl rfl ?_
      refine bs_get hC (v := .int (bd_I S91 1)) hin_X10 0 (cM_o0 ε S91) rfl 6 (by decide) mw_566 rfl dX10_reads_132 ?_
      refine bs_aload_n hC 4 dX10_reads_135 rfl rfl ?_
      refine bs_get hC (v := .int (bd_I S91 0)) hin_X10 0 (cM_o0 ε S91) rfl 5 (by decide) mw_565 rfl dX10_reads_136 ?_
      refine bs_icmp_ge hC 144 dX10_reads_139 (by decide) (fun c96 => ?_) (fun c96 => ?_)
      · refine bs_aload_n hC 4 dX10_reads_144 rfl rfl ?_
        refine bs_get hC (v := .ref (bd_a ε (1 + 2))) hin_X10 0 (cM_o0 ε S91) rfl 2 (by decide) mw_562 rfl dX10_reads_145 ?_
        refine bs_aload_n hC 4 dX10_reads_148 rfl rfl ?_
        refine bs_get hC (v := .int (bd_I S91 2)) hin_X10 0 (cM_o0 ε S91) rfl 7 (by decide) mw_567 rfl dX10_reads_149 ?_
        refine bs_iload_n hC 2 dX10_reads_152 rfl rfl ?_
        refine bs_iast hC _ (cM_gi ε S91 2 6 (by decide) rfl) (cM_si ε S91 2 6 (by decide) rfl _) dX10_reads_153 (fun S92 eS92 => ?_)
        refine bs_aload_n hC 4 dX10_reads_154 rfl rfl ?_
        refine bs_get hC (v := .ref (bd_a ε (1 + 3))) hin_X10 0 (cM_o0 ε S92) rfl 3 (by decide) mw_563 rfl dX10_reads_155 ?_
        refine bs_aload_n hC 4 dX10_reads_158 rfl rfl ?_
        refine bs_get hC (v := .int (bd_I S92 2)) hin_X10 0 (cM_o0 ε S92) rfl 7 (by decide) mw_567 rfl dX10_reads_159 ?_
        refine bs_iload_n hC 1 dX10_reads_162 rfl rfl ?_
        refine bs_iast hC _ (cM_gi ε S92 3 6 (by decide) rfl) (cM_si ε S92 3 6 (by decide) rfl _) dX10_reads_163 (fun S93 eS93 => ?_)
        refine bs_aload_n hC 4 dX10_reads_164 rfl rfl ?_
        refine bs_get hC (v := .ref (bd_a ε (1 + 4))) hin_X10 0 (cM_o0 ε S93) rfl 4 (by decide) mw_564 rfl dX10_reads_165 ?_
        refine bs_aload_n hC 4 dX10_reads_168 rfl rfl ?_
        refine bs_get hC (v := .int (bd_I S93 2)) hin_X10 0 (cM_o0 ε S93) rfl 7 (by decide) mw_567 rfl dX10_reads_169 ?_
        refine bs_iload hC 0 dX10_reads_172 rfl ?_
        refine bs_iast hC _ (cM_gi ε S93 4 6 (by decide) rfl) (cM_si ε S93 4 6 (by decide) rfl _) dX10_reads_174 (fun S94 eS94 => ?_)
        refine bs_aload_n hC 4 dX10_reads_175 rfl rfl ?_
        refine bs_get hC (v := .ref (bd_a ε (1 + 12))) hin_X10 0 (cM_o0 ε S94) rfl 21 (by decide) mw_581 rfl dX10_reads_176 ?_
        refine bs_aload_n hC 4 dX10_reads_179 rfl rfl ?_
        refine bs_get hC (v := .int (bd_I S94 2)) hin_X10 0 (cM_o0 ε S94) rfl 7 (by decide) mw_567 rfl dX10_reads_180 ?_
        refine bs_iconst hC (-1 : Int32) dX10_reads_183 rfl ?_
        refine bs_iast hC _ (cM_gi ε S94 12 6 (by decide) rfl) (cM_si ε S94 12 6 (by decide) rfl _) dX10_reads_184 (fun S95 eS95 => ?_)
        refine bs_iconst hC (1 : Int32) dX10_reads_185 rfl ?_
        exact bs_zret hC dX10_reads_186 rfl rfl
      refine bs_iconst hC (0 : Int32) dX10_reads_142 rfl ?_
      exact bs_zret hC dX10_reads_143 rfl rfl
    refine bs_iconst hC (0 : Int32) dX10_reads_107 rfl ?_
    exact bs_zret hC dX10_reads_108 rfl rfl
  refine bs_iconst hC (-1 : Int32) dX10_reads_70 rfl ?_
  refine bs_istore_n hC [(2, .int (-1 : Int32)), (1, .int r2), (0, .ref (bd_a ε 0))] dX10_reads_71 rfl (by decide) rfl ?_
  refine bs_iload_n hC 0 dX10_reads_72 rfl rfl ?_
  refine bs_if_geF hC 78 dX10_reads_73 (by decide) (by decide) ?_
  refine bs_iconst hC (0 : Int32) dX10_reads_76 rfl ?_
  exact bs_zret hC dX10_reads_77 rfl rfl
theorem c_X10_reads (l : Launch) (D : va_G) (ε : bd_E)  (S : bd_T) (h0 : (f_X10_reads S).isSome = true) : bd_Con l yX10_reads (Cond.code yX10_reads cX10_reads 5 (some .boolean) :: bd_tbl) ({ frames := 2, cells := 0, slots := 0, locals := 45 } : Room) D ε (cM ε) bd_vi [.ref (bd_a ε 0)] S (f_X10_reads S) :=
  bd_con (by decide +kernel) (Nat.le_of_ble_eq_true rfl) ⟨rfl, rfl⟩ h0 (fun Γ _ _ hC => bs_eq bs_bs (b_X10_reads hC S))
set_option maxRecDepth 100000 in
set_option maxHeartbeats 4000000 in
theorem b_X10_thing {Γ : bd_G} {ε : bd_E} {t0 : Option (Int32 × bd_T)} (hC : bd_C Γ cX10_thing 2 RX10 (some .int) ({ frames := 3, cells := 0, slots := 0, locals := 69 } : Room) ε (cM ε) bd_vi t0)  (S : bd_T) : bd_S Γ 2 t0 ((f_X10_thing S).bind some) (cM ε S) 0 [(0, .ref (bd_a ε 0))] [] := by
  unfold f_X10_thing
  refine bs_aload_n hC 0 dX10_thing_0 rfl rfl ?_
  refine bs_get hC (v := .int (bd_I S 2)) hin_X10 0 (cM_o0 ε S) rfl 7 (by decide) mw_567 rfl dX10_thing_1 ?_
  refine bs_bipush hC (6 : Int32) dX10_thing_4 rfl ?_
  refine bs_icmp_ne hC 16 dX10_thing_6 (by decide) (fun c9 => ?_) (fun c9 => ?_)
  · refine bs_aload_n hC 0 dX10_thing_9 rfl rfl ?_
    refine bs_bipush hC (-6 : Int32) dX10_thing_10 rfl ?_
    refine bs_callV_i hC (rm := ({ frames := 0, cells := 0, slots := 0, locals := 0 } : Room)) [.int (-6 : Int32)] [] (fun h => c_X10_no (bd_l Γ) (bd_D Γ) ε (-6 : Int32) S h) mw_646 mw_644 mw_645 mw_82 mw_48 (cM_o0 ε S) rfl by_X10_no ⟨rfl, rfl, by decide, by decide⟩ rfl rfl (Nat.le_of_ble_eq_true rfl) dX10_thing_12 (fun r1 S2 eS2 => ?_)
    exact bs_iret hC dX10_thing_15 rfl
  refine bs_aload_n hC 0 dX10_thing_16 rfl rfl ?_
  refine bs_callV_i hC (rm := ({ frames := 2, cells := 0, slots := 0, locals := 45 } : Room)) [] [] (fun h => c_X10_reads (bd_l Γ) (bd_D Γ) ε S h) mw_654 mw_652 mw_653 mw_82 mw_49 (cM_o0 ε S) rfl by_X10_reads ⟨rfl, rfl, by decide, by decide⟩ rfl rfl (Nat.le_of_ble_eq_true rfl) dX10_thing_17 (fun r3 S4 eS4 => ?_)
  refine bs_istore_n hC [(1, .int r3), (0, .ref (bd_a ε 0))] dX10_thing_20 rfl (by decide) rfl ?_
  refine bs_aload_n hC 1 dX10_thing_21 rfl rfl ?_
  refine bs_iconst hC (0 : Int32) dX10_thing_22 rfl ?_
  refine bs_put hC (kk := 0) hin_X10 tyX10 tyX10_ok nmX10 0 (cM_o0 ε S4) rfl 5 (by decide) mw_565 rfl rfl rfl (Nat.le_of_ble_eq_true rfl) (cM_p0 ε S4 _) dX10_thing_23 (fun S5 eS5 => ?_)
  refine bs_iload_n hC 0 dX10_thing_26 rfl rfl ?_
  refine bs_if_ne hC 38 dX10_thing_27 (by decide) (fun c8 => ?_) (fun c8 => ?_)
  · refine bs_bipush hC (-20 : Int32) dX10_thing_30 rfl ?_
    refine bs_aload_n hC 1 dX10_thing_32 rfl rfl ?_
    refine bs_get hC (v := .int (bd_I S5 1)) hin_X10 0 (cM_o0 ε S5) rfl 6 (by decide) mw_566 rfl dX10_thing_33 ?_
    refine bs_isub hC dX10_thing_36 ?_
    exact bs_iret hC dX10_thing_37 rfl
  refine bs_aload_n hC 1 dX10_thing_38 rfl rfl ?_
  refine bs_dup hC dX10_thing_39 rfl ?_
  refine bs_get hC (v := .int (bd_I S5 2)) hin_X10 0 (cM_o0 ε S5) rfl 7 (by decide) mw_567 rfl dX10_thing_40 ?_
  refine bs_iconst hC (1 : Int32) dX10_thing_43 rfl ?_
  refine bs_iadd hC dX10_thing_44 ?_
  refine bs_put hC (kk := 2) hin_X10 tyX10 tyX10_ok nmX10 0 (cM_o0 ε S5) rfl 7 (by decide) mw_567 rfl rfl rfl (Nat.le_of_ble_eq_true rfl) (cM_p2 ε S5 _) dX10_thing_45 (fun S6 eS6 => ?_)
  refine bs_aload_n hC 1 dX10_thing_48 rfl rfl ?_
  refine bs_iconst hC (1 : Int32) dX10_thing_49 rfl ?_
  refine bs_put hC (kk := 7) hin_X10 tyX10 tyX10_ok nmX10 0 (cM_o0 ε S6) rfl 14 (by decide) mw_574 rfl rfl rfl (Nat.le_of_ble_eq_true rfl) (cM_p7 ε S6 _) dX10_thing_50 (fun S7 eS7 => ?_)
  refine bs_aload_n hC 1 dX10_thing_53 rfl rfl ?_
  refine bs_get hC (v := .int (bd_I S7 2)) hin_X10 0 (cM_o0 ε S7) rfl 7 (by decide) mw_567 rfl dX10_thing_54 ?_
  refine bs_iconst hC (1 : Int32) dX10_thing_57 rfl ?_
  refine bs_isub hC dX10_thing_58 ?_
  exact bs_iret hC dX10_thing_59 rfl
theorem c_X10_thing (l : Launch) (D : va_G) (ε : bd_E)  (S : bd_T) (h0 : (f_X10_thing S).isSome = true) : bd_Con l yX10_thing (Cond.code yX10_thing cX10_thing 2 (some .int) :: bd_tbl) ({ frames := 3, cells := 0, slots := 0, locals := 69 } : Room) D ε (cM ε) bd_vi [.ref (bd_a ε 0)] S (f_X10_thing S) :=
  bd_con (by decide +kernel) (Nat.le_of_ble_eq_true rfl) ⟨rfl, rfl⟩ h0 (fun Γ _ _ hC => bs_eq bs_bs (b_X10_thing hC S))
set_option maxRecDepth 100000 in
set_option maxHeartbeats 4000000 in
theorem b_X10_isThing {Γ : bd_G} {ε : bd_E} {t0 : Option (Int32 × bd_T)} (hC : bd_C Γ cX10_isThing 2 RX10 (some .boolean) ({ frames := 0, cells := 0, slots := 0, locals := 0 } : Room) ε (cM ε) bd_vi t0) (x1 : Int32)  (S : bd_T) : bd_S Γ 2 t0 ((f_X10_isThing x1 S).bind some) (cM ε S) 0 [(0, .ref (bd_a ε 0)), (1, .int x1)] [] := by
  unfold f_X10_isThing
  refine bs_iload_n hC 1 dX10_isThing_0 rfl rfl ?_
  refine bs_if_lt hC 16 dX10_isThing_1 (by decide) (fun c2 => ?_) (fun c2 => ?_)
  · refine bs_iconst hC (0 : Int32) dX10_isThing_16 rfl ?_
    exact bs_zret hC dX10_isThing_17 rfl rfl
  refine bs_iload_n hC 1 dX10_isThing_4 rfl rfl ?_
  refine bs_aload_n hC 0 dX10_isThing_5 rfl rfl ?_
  refine bs_get hC (v := .int (bd_I S 2)) hin_X10 0 (cM_o0 ε S) rfl 7 (by decide) mw_567 rfl dX10_isThing_6 ?_
  refine bs_icmp_ge hC 16 dX10_isThing_9 (by decide) (fun c1 => ?_) (fun c1 => ?_)
  · refine bs_iconst hC (0 : Int32) dX10_isThing_16 rfl ?_
    exact bs_zret hC dX10_isThing_17 rfl rfl
  refine bs_iconst hC (1 : Int32) dX10_isThing_12 rfl ?_
  refine bs_goto hC 17 dX10_isThing_13 (by decide) ?_
  exact bs_zret hC dX10_isThing_17 rfl rfl
theorem c_X10_isThing (l : Launch) (D : va_G) (ε : bd_E) (x1 : Int32)  (S : bd_T) (h0 : (f_X10_isThing x1 S).isSome = true) : bd_Con l yX10_isThing (Cond.code yX10_isThing cX10_isThing 2 (some .boolean) :: bd_tbl) ({ frames := 0, cells := 0, slots := 0, locals := 0 } : Room) D ε (cM ε) bd_vi [.ref (bd_a ε 0), .int x1] S (f_X10_isThing x1 S) :=
  bd_con (by decide +kernel) (Nat.le_of_ble_eq_true rfl) ⟨rfl, rfl⟩ h0 (fun Γ _ _ hC => bs_eq bs_bs (b_X10_isThing hC x1 S))
set_option maxRecDepth 100000 in
set_option maxHeartbeats 4000000 in
theorem b_X10_thingOf {Γ : bd_G} {ε : bd_E} {t0 : Option (Int32 × bd_T)} (hC : bd_C Γ cX10_thingOf 3 RX10 (some .int) ({ frames := 1, cells := 0, slots := 0, locals := 21 } : Room) ε (cM ε) bd_vi t0) (x1 : Int32) (x2 : Int32)  (S : bd_T) : bd_S Γ 3 t0 ((f_X10_thingOf x1 x2 S).bind some) (cM ε S) 0 [(0, .ref (bd_a ε 0)), (1, .int x1), (2, .int x2)] [] := by
  unfold f_X10_thingOf
  refine bs_aload_n hC 0 dX10_thingOf_0 rfl rfl ?_
  refine bs_iload_n hC 1 dX10_thingOf_1 rfl rfl ?_
  refine bs_callV_i hC (rm := ({ frames := 0, cells := 0, slots := 0, locals := 0 } : Room)) [.int x1] [] (fun h => c_X10_isThing (bd_l Γ) (bd_D Γ) ε x1 S h) mw_670 mw_668 mw_669 mw_82 mw_52 (cM_o0 ε S) rfl by_X10_isThing ⟨rfl, rfl, by decide, by decide⟩ rfl rfl (Nat.le_of_ble_eq_true rfl) dX10_thingOf_2 (fun r1 S2 eS2 => ?_)
  refine bs_if_ne hC 14 dX10_thingOf_5 (by decide) (fun c13 => ?_) (fun c13 => ?_)
  · refine bs_aload_n hC 0 dX10_thingOf_8 rfl rfl ?_
    refine bs_iconst hC (-1 : Int32) dX10_thingOf_9 rfl ?_
    refine bs_callV_i hC (rm := ({ frames := 0, cells := 0, slots := 0, locals := 0 } : Room)) [.int (-1 : Int32)] [] (fun h => c_X10_no (bd_l Γ) (bd_D Γ) ε (-1 : Int32) S2 h) mw_646 mw_644 mw_645 mw_82 mw_48 (cM_o0 ε S2) rfl by_X10_no ⟨rfl, rfl, by decide, by decide⟩ rfl rfl (Nat.le_of_ble_eq_true rfl) dX10_thingOf_10 (fun r3 S4 eS4 => ?_)
    exact bs_iret hC dX10_thingOf_13 rfl
  refine bs_iload_n hC 2 dX10_thingOf_14 rfl rfl ?_
  refine bs_case (c := x2 = 0) (fun c5 => ?_) (fun c5 => ?_)
  · refine bs_tabIn hC (0 : Int32) (25) 40 dX10_thingOf_15 c5 (by decide) (by decide) rfl (by decide) ?_
    refine bs_aload_n hC 0 dX10_thingOf_40 rfl rfl ?_
    refine bs_get hC (v := .ref (bd_a ε (1 + 2))) hin_X10 0 (cM_o0 ε S2) rfl 2 (by decide) mw_562 rfl dX10_thingOf_41 ?_
    refine bs_iload_n hC 1 dX10_thingOf_44 rfl rfl ?_
    refine bs_iald hC _ (cM_gi ε S2 2 6 (by decide) rfl) dX10_thingOf_45 (fun z6 ez6 => ?_)
    exact bs_iret hC dX10_thingOf_46 rfl
  refine bs_case (c := x2 = 1) (fun c7 => ?_) (fun c7 => ?_)
  · refine bs_tabIn hC (1 : Int32) (32) 47 dX10_thingOf_15 c7 (by decide) (by decide) rfl (by decide) ?_
    refine bs_aload_n hC 0 dX10_thingOf_47 rfl rfl ?_
    refine bs_get hC (v := .ref (bd_a ε (1 + 3))) hin_X10 0 (cM_o0 ε S2) rfl 3 (by decide) mw_563 rfl dX10_thingOf_48 ?_
    refine bs_iload_n hC 1 dX10_thingOf_51 rfl rfl ?_
    refine bs_iald hC _ (cM_gi ε S2 3 6 (by decide) rfl) dX10_thingOf_52 (fun z8 ez8 => ?_)
    exact bs_iret hC dX10_thingOf_53 rfl
  refine bs_case (c := x2 = 2) (fun c9 => ?_) (fun c9 => ?_)
  · refine bs_tabIn hC (2 : Int32) (39) 54 dX10_thingOf_15 c9 (by decide) (by decide) rfl (by decide) ?_
    refine bs_aload_n hC 0 dX10_thingOf_54 rfl rfl ?_
    refine bs_get hC (v := .ref (bd_a ε (1 + 4))) hin_X10 0 (cM_o0 ε S2) rfl 4 (by decide) mw_564 rfl dX10_thingOf_55 ?_
    refine bs_iload_n hC 1 dX10_thingOf_58 rfl rfl ?_
    refine bs_iald hC _ (cM_gi ε S2 4 6 (by decide) rfl) dX10_thingOf_59 (fun z10 ez10 => ?_)
    exact bs_iret hC dX10_thingOf_60 rfl
  refine bs_tabOut hC 61 dX10_thingOf_15 (by have h0 := lv_neT (k := (0 : Int32)) (a := 0) c5 rfl; have h1 := lv_neT (k := (1 : Int32)) (a := 1) c7 rfl; have h2 := lv_neT (k := (2 : Int32)) (a := 2) c9 rfl; omega) (by decide) ?_
  refine bs_aload_n hC 0 dX10_thingOf_61 rfl rfl ?_
  refine bs_bipush hC (-2 : Int32) dX10_thingOf_62 rfl ?_
  refine bs_callV_i hC (rm := ({ frames := 0, cells := 0, slots := 0, locals := 0 } : Room)) [.int (-2 : Int32)] [] (fun h => c_X10_no (bd_l Γ) (bd_D Γ) ε (-2 : Int32) S2 h) mw_646 mw_644 mw_645 mw_82 mw_48 (cM_o0 ε S2) rfl by_X10_no ⟨rfl, rfl, by decide, by decide⟩ rfl rfl (Nat.le_of_ble_eq_true rfl) dX10_thingOf_64 (fun r11 S12 eS12 => ?_)
  exact bs_iret hC dX10_thingOf_67 rfl
theorem c_X10_thingOf (l : Launch) (D : va_G) (ε : bd_E) (x1 : Int32) (x2 : Int32)  (S : bd_T) (h0 : (f_X10_thingOf x1 x2 S).isSome = true) : bd_Con l yX10_thingOf (Cond.code yX10_thingOf cX10_thingOf 3 (some .int) :: bd_tbl) ({ frames := 1, cells := 0, slots := 0, locals := 21 } : Room) D ε (cM ε) bd_vi [.ref (bd_a ε 0), .int x1, .int x2] S (f_X10_thingOf x1 x2 S) :=
  bd_con (by decide +kernel) (Nat.le_of_ble_eq_true rfl) ⟨rfl, rfl⟩ h0 (fun Γ _ _ hC => bs_eq bs_bs (b_X10_thingOf hC x1 x2 S))
set_option maxRecDepth 100000 in
set_option maxHeartbeats 4000000 in
theorem b_X10_room {Γ : bd_G} {ε : bd_E} {t0 : Option (Int32 × bd_T)} (hC : bd_C Γ cX10_room 4 RX10 (some .int) ({ frames := 1, cells := 0, slots := 0, locals := 22 } : Room) ε (cM ε) bd_vi t0) (x1 : Int32)  (S : bd_T) : bd_S Γ 4 t0 ((f_X10_room x1 S).bind some) (cM ε S) 0 [(0, .ref (bd_a ε 0)), (1, .int x1)] [] := by
  unfold f_X10_room
  refine bs_iload_n hC 1 dX10_room_0 rfl rfl ?_
  refine bs_iconst hC (0 : Int32) dX10_room_1 rfl ?_
  refine bs_sipush hC (9999 : Int32) dX10_room_2 rfl ?_
  refine bs_callS_i hC (rm := ({ frames := 0, cells := 0, slots := 0, locals := 0 } : Room)) [.int x1, .int (0 : Int32), .int (9999 : Int32)] [] (fun h => c_X10_out (bd_l Γ) (bd_D Γ) ε x1 (0 : Int32) (9999 : Int32) S h) mw_643 mw_641 mw_642 mw_82 by_X10_out ⟨rfl, rfl, by decide, by decide⟩ rfl rfl (Nat.le_of_ble_eq_true rfl) dX10_room_5 (fun r1 S2 eS2 => ?_)
  refine bs_istore_n hC [(2, .int r1), (0, .ref (bd_a ε 0)), (1, .int x1)] dX10_room_8 rfl (by decide) rfl ?_
  refine bs_iload_n hC 0 dX10_room_9 rfl rfl ?_
  refine bs_if_eq hC 19 dX10_room_10 (by decide) (fun c8 => ?_) (fun c8 => ?_)
  · refine bs_aload_n hC 1 dX10_room_19 rfl rfl ?_
    refine bs_get hC (v := .int (bd_I S2 3)) hin_X10 0 (cM_o0 ε S2) rfl 10 (by decide) mw_570 rfl dX10_room_20 ?_
    refine bs_leti (fun z3 ez3 => ?_)
    refine bs_istore_n hC [(3, .int z3), (2, .int r1), (0, .ref (bd_a ε 0)), (1, .int x1)] dX10_room_23 rfl (by decide) rfl ?_
    refine bs_aload_n hC 2 dX10_room_24 rfl rfl ?_
    refine bs_iload_n hC 3 dX10_room_25 rfl rfl ?_
    refine bs_put hC (kk := 3) hin_X10 tyX10 tyX10_ok nmX10 0 (cM_o0 ε S2) rfl 10 (by decide) mw_570 rfl rfl rfl (Nat.le_of_ble_eq_true rfl) (cM_p3 ε S2 _) dX10_room_26 (fun S4 eS4 => ?_)
    refine bs_aload_n hC 2 dX10_room_29 rfl rfl ?_
    refine bs_iconst hC (1 : Int32) dX10_room_30 rfl ?_
    refine bs_put hC (kk := 7) hin_X10 tyX10 tyX10_ok nmX10 0 (cM_o0 ε S4) rfl 14 (by decide) mw_574 rfl rfl rfl (Nat.le_of_ble_eq_true rfl) (cM_p7 ε S4 _) dX10_room_31 (fun S5 eS5 => ?_)
    refine bs_iload_n hC 0 dX10_room_34 rfl rfl ?_
    exact bs_iret hC dX10_room_35 rfl
  refine bs_aload_n hC 1 dX10_room_13 rfl rfl ?_
  refine bs_iload_n hC 0 dX10_room_14 rfl rfl ?_
  refine bs_callV_i hC (rm := ({ frames := 0, cells := 0, slots := 0, locals := 0 } : Room)) [.int r1] [] (fun h => c_X10_no (bd_l Γ) (bd_D Γ) ε r1 S2 h) mw_646 mw_644 mw_645 mw_82 mw_48 (cM_o0 ε S2) rfl by_X10_no ⟨rfl, rfl, by decide, by decide⟩ rfl rfl (Nat.le_of_ble_eq_true rfl) dX10_room_15 (fun r6 S7 eS7 => ?_)
  exact bs_iret hC dX10_room_18 rfl
theorem c_X10_room (l : Launch) (D : va_G) (ε : bd_E) (x1 : Int32)  (S : bd_T) (h0 : (f_X10_room x1 S).isSome = true) : bd_Con l yX10_room (Cond.code yX10_room cX10_room 4 (some .int) :: bd_tbl) ({ frames := 1, cells := 0, slots := 0, locals := 22 } : Room) D ε (cM ε) bd_vi [.ref (bd_a ε 0), .int x1] S (f_X10_room x1 S) :=
  bd_con (by decide +kernel) (Nat.le_of_ble_eq_true rfl) ⟨rfl, rfl⟩ h0 (fun Γ _ _ hC => bs_eq bs_bs (b_X10_room hC x1 S))
set_option maxRecDepth 100000 in
set_option maxHeartbeats 4000000 in
theorem b_X10_window {Γ : bd_G} {ε : bd_E} {t0 : Option (Int32 × bd_T)} (hC : bd_C Γ cX10_window 4 RX10 (some .int) ({ frames := 1, cells := 0, slots := 0, locals := 21 } : Room) ε (cM ε) bd_vi t0) (x1 : Int32) (x2 : Int32)  (S : bd_T) : bd_S Γ 4 t0 ((f_X10_window x1 x2 S).bind some) (cM ε S) 0 [(0, .ref (bd_a ε 0)), (1, .int x1), (2, .int x2)] [] := by
  unfold f_X10_window
  refine bs_iload_n hC 1 dX10_window_0 rfl rfl ?_
  refine bs_iconst hC (-1 : Int32) dX10_window_1 rfl ?_
  refine bs_icmp_ne hC 9 dX10_window_2 (by decide) (fun c25 => ?_) (fun c25 => ?_)
  · refine bs_iconst hC (0 : Int32) dX10_window_5 rfl ?_
    refine bs_goto hC 43 dX10_window_6 (by decide) ?_
    refine bs_istore_n hC [(3, .int (0 : Int32)), (0, .ref (bd_a ε 0)), (1, .int x1), (2, .int x2)] dX10_window_43 rfl (by decide) rfl ?_
    refine bs_iload_n hC 0 dX10_window_44 rfl rfl ?_
    refine bs_if_eqT hC 54 dX10_window_45 (by decide) (by decide) ?_
    refine bs_aload_n hC 1 dX10_window_54 rfl rfl ?_
    refine bs_iload_n hC 2 dX10_window_55 rfl rfl ?_
    refine bs_put hC (kk := 4) hin_X10 tyX10 tyX10_ok nmX10 0 (cM_o0 ε S) rfl 11 (by decide) mw_571 rfl rfl rfl (Nat.le_of_ble_eq_true rfl) (cM_p4 ε S _) dX10_window_56 (fun S1 eS1 => ?_)
    refine bs_aload_n hC 1 dX10_window_59 rfl rfl ?_
    refine bs_iload_n hC 2 dX10_window_60 rfl rfl ?_
    refine bs_iconst hC (-1 : Int32) dX10_window_61 rfl ?_
    refine bs_icmp_ne hC 69 dX10_window_62 (by decide) (fun c6 => ?_) (fun c6 => ?_)
    · refine bs_iconst hC (-1 : Int32) dX10_window_65 rfl ?_
      refine bs_goto hC 70 dX10_window_66 (by decide) ?_
      refine bs_put hC (kk := 5) hin_X10 tyX10 tyX10_ok nmX10 0 (cM_o0 ε S1) rfl 12 (by decide) mw_572 rfl rfl rfl (Nat.le_of_ble_eq_true rfl) (cM_p5 ε S1 _) dX10_window_70 (fun S2 eS2 => ?_)
      refine bs_aload_n hC 1 dX10_window_73 rfl rfl ?_
      refine bs_iconst hC (1 : Int32) dX10_window_74 rfl ?_
      refine bs_put hC (kk := 7) hin_X10 tyX10 tyX10_ok nmX10 0 (cM_o0 ε S2) rfl 14 (by decide) mw_574 rfl rfl rfl (Nat.le_of_ble_eq_true rfl) (cM_p7 ε S2 _) dX10_window_75 (fun S3 eS3 => ?_)
      refine bs_iconst hC (1 : Int32) dX10_window_78 rfl ?_
      exact bs_iret hC dX10_window_79 rfl
    refine bs_iload_n hC 3 dX10_window_69 rfl rfl ?_
    refine bs_put hC (kk := 5) hin_X10 tyX10 tyX10_ok nmX10 0 (cM_o0 ε S1) rfl 12 (by decide) mw_572 rfl rfl rfl (Nat.le_of_ble_eq_true rfl) (cM_p5 ε S1 _) dX10_window_70 (fun S4 eS4 => ?_)
    refine bs_aload_n hC 1 dX10_window_73 rfl rfl ?_
    refine bs_iconst hC (1 : Int32) dX10_window_74 rfl ?_
    refine bs_put hC (kk := 7) hin_X10 tyX10 tyX10_ok nmX10 0 (cM_o0 ε S4) rfl 14 (by decide) mw_574 rfl rfl rfl (Nat.le_of_ble_eq_true rfl) (cM_p7 ε S4 _) dX10_window_75 (fun S5 eS5 => ?_)
    refine bs_iconst hC (1 : Int32) dX10_window_78 rfl ?_
    exact bs_iret hC dX10_window_79 rfl
  refine bs_iload_n hC 1 dX10_window_9 rfl rfl ?_
  refine bs_if_lt hC 18 dX10_window_10 (by decide) (fun c24 => ?_) (fun c24 => ?_)
  · refine bs_bipush hC (-4 : Int32) dX10_window_18 rfl ?_
    refine bs_goto hC 43 dX10_window_20 (by decide) ?_
    refine bs_istore_n hC [(3, .int (-4 : Int32)), (0, .ref (bd_a ε 0)), (1, .int x1), (2, .int x2)] dX10_window_43 rfl (by decide) rfl ?_
    refine bs_iload_n hC 0 dX10_window_44 rfl rfl ?_
    refine bs_if_eqF hC 54 dX10_window_45 (by decide) (by decide) ?_
    refine bs_aload_n hC 1 dX10_window_48 rfl rfl ?_
    refine bs_iload_n hC 0 dX10_window_49 rfl rfl ?_
    refine bs_callV_i hC (rm := ({ frames := 0, cells := 0, slots := 0, locals := 0 } : Room)) [.int (-4 : Int32)] [] (fun h => c_X10_no (bd_l Γ) (bd_D Γ) ε (-4 : Int32) S h) mw_646 mw_644 mw_645 mw_82 mw_48 (cM_o0 ε S) rfl by_X10_no ⟨rfl, rfl, by decide, by decide⟩ rfl rfl (Nat.le_of_ble_eq_true rfl) dX10_window_50 (fun r7 S8 eS8 => ?_)
    exact bs_iret hC dX10_window_53 rfl
  refine bs_iload_n hC 2 dX10_window_13 rfl rfl ?_
  refine bs_iload_n hC 1 dX10_window_14 rfl rfl ?_
  refine bs_icmp_ge hC 23 dX10_window_15 (by decide) (fun c23 => ?_) (fun c23 => ?_)
  · refine bs_iload_n hC 1 dX10_window_23 rfl rfl ?_
    refine bs_sipush hC (300 : Int32) dX10_window_24 rfl ?_
    refine bs_icmp_ge hC 37 dX10_window_27 (by decide) (fun c20 => ?_) (fun c20 => ?_)
    · refine bs_bipush hC (-6 : Int32) dX10_window_37 rfl ?_
      refine bs_goto hC 43 dX10_window_39 (by decide) ?_
      refine bs_istore_n hC [(3, .int (-6 : Int32)), (0, .ref (bd_a ε 0)), (1, .int x1), (2, .int x2)] dX10_window_43 rfl (by decide) rfl ?_
      refine bs_iload_n hC 0 dX10_window_44 rfl rfl ?_
      refine bs_if_eqF hC 54 dX10_window_45 (by decide) (by decide) ?_
      refine bs_aload_n hC 1 dX10_window_48 rfl rfl ?_
      refine bs_iload_n hC 0 dX10_window_49 rfl rfl ?_
      refine bs_callV_i hC (rm := ({ frames := 0, cells := 0, slots := 0, locals := 0 } : Room)) [.int (-6 : Int32)] [] (fun h => c_X10_no (bd_l Γ) (bd_D Γ) ε (-6 : Int32) S h) mw_646 mw_644 mw_645 mw_82 mw_48 (cM_o0 ε S) rfl by_X10_no ⟨rfl, rfl, by decide, by decide⟩ rfl rfl (Nat.le_of_ble_eq_true rfl) dX10_window_50 (fun r9 S10 eS10 => ?_)
      exact bs_iret hC dX10_window_53 rfl
    refine bs_iload_n hC 2 dX10_window_30 rfl rfl ?_
    refine bs_sipush hC (300 : Int32) dX10_window_31 rfl ?_
    refine bs_icmp_lt hC 42 dX10_window_34 (by decide) (fun c19 => ?_) (fun c19 => ?_)
    · refine bs_iconst hC (0 : Int32) dX10_window_42 rfl ?_
      refine bs_istore_n hC [(3, .int (0 : Int32)), (0, .ref (bd_a ε 0)), (1, .int x1), (2, .int x2)] dX10_window_43 rfl (by decide) rfl ?_
      refine bs_iload_n hC 0 dX10_window_44 rfl rfl ?_
      refine bs_if_eqT hC 54 dX10_window_45 (by decide) (by decide) ?_
      refine bs_aload_n hC 1 dX10_window_54 rfl rfl ?_
      refine bs_iload_n hC 2 dX10_window_55 rfl rfl ?_
      refine bs_put hC (kk := 4) hin_X10 tyX10 tyX10_ok nmX10 0 (cM_o0 ε S) rfl 11 (by decide) mw_571 rfl rfl rfl (Nat.le_of_ble_eq_true rfl) (cM_p4 ε S _) dX10_window_56 (fun S11 eS11 => ?_)
      refine bs_aload_n hC 1 dX10_window_59 rfl rfl ?_
      refine bs_iload_n hC 2 dX10_window_60 rfl rfl ?_
      refine bs_iconst hC (-1 : Int32) dX10_window_61 rfl ?_
      refine bs_icmp_ne hC 69 dX10_window_62 (by decide) (fun c16 => ?_) (fun c16 => ?_)
      · refine bs_iconst hC (-1 : Int32) dX10_window_65 rfl ?_
        refine bs_goto hC 70 dX10_window_66 (by decide) ?_
        refine bs_put hC (kk := 5) hin_X10 tyX10 tyX10_ok nmX10 0 (cM_o0 ε S11) rfl 12 (by decide) mw_572 rfl rfl rfl (Nat.le_of_ble_eq_true rfl) (cM_p5 ε S11 _) dX10_window_70 (fun S12 eS12 => ?_)
        refine bs_aload_n hC 1 dX10_window_73 rfl rfl ?_
        refine bs_iconst hC (1 : Int32) dX10_window_74 rfl ?_
        refine bs_put hC (kk := 7) hin_X10 tyX10 tyX10_ok nmX10 0 (cM_o0 ε S12) rfl 14 (by decide) mw_574 rfl rfl rfl (Nat.le_of_ble_eq_true rfl) (cM_p7 ε S12 _) dX10_window_75 (fun S13 eS13 => ?_)
        refine bs_iconst hC (1 : Int32) dX10_window_78 rfl ?_
        exact bs_iret hC dX10_window_79 rfl
      refine bs_iload_n hC 3 dX10_window_69 rfl rfl ?_
      refine bs_put hC (kk := 5) hin_X10 tyX10 tyX10_ok nmX10 0 (cM_o0 ε S11) rfl 12 (by decide) mw_572 rfl rfl rfl (Nat.le_of_ble_eq_true rfl) (cM_p5 ε S11 _) dX10_window_70 (fun S14 eS14 => ?_)
      refine bs_aload_n hC 1 dX10_window_73 rfl rfl ?_
      refine bs_iconst hC (1 : Int32) dX10_window_74 rfl ?_
      refine bs_put hC (kk := 7) hin_X10 tyX10 tyX10_ok nmX10 0 (cM_o0 ε S14) rfl 14 (by decide) mw_574 rfl rfl rfl (Nat.le_of_ble_eq_true rfl) (cM_p7 ε S14 _) dX10_window_75 (fun S15 eS15 => ?_)
      refine bs_iconst hC (1 : Int32) dX10_window_78 rfl ?_
      exact bs_iret hC dX10_window_79 rfl
    refine bs_bipush hC (-6 : Int32) dX10_window_37 rfl ?_
    refine bs_goto hC 43 dX10_window_39 (by decide) ?_
    refine bs_istore_n hC [(3, .int (-6 : Int32)), (0, .ref (bd_a ε 0)), (1, .int x1), (2, .int x2)] dX10_window_43 rfl (by decide) rfl ?_
    refine bs_iload_n hC 0 dX10_window_44 rfl rfl ?_
    refine bs_if_eqF hC 54 dX10_window_45 (by decide) (by decide) ?_
    refine bs_aload_n hC 1 dX10_window_48 rfl rfl ?_
    refine bs_iload_n hC 0 dX10_window_49 rfl rfl ?_
    refine bs_callV_i hC (rm := ({ frames := 0, cells := 0, slots := 0, locals := 0 } : Room)) [.int (-6 : Int32)] [] (fun h => c_X10_no (bd_l Γ) (bd_D Γ) ε (-6 : Int32) S h) mw_646 mw_644 mw_645 mw_82 mw_48 (cM_o0 ε S) rfl by_X10_no ⟨rfl, rfl, by decide, by decide⟩ rfl rfl (Nat.le_of_ble_eq_true rfl) dX10_window_50 (fun r17 S18 eS18 => ?_)
    exact bs_iret hC dX10_window_53 rfl
  refine bs_bipush hC (-4 : Int32) dX10_window_18 rfl ?_
  refine bs_goto hC 43 dX10_window_20 (by decide) ?_
  refine bs_istore_n hC [(3, .int (-4 : Int32)), (0, .ref (bd_a ε 0)), (1, .int x1), (2, .int x2)] dX10_window_43 rfl (by decide) rfl ?_
  refine bs_iload_n hC 0 dX10_window_44 rfl rfl ?_
  refine bs_if_eqF hC 54 dX10_window_45 (by decide) (by decide) ?_
  refine bs_aload_n hC 1 dX10_window_48 rfl rfl ?_
  refine bs_iload_n hC 0 dX10_window_49 rfl rfl ?_
  refine bs_callV_i hC (rm := ({ frames := 0, cells := 0, slots := 0, locals := 0 } : Room)) [.int (-4 : Int32)] [] (fun h => c_X10_no (bd_l Γ) (bd_D Γ) ε (-4 : Int32) S h) mw_646 mw_644 mw_645 mw_82 mw_48 (cM_o0 ε S) rfl by_X10_no ⟨rfl, rfl, by decide, by decide⟩ rfl rfl (Nat.le_of_ble_eq_true rfl) dX10_window_50 (fun r21 S22 eS22 => ?_)
  exact bs_iret hC dX10_window_53 rfl
theorem c_X10_window (l : Launch) (D : va_G) (ε : bd_E) (x1 : Int32) (x2 : Int32)  (S : bd_T) (h0 : (f_X10_window x1 x2 S).isSome = true) : bd_Con l yX10_window (Cond.code yX10_window cX10_window 4 (some .int) :: bd_tbl) ({ frames := 1, cells := 0, slots := 0, locals := 21 } : Room) D ε (cM ε) bd_vi [.ref (bd_a ε 0), .int x1, .int x2] S (f_X10_window x1 x2 S) :=
  bd_con (by decide +kernel) (Nat.le_of_ble_eq_true rfl) ⟨rfl, rfl⟩ h0 (fun Γ _ _ hC => bs_eq bs_bs (b_X10_window hC x1 x2 S))
set_option maxRecDepth 100000 in
set_option maxHeartbeats 4000000 in
theorem b_X10_candidate {Γ : bd_G} {ε : bd_E} {t0 : Option (Int32 × bd_T)} (hC : bd_C Γ cX10_candidate 4 RX10 (some .int) ({ frames := 1, cells := 0, slots := 0, locals := 21 } : Room) ε (cM ε) bd_vi t0) (x1 : Int32) (x2 : Int32)  (S : bd_T) : bd_S Γ 4 t0 ((f_X10_candidate x1 x2 S).bind some) (cM ε S) 0 [(0, .ref (bd_a ε 0)), (1, .int x1), (2, .int x2)] [] := by
  unfold f_X10_candidate
  refine bs_iload_n hC 1 dX10_candidate_0 rfl rfl ?_
  refine bs_if_lt hC 9 dX10_candidate_1 (by decide) (fun c18 => ?_) (fun c18 => ?_)
  · refine bs_bipush hC (-4 : Int32) dX10_candidate_9 rfl ?_
    refine bs_goto hC 42 dX10_candidate_11 (by decide) ?_
    refine bs_istore_n hC [(3, .int (-4 : Int32)), (0, .ref (bd_a ε 0)), (1, .int x1), (2, .int x2)] dX10_candidate_42 rfl (by decide) rfl ?_
    refine bs_iload_n hC 0 dX10_candidate_43 rfl rfl ?_
    refine bs_if_eqF hC 53 dX10_candidate_44 (by decide) (by decide) ?_
    refine bs_aload_n hC 1 dX10_candidate_47 rfl rfl ?_
    refine bs_iload_n hC 0 dX10_candidate_48 rfl rfl ?_
    refine bs_callV_i hC (rm := ({ frames := 0, cells := 0, slots := 0, locals := 0 } : Room)) [.int (-4 : Int32)] [] (fun h => c_X10_no (bd_l Γ) (bd_D Γ) ε (-4 : Int32) S h) mw_646 mw_644 mw_645 mw_82 mw_48 (cM_o0 ε S) rfl by_X10_no ⟨rfl, rfl, by decide, by decide⟩ rfl rfl (Nat.le_of_ble_eq_true rfl) dX10_candidate_49 (fun r1 S2 eS2 => ?_)
    exact bs_iret hC dX10_candidate_52 rfl
  refine bs_iload_n hC 2 dX10_candidate_4 rfl rfl ?_
  refine bs_iload_n hC 1 dX10_candidate_5 rfl rfl ?_
  refine bs_icmp_ge hC 14 dX10_candidate_6 (by decide) (fun c17 => ?_) (fun c17 => ?_)
  · refine bs_iload_n hC 1 dX10_candidate_14 rfl rfl ?_
    refine bs_sipush hC (300 : Int32) dX10_candidate_15 rfl ?_
    refine bs_icmp_ge hC 36 dX10_candidate_18 (by decide) (fun c14 => ?_) (fun c14 => ?_)
    · refine bs_bipush hC (-6 : Int32) dX10_candidate_36 rfl ?_
      refine bs_goto hC 42 dX10_candidate_38 (by decide) ?_
      refine bs_istore_n hC [(3, .int (-6 : Int32)), (0, .ref (bd_a ε 0)), (1, .int x1), (2, .int x2)] dX10_candidate_42 rfl (by decide) rfl ?_
      refine bs_iload_n hC 0 dX10_candidate_43 rfl rfl ?_
      refine bs_if_eqF hC 53 dX10_candidate_44 (by decide) (by decide) ?_
      refine bs_aload_n hC 1 dX10_candidate_47 rfl rfl ?_
      refine bs_iload_n hC 0 dX10_candidate_48 rfl rfl ?_
      refine bs_callV_i hC (rm := ({ frames := 0, cells := 0, slots := 0, locals := 0 } : Room)) [.int (-6 : Int32)] [] (fun h => c_X10_no (bd_l Γ) (bd_D Γ) ε (-6 : Int32) S h) mw_646 mw_644 mw_645 mw_82 mw_48 (cM_o0 ε S) rfl by_X10_no ⟨rfl, rfl, by decide, by decide⟩ rfl rfl (Nat.le_of_ble_eq_true rfl) dX10_candidate_49 (fun r3 S4 eS4 => ?_)
      exact bs_iret hC dX10_candidate_52 rfl
    refine bs_iload_n hC 2 dX10_candidate_21 rfl rfl ?_
    refine bs_sipush hC (300 : Int32) dX10_candidate_22 rfl ?_
    refine bs_icmp_ge hC 36 dX10_candidate_25 (by decide) (fun c13 => ?_) (fun c13 => ?_)
    · refine bs_bipush hC (-6 : Int32) dX10_candidate_36 rfl ?_
      refine bs_goto hC 42 dX10_candidate_38 (by decide) ?_
      refine bs_istore_n hC [(3, .int (-6 : Int32)), (0, .ref (bd_a ε 0)), (1, .int x1), (2, .int x2)] dX10_candidate_42 rfl (by decide) rfl ?_
      refine bs_iload_n hC 0 dX10_candidate_43 rfl rfl ?_
      refine bs_if_eqF hC 53 dX10_candidate_44 (by decide) (by decide) ?_
      refine bs_aload_n hC 1 dX10_candidate_47 rfl rfl ?_
      refine bs_iload_n hC 0 dX10_candidate_48 rfl rfl ?_
      refine bs_callV_i hC (rm := ({ frames := 0, cells := 0, slots := 0, locals := 0 } : Room)) [.int (-6 : Int32)] [] (fun h => c_X10_no (bd_l Γ) (bd_D Γ) ε (-6 : Int32) S h) mw_646 mw_644 mw_645 mw_82 mw_48 (cM_o0 ε S) rfl by_X10_no ⟨rfl, rfl, by decide, by decide⟩ rfl rfl (Nat.le_of_ble_eq_true rfl) dX10_candidate_49 (fun r5 S6 eS6 => ?_)
      exact bs_iret hC dX10_candidate_52 rfl
    refine bs_aload_n hC 0 dX10_candidate_28 rfl rfl ?_
    refine bs_get hC (v := .int (bd_I S 6)) hin_X10 0 (cM_o0 ε S) rfl 13 (by decide) mw_573 rfl dX10_candidate_29 ?_
    refine bs_iconst hC (4 : Int32) dX10_candidate_32 rfl ?_
    refine bs_icmp_ne hC 41 dX10_candidate_33 (by decide) (fun c12 => ?_) (fun c12 => ?_)
    · refine bs_bipush hC (-6 : Int32) dX10_candidate_36 rfl ?_
      refine bs_goto hC 42 dX10_candidate_38 (by decide) ?_
      refine bs_istore_n hC [(3, .int (-6 : Int32)), (0, .ref (bd_a ε 0)), (1, .int x1), (2, .int x2)] dX10_candidate_42 rfl (by decide) rfl ?_
      refine bs_iload_n hC 0 dX10_candidate_43 rfl rfl ?_
      refine bs_if_eqF hC 53 dX10_candidate_44 (by decide) (by decide) ?_
      refine bs_aload_n hC 1 dX10_candidate_47 rfl rfl ?_
      refine bs_iload_n hC 0 dX10_candidate_48 rfl rfl ?_
      refine bs_callV_i hC (rm := ({ frames := 0, cells := 0, slots := 0, locals := 0 } : Room)) [.int (-6 : Int32)] [] (fun h => c_X10_no (bd_l Γ) (bd_D Γ) ε (-6 : Int32) S h) mw_646 mw_644 mw_645 mw_82 mw_48 (cM_o0 ε S) rfl by_X10_no ⟨rfl, rfl, by decide, by decide⟩ rfl rfl (Nat.le_of_ble_eq_true rfl) dX10_candidate_49 (fun r7 S8 eS8 => ?_)
      exact bs_iret hC dX10_candidate_52 rfl
    refine bs_iconst hC (0 : Int32) dX10_candidate_41 rfl ?_
    refine bs_istore_n hC [(3, .int (0 : Int32)), (0, .ref (bd_a ε 0)), (1, .int x1), (2, .int x2)] dX10_candidate_42 rfl (by decide) rfl ?_
    refine bs_iload_n hC 0 dX10_candidate_43 rfl rfl ?_
    refine bs_if_eqT hC 53 dX10_candidate_44 (by decide) (by decide) ?_
    refine bs_aload_n hC 1 dX10_candidate_53 rfl rfl ?_
    refine bs_get hC (v := .ref (bd_a ε (1 + 5))) hin_X10 0 (cM_o0 ε S) rfl 8 (by decide) mw_568 rfl dX10_candidate_54 ?_
    refine bs_aload_n hC 1 dX10_candidate_57 rfl rfl ?_
    refine bs_get hC (v := .int (bd_I S 6)) hin_X10 0 (cM_o0 ε S) rfl 13 (by decide) mw_573 rfl dX10_candidate_58 ?_
    refine bs_iload_n hC 2 dX10_candidate_61 rfl rfl ?_
    refine bs_iast hC _ (cM_gi ε S 5 4 (by decide) rfl) (cM_si ε S 5 4 (by decide) rfl _) dX10_candidate_62 (fun S9 eS9 => ?_)
    refine bs_aload_n hC 1 dX10_candidate_63 rfl rfl ?_
    refine bs_get hC (v := .ref (bd_a ε (1 + 6))) hin_X10 0 (cM_o0 ε S9) rfl 9 (by decide) mw_569 rfl dX10_candidate_64 ?_
    refine bs_aload_n hC 1 dX10_candidate_67 rfl rfl ?_
    refine bs_get hC (v := .int (bd_I S9 6)) hin_X10 0 (cM_o0 ε S9) rfl 13 (by decide) mw_573 rfl dX10_candidate_68 ?_
    refine bs_iload_n hC 3 dX10_candidate_71 rfl rfl ?_
    refine bs_iast hC _ (cM_gi ε S9 6 4 (by decide) rfl) (cM_si ε S9 6 4 (by decide) rfl _) dX10_candidate_72 (fun S10 eS10 => ?_)
    refine bs_aload_n hC 1 dX10_candidate_73 rfl rfl ?_
    refine bs_dup hC dX10_candidate_74 rfl ?_
    refine bs_get hC (v := .int (bd_I S10 6)) hin_X10 0 (cM_o0 ε S10) rfl 13 (by decide) mw_573 rfl dX10_candidate_75 ?_
    refine bs_iconst hC (1 : Int32) dX10_candidate_78 rfl ?_
    refine bs_iadd hC dX10_candidate_79 ?_
    refine bs_put hC (kk := 6) hin_X10 tyX10 tyX10_ok nmX10 0 (cM_o0 ε S10) rfl 13 (by decide) mw_573 rfl rfl rfl (Nat.le_of_ble_eq_true rfl) (cM_p6 ε S10 _) dX10_candidate_80 (fun S11 eS11 => ?_)
    refine bs_aload_n hC 1 dX10_candidate_83 rfl rfl ?_
    refine bs_get hC (v := .int (bd_I S11 6)) hin_X10 0 (cM_o0 ε S11) rfl 13 (by decide) mw_573 rfl dX10_candidate_84 ?_
    exact bs_iret hC dX10_candidate_87 rfl
  refine bs_bipush hC (-4 : Int32) dX10_candidate_9 rfl ?_
  refine bs_goto hC 42 dX10_candidate_11 (by decide) ?_
  refine bs_istore_n hC [(3, .int (-4 : Int32)), (0, .ref (bd_a ε 0)), (1, .int x1), (2, .int x2)] dX10_candidate_42 rfl (by decide) rfl ?_
  refine bs_iload_n hC 0 dX10_candidate_43 rfl rfl ?_
  refine bs_if_eqF hC 53 dX10_candidate_44 (by decide) (by decide) ?_
  refine bs_aload_n hC 1 dX10_candidate_47 rfl rfl ?_
  refine bs_iload_n hC 0 dX10_candidate_48 rfl rfl ?_
  refine bs_callV_i hC (rm := ({ frames := 0, cells := 0, slots := 0, locals := 0 } : Room)) [.int (-4 : Int32)] [] (fun h => c_X10_no (bd_l Γ) (bd_D Γ) ε (-4 : Int32) S h) mw_646 mw_644 mw_645 mw_82 mw_48 (cM_o0 ε S) rfl by_X10_no ⟨rfl, rfl, by decide, by decide⟩ rfl rfl (Nat.le_of_ble_eq_true rfl) dX10_candidate_49 (fun r15 S16 eS16 => ?_)
  exact bs_iret hC dX10_candidate_52 rfl
theorem c_X10_candidate (l : Launch) (D : va_G) (ε : bd_E) (x1 : Int32) (x2 : Int32)  (S : bd_T) (h0 : (f_X10_candidate x1 x2 S).isSome = true) : bd_Con l yX10_candidate (Cond.code yX10_candidate cX10_candidate 4 (some .int) :: bd_tbl) ({ frames := 1, cells := 0, slots := 0, locals := 21 } : Room) D ε (cM ε) bd_vi [.ref (bd_a ε 0), .int x1, .int x2] S (f_X10_candidate x1 x2 S) :=
  bd_con (by decide +kernel) (Nat.le_of_ble_eq_true rfl) ⟨rfl, rfl⟩ h0 (fun Γ _ _ hC => bs_eq bs_bs (b_X10_candidate hC x1 x2 S))
set_option maxRecDepth 100000 in
set_option maxHeartbeats 4000000 in
theorem b_X10_why {Γ : bd_G} {ε : bd_E} {t0 : Option (Int32 × bd_T)} (hC : bd_C Γ cX10_why 2 RX10 (some .int) ({ frames := 0, cells := 0, slots := 0, locals := 0 } : Room) ε (cM ε) bd_vi t0) (x0 : Int32) (x1 : Int32)  (S : bd_T) : bd_S Γ 2 t0 ((f_X10_why x0 x1 S).bind some) (cM ε S) 0 [(0, .int x0), (1, .int x1)] [] := by
  unfold f_X10_why
  refine bs_iload_n hC 0 dX10_why_0 rfl rfl ?_
  refine bs_if_lt hC 8 dX10_why_1 (by decide) (fun c4 => ?_) (fun c4 => ?_)
  · refine bs_bipush hC (-4 : Int32) dX10_why_8 rfl ?_
    refine bs_goto hC 33 dX10_why_10 (by decide) ?_
    exact bs_iret hC dX10_why_33 rfl
  refine bs_iload_n hC 1 dX10_why_4 rfl rfl ?_
  refine bs_if_ge hC 13 dX10_why_5 (by decide) (fun c3 => ?_) (fun c3 => ?_)
  · refine bs_iload_n hC 0 dX10_why_13 rfl rfl ?_
    refine bs_sipush hC (300 : Int32) dX10_why_14 rfl ?_
    refine bs_icmp_ge hC 27 dX10_why_17 (by decide) (fun c2 => ?_) (fun c2 => ?_)
    · refine bs_bipush hC (-6 : Int32) dX10_why_27 rfl ?_
      refine bs_goto hC 33 dX10_why_29 (by decide) ?_
      exact bs_iret hC dX10_why_33 rfl
    refine bs_iload_n hC 1 dX10_why_20 rfl rfl ?_
    refine bs_sipush hC (300 : Int32) dX10_why_21 rfl ?_
    refine bs_icmp_lt hC 32 dX10_why_24 (by decide) (fun c1 => ?_) (fun c1 => ?_)
    · refine bs_iconst hC (0 : Int32) dX10_why_32 rfl ?_
      exact bs_iret hC dX10_why_33 rfl
    refine bs_bipush hC (-6 : Int32) dX10_why_27 rfl ?_
    refine bs_goto hC 33 dX10_why_29 (by decide) ?_
    exact bs_iret hC dX10_why_33 rfl
  refine bs_bipush hC (-4 : Int32) dX10_why_8 rfl ?_
  refine bs_goto hC 33 dX10_why_10 (by decide) ?_
  exact bs_iret hC dX10_why_33 rfl
theorem c_X10_why (l : Launch) (D : va_G) (ε : bd_E) (x0 : Int32) (x1 : Int32)  (S : bd_T) (h0 : (f_X10_why x0 x1 S).isSome = true) : bd_Con l yX10_why (Cond.code yX10_why cX10_why 2 (some .int) :: bd_tbl) ({ frames := 0, cells := 0, slots := 0, locals := 0 } : Room) D ε (cM ε) bd_vi [.int x0, .int x1] S (f_X10_why x0 x1 S) :=
  bd_con (by decide +kernel) (Nat.le_of_ble_eq_true rfl) ⟨rfl, rfl⟩ h0 (fun Γ _ _ hC => bs_eq bs_bs (b_X10_why hC x0 x1 S))
set_option maxRecDepth 100000 in
set_option maxHeartbeats 4000000 in
theorem b_X10_nearer {Γ : bd_G} {ε : bd_E} {t0 : Option (Int32 × bd_T)} (hC : bd_C Γ cX10_nearer 5 RX10 (some .int) ({ frames := 0, cells := 0, slots := 0, locals := 0 } : Room) ε (cM ε) bd_vi t0) (x1 : Int32) (x2 : Int32)  (S : bd_T) : bd_S Γ 5 t0 ((f_X10_nearer x1 x2 S).bind some) (cM ε S) 0 [(0, .ref (bd_a ε 0)), (1, .int x1), (2, .int x2)] [] := by
  unfold f_X10_nearer
  refine bs_iload_n hC 1 dX10_nearer_0 rfl rfl ?_
  refine bs_aload_n hC 0 dX10_nearer_1 rfl rfl ?_
  refine bs_get hC (v := .int (bd_I S 3)) hin_X10 0 (cM_o0 ε S) rfl 10 (by decide) mw_570 rfl dX10_nearer_2 ?_
  refine bs_icmp_ge hC 17 dX10_nearer_5 (by decide) (fun c7 => ?_) (fun c7 => ?_)
  · refine bs_iload_n hC 1 dX10_nearer_17 rfl rfl ?_
    refine bs_aload_n hC 0 dX10_nearer_18 rfl rfl ?_
    refine bs_get hC (v := .int (bd_I S 3)) hin_X10 0 (cM_o0 ε S) rfl 10 (by decide) mw_570 rfl dX10_nearer_19 ?_
    refine bs_isub hC dX10_nearer_22 ?_
    refine bs_leti (fun z1 ez1 => ?_)
    refine bs_istore_n hC [(3, .int z1), (0, .ref (bd_a ε 0)), (1, .int x1), (2, .int x2)] dX10_nearer_23 rfl (by decide) rfl ?_
    refine bs_iload_n hC 0 dX10_nearer_24 rfl rfl ?_
    refine bs_iload_n hC 3 dX10_nearer_25 rfl rfl ?_
    refine bs_imul hC dX10_nearer_26 ?_
    refine bs_bipush hC (100 : Int32) dX10_nearer_27 rfl ?_
    refine bs_idivc hC dX10_nearer_29 (by decide) ?_
    refine bs_leti (fun z2 ez2 => ?_)
    refine bs_istore hC [(4, .int z2), (3, .int z1), (0, .ref (bd_a ε 0)), (1, .int x1), (2, .int x2)] dX10_nearer_30 (by decide) rfl ?_
    refine bs_iload_n hC 3 dX10_nearer_32 rfl rfl ?_
    refine bs_aload_n hC 2 dX10_nearer_33 rfl rfl ?_
    refine bs_get hC (v := .int (bd_I S 3)) hin_X10 0 (cM_o0 ε S) rfl 10 (by decide) mw_570 rfl dX10_nearer_34 ?_
    refine bs_icmp_ge hC 47 dX10_nearer_37 (by decide) (fun c3 => ?_) (fun c3 => ?_)
    · refine bs_iload_n hC 3 dX10_nearer_47 rfl rfl ?_
      refine bs_iload hC 0 dX10_nearer_48 rfl ?_
      refine bs_isub hC dX10_nearer_50 ?_
      exact bs_iret hC dX10_nearer_51 rfl
    refine bs_iload_n hC 3 dX10_nearer_40 rfl rfl ?_
    refine bs_iload hC 0 dX10_nearer_41 rfl ?_
    refine bs_iadd hC dX10_nearer_43 ?_
    refine bs_goto hC 51 dX10_nearer_44 (by decide) ?_
    exact bs_iret hC dX10_nearer_51 rfl
  refine bs_aload_n hC 0 dX10_nearer_8 rfl rfl ?_
  refine bs_get hC (v := .int (bd_I S 3)) hin_X10 0 (cM_o0 ε S) rfl 10 (by decide) mw_570 rfl dX10_nearer_9 ?_
  refine bs_iload_n hC 1 dX10_nearer_12 rfl rfl ?_
  refine bs_isub hC dX10_nearer_13 ?_
  refine bs_goto hC 23 dX10_nearer_14 (by decide) ?_
  refine bs_leti (fun z4 ez4 => ?_)
  refine bs_istore_n hC [(3, .int z4), (0, .ref (bd_a ε 0)), (1, .int x1), (2, .int x2)] dX10_nearer_23 rfl (by decide) rfl ?_
  refine bs_iload_n hC 0 dX10_nearer_24 rfl rfl ?_
  refine bs_iload_n hC 3 dX10_nearer_25 rfl rfl ?_
  refine bs_imul hC dX10_nearer_26 ?_
  refine bs_bipush hC (100 : Int32) dX10_nearer_27 rfl ?_
  refine bs_idivc hC dX10_nearer_29 (by decide) ?_
  refine bs_leti (fun z5 ez5 => ?_)
  refine bs_istore hC [(4, .int z5), (3, .int z4), (0, .ref (bd_a ε 0)), (1, .int x1), (2, .int x2)] dX10_nearer_30 (by decide) rfl ?_
  refine bs_iload_n hC 3 dX10_nearer_32 rfl rfl ?_
  refine bs_aload_n hC 2 dX10_nearer_33 rfl rfl ?_
  refine bs_get hC (v := .int (bd_I S 3)) hin_X10 0 (cM_o0 ε S) rfl 10 (by decide) mw_570 rfl dX10_nearer_34 ?_
  refine bs_icmp_ge hC 47 dX10_nearer_37 (by decide) (fun c6 => ?_) (fun c6 => ?_)
  · refine bs_iload_n hC 3 dX10_nearer_47 rfl rfl ?_
    refine bs_iload hC 0 dX10_nearer_48 rfl ?_
    refine bs_isub hC dX10_nearer_50 ?_
    exact bs_iret hC dX10_nearer_51 rfl
  refine bs_iload_n hC 3 dX10_nearer_40 rfl rfl ?_
  refine bs_iload hC 0 dX10_nearer_41 rfl ?_
  refine bs_iadd hC dX10_nearer_43 ?_
  refine bs_goto hC 51 dX10_nearer_44 (by decide) ?_
  exact bs_iret hC dX10_nearer_51 rfl
theorem c_X10_nearer (l : Launch) (D : va_G) (ε : bd_E) (x1 : Int32) (x2 : Int32)  (S : bd_T) (h0 : (f_X10_nearer x1 x2 S).isSome = true) : bd_Con l yX10_nearer (Cond.code yX10_nearer cX10_nearer 5 (some .int) :: bd_tbl) ({ frames := 0, cells := 0, slots := 0, locals := 0 } : Room) D ε (cM ε) bd_vi [.ref (bd_a ε 0), .int x1, .int x2] S (f_X10_nearer x1 x2 S) :=
  bd_con (by decide +kernel) (Nat.le_of_ble_eq_true rfl) ⟨rfl, rfl⟩ h0 (fun Γ _ _ hC => bs_eq bs_bs (b_X10_nearer hC x1 x2 S))
set_option maxRecDepth 100000 in
set_option maxHeartbeats 4000000 in
theorem b_X10_isOpen {Γ : bd_G} {ε : bd_E} {t0 : Option (Int32 × bd_T)} (hC : bd_C Γ cX10_isOpen 2 RX10 (some .boolean) ({ frames := 0, cells := 0, slots := 0, locals := 0 } : Room) ε (cM ε) bd_vi t0) (x1 : Int32)  (S : bd_T) : bd_S Γ 2 t0 ((f_X10_isOpen x1 S).bind some) (cM ε S) 0 [(0, .ref (bd_a ε 0)), (1, .int x1)] [] := by
  unfold f_X10_isOpen
  refine bs_aload_n hC 0 dX10_isOpen_0 rfl rfl ?_
  refine bs_get hC (v := .int (bd_I S 4)) hin_X10 0 (cM_o0 ε S) rfl 11 (by decide) mw_571 rfl dX10_isOpen_1 ?_
  refine bs_if_lt hC 27 dX10_isOpen_4 (by decide) (fun c3 => ?_) (fun c3 => ?_)
  · refine bs_iconst hC (0 : Int32) dX10_isOpen_27 rfl ?_
    exact bs_zret hC dX10_isOpen_28 rfl rfl
  refine bs_iload_n hC 1 dX10_isOpen_7 rfl rfl ?_
  refine bs_aload_n hC 0 dX10_isOpen_8 rfl rfl ?_
  refine bs_get hC (v := .int (bd_I S 4)) hin_X10 0 (cM_o0 ε S) rfl 11 (by decide) mw_571 rfl dX10_isOpen_9 ?_
  refine bs_icmp_lt hC 27 dX10_isOpen_12 (by decide) (fun c2 => ?_) (fun c2 => ?_)
  · refine bs_iconst hC (0 : Int32) dX10_isOpen_27 rfl ?_
    exact bs_zret hC dX10_isOpen_28 rfl rfl
  refine bs_iload_n hC 1 dX10_isOpen_15 rfl rfl ?_
  refine bs_aload_n hC 0 dX10_isOpen_16 rfl rfl ?_
  refine bs_get hC (v := .int (bd_I S 5)) hin_X10 0 (cM_o0 ε S) rfl 12 (by decide) mw_572 rfl dX10_isOpen_17 ?_
  refine bs_icmp_gt hC 27 dX10_isOpen_20 (by decide) (fun c1 => ?_) (fun c1 => ?_)
  · refine bs_iconst hC (0 : Int32) dX10_isOpen_27 rfl ?_
    exact bs_zret hC dX10_isOpen_28 rfl rfl
  refine bs_iconst hC (1 : Int32) dX10_isOpen_23 rfl ?_
  refine bs_goto hC 28 dX10_isOpen_24 (by decide) ?_
  exact bs_zret hC dX10_isOpen_28 rfl rfl
theorem c_X10_isOpen (l : Launch) (D : va_G) (ε : bd_E) (x1 : Int32)  (S : bd_T) (h0 : (f_X10_isOpen x1 S).isSome = true) : bd_Con l yX10_isOpen (Cond.code yX10_isOpen cX10_isOpen 2 (some .boolean) :: bd_tbl) ({ frames := 0, cells := 0, slots := 0, locals := 0 } : Room) D ε (cM ε) bd_vi [.ref (bd_a ε 0), .int x1] S (f_X10_isOpen x1 S) :=
  bd_con (by decide +kernel) (Nat.le_of_ble_eq_true rfl) ⟨rfl, rfl⟩ h0 (fun Γ _ _ hC => bs_eq bs_bs (b_X10_isOpen hC x1 S))
set_option maxRecDepth 100000 in
set_option maxHeartbeats 4000000 in
theorem lb_X10_leftOf_133 {Γ : bd_G} {ε : bd_E} {t0 : Option (Int32 × bd_T)} (hC : bd_C Γ cX10_leftOf 6 RX10 (some .int) ({ frames := 1, cells := 0, slots := 0, locals := 24 } : Room) ε (cM ε) bd_vi t0) (p1 : Int32) (p2 : Int32) (p3 : Int32) {K : (Int32 × Int32 × bd_T) ⊕ (Int32 × bd_T) → Option (Int32 × bd_T)} (hk : ∀ (x4 : Int32) (x5 : Int32) (S : bd_T), bd_S Γ 6 t0 (K (.inl (x4, x5, S))) (cM ε S) 133 [(0, .ref (bd_a ε 0)), (1, .int p1), (2, .int p2), (3, .int p3), (4, .int x4), (5, .int x5)] []) (hx : ∀ (y4 : Int32) (S : bd_T), bd_S Γ 6 t0 (K (.inr (y4, S))) (cM ε S) 161 [(4, .int y4)] []) (x4 : Int32) (x5 : Int32) (S : bd_T) : bd_S Γ 6 t0 ((fb_X10_leftOf_133 p1 p2 p3 x4 x5 S).bind K) (cM ε S) 133 [(0, .ref (bd_a ε 0)), (1, .int p1), (2, .int p2), (3, .int p3), (4, .int x4), (5, .int x5)] [] := by
  unfold fb_X10_leftOf_133
  refine bs_iload hC 5 dX10_leftOf_133 rfl ?_
  refine bs_iload_n hC 2 dX10_leftOf_135 rfl rfl ?_
  refine bs_iload_n hC 3 dX10_leftOf_136 rfl rfl ?_
  refine bs_iadd hC dX10_leftOf_137 ?_
  refine bs_icmp_ge hC 161 dX10_leftOf_138 (by decide) (fun c11 => ?_) (fun c11 => ?_)
  · refine bs_some ?_
    refine bs_pick [4] rfl ?_
    exact hx x4 S
  refine bs_aload_n hC 0 dX10_leftOf_141 rfl rfl ?_
  refine bs_iload hC 4 dX10_leftOf_142 rfl ?_
  refine bs_aload_n hC 0 dX10_leftOf_144 rfl rfl ?_
  refine bs_get hC (v := .ref (bd_a ε (1 + 4))) hin_X10 0 (cM_o0 ε S) rfl 4 (by decide) mw_564 rfl dX10_leftOf_145 ?_
  refine bs_iload_n hC 1 dX10_leftOf_148 rfl rfl ?_
  refine bs_iald hC _ (cM_gi ε S 4 6 (by decide) rfl) dX10_leftOf_149 (fun z8 ez8 => ?_)
  refine bs_callV_i hC (rm := ({ frames := 0, cells := 0, slots := 0, locals := 0 } : Room)) [.int x4, .int z8] [] (fun h => c_X10_nearer (bd_l Γ) (bd_D Γ) ε x4 z8 S h) mw_698 mw_696 mw_697 mw_82 mw_55 (cM_o0 ε S) rfl by_X10_nearer ⟨rfl, rfl, by decide, by decide⟩ rfl rfl (Nat.le_of_ble_eq_true rfl) dX10_leftOf_150 (fun r9 S10 eS10 => ?_)
  refine bs_istore hC [(4, .int r9), (0, .ref (bd_a ε 0)), (1, .int p1), (2, .int p2), (3, .int p3), (5, .int x5)] dX10_leftOf_153 (by decide) rfl ?_
  refine bs_iinc hC 5 [(5, .int (x5 + 1)), (4, .int r9), (0, .ref (bd_a ε 0)), (1, .int p1), (2, .int p2), (3, .int p3)] dX10_leftOf_155 rfl rfl (by decide) rfl ?_
  refine bs_goto hC 133 dX10_leftOf_158 (by decide) ?_
  refine bs_some ?_
  refine bs_pick [2, 3, 4, 5, 1, 0] rfl ?_
  exact hk r9 (x5 + 1) S10
set_option maxRecDepth 100000 in
set_option maxHeartbeats 4000000 in
theorem lb_X10_leftOf_89 {Γ : bd_G} {ε : bd_E} {t0 : Option (Int32 × bd_T)} (hC : bd_C Γ cX10_leftOf 6 RX10 (some .int) ({ frames := 1, cells := 0, slots := 0, locals := 24 } : Room) ε (cM ε) bd_vi t0) (p1 : Int32) (p2 : Int32) (p3 : Int32) {K : (Int32 × Int32 × bd_T) ⊕ (Int32 × bd_T) → Option (Int32 × bd_T)} (hk : ∀ (x4 : Int32) (x5 : Int32) (S : bd_T), bd_S Γ 6 t0 (K (.inl (x4, x5, S))) (cM ε S) 89 [(0, .ref (bd_a ε 0)), (1, .int p1), (2, .int p2), (3, .int p3), (4, .int x4), (5, .int x5)] []) (hx : ∀ (y4 : Int32) (S : bd_T), bd_S Γ 6 t0 (K (.inr (y4, S))) (cM ε S) 127 [(4, .int y4)] []) (x4 : Int32) (x5 : Int32) (S : bd_T) : bd_S Γ 6 t0 ((fb_X10_leftOf_89 p1 p2 p3 x4 x5 S).bind K) (cM ε S) 89 [(0, .ref (bd_a ε 0)), (1, .int p1), (2, .int p2), (3, .int p3), (4, .int x4), (5, .int x5)] [] := by
  unfold fb_X10_leftOf_89
  refine bs_iload hC 5 dX10_leftOf_89 rfl ?_
  refine bs_iload_n hC 2 dX10_leftOf_91 rfl rfl ?_
  refine bs_iload_n hC 3 dX10_leftOf_92 rfl rfl ?_
  refine bs_iadd hC dX10_leftOf_93 ?_
  refine bs_icmp_ge hC 127 dX10_leftOf_94 (by decide) (fun c25 => ?_) (fun c25 => ?_)
  · refine bs_some ?_
    refine bs_pick [4] rfl ?_
    exact hx x4 S
  refine bs_iload hC 4 dX10_leftOf_97 rfl ?_
  refine bs_aload_n hC 0 dX10_leftOf_99 rfl rfl ?_
  refine bs_iload hC 5 dX10_leftOf_100 rfl ?_
  refine bs_callV_i hC (rm := ({ frames := 0, cells := 0, slots := 0, locals := 0 } : Room)) [.int x5] [.int x4] (fun h => c_X10_isOpen (bd_l Γ) (bd_D Γ) ε x5 S h) mw_695 mw_693 mw_694 mw_82 mw_54 (cM_o0 ε S) rfl by_X10_isOpen ⟨rfl, rfl, by decide, by decide⟩ rfl rfl (Nat.le_of_ble_eq_true rfl) dX10_leftOf_102 (fun r19 S20 eS20 => ?_)
  refine bs_if_eq hC 117 dX10_leftOf_105 (by decide) (fun c24 => ?_) (fun c24 => ?_)
  · refine bs_iconst hC (0 : Int32) dX10_leftOf_117 rfl ?_
    refine bs_isub hC dX10_leftOf_118 ?_
    refine bs_leti (fun z21 ez21 => ?_)
    refine bs_istore hC [(4, .int z21), (0, .ref (bd_a ε 0)), (1, .int p1), (2, .int p2), (3, .int p3), (5, .int x5)] dX10_leftOf_119 (by decide) rfl ?_
    refine bs_iinc hC 5 [(5, .int (x5 + 1)), (4, .int z21), (0, .ref (bd_a ε 0)), (1, .int p1), (2, .int p2), (3, .int p3)] dX10_leftOf_121 rfl rfl (by decide) rfl ?_
    refine bs_goto hC 89 dX10_leftOf_124 (by decide) ?_
    refine bs_some ?_
    refine bs_pick [2, 3, 4, 5, 1, 0] rfl ?_
    exact hk z21 (x5 + 1) S20
  refine bs_aload_n hC 0 dX10_leftOf_108 rfl rfl ?_
  refine bs_get hC (v := .ref (bd_a ε (1 + 4))) hin_X10 0 (cM_o0 ε S20) rfl 4 (by decide) mw_564 rfl dX10_leftOf_109 ?_
  refine bs_iload_n hC 1 dX10_leftOf_112 rfl rfl ?_
  refine bs_iald hC _ (cM_gi ε S20 4 6 (by decide) rfl) dX10_leftOf_113 (fun z22 ez22 => ?_)
  refine bs_goto hC 118 dX10_leftOf_114 (by decide) ?_
  refine bs_isub hC dX10_leftOf_118 ?_
  refine bs_leti (fun z23 ez23 => ?_)
  refine bs_istore hC [(4, .int z23), (0, .ref (bd_a ε 0)), (1, .int p1), (2, .int p2), (3, .int p3), (5, .int x5)] dX10_leftOf_119 (by decide) rfl ?_
  refine bs_iinc hC 5 [(5, .int (x5 + 1)), (4, .int z23), (0, .ref (bd_a ε 0)), (1, .int p1), (2, .int p2), (3, .int p3)] dX10_leftOf_121 rfl rfl (by decide) rfl ?_
  refine bs_goto hC 89 dX10_leftOf_124 (by decide) ?_
  refine bs_some ?_
  refine bs_pick [2, 3, 4, 5, 1, 0] rfl ?_
  exact hk z23 (x5 + 1) S20
set_option maxRecDepth 100000 in
set_option maxHeartbeats 4000000 in
theorem lb_X10_leftOf_167 {Γ : bd_G} {ε : bd_E} {t0 : Option (Int32 × bd_T)} (hC : bd_C Γ cX10_leftOf 6 RX10 (some .int) ({ frames := 1, cells := 0, slots := 0, locals := 24 } : Room) ε (cM ε) bd_vi t0) (p1 : Int32) (p2 : Int32) (p3 : Int32) {K : (Int32 × Int32 × bd_T) ⊕ (Int32 × bd_T) → Option (Int32 × bd_T)} (hk : ∀ (x4 : Int32) (x5 : Int32) (S : bd_T), bd_S Γ 6 t0 (K (.inl (x4, x5, S))) (cM ε S) 167 [(0, .ref (bd_a ε 0)), (1, .int p1), (2, .int p2), (3, .int p3), (4, .int x4), (5, .int x5)] []) (hx : ∀ (y4 : Int32) (S : bd_T), bd_S Γ 6 t0 (K (.inr (y4, S))) (cM ε S) 231 [(4, .int y4)] []) (x4 : Int32) (x5 : Int32) (S : bd_T) : bd_S Γ 6 t0 ((fb_X10_leftOf_167 p1 p2 p3 x4 x5 S).bind K) (cM ε S) 167 [(0, .ref (bd_a ε 0)), (1, .int p1), (2, .int p2), (3, .int p3), (4, .int x4), (5, .int x5)] [] := by
  unfold fb_X10_leftOf_167
  refine bs_iload hC 5 dX10_leftOf_167 rfl ?_
  refine bs_iload_n hC 2 dX10_leftOf_169 rfl rfl ?_
  refine bs_iload_n hC 3 dX10_leftOf_170 rfl rfl ?_
  refine bs_iadd hC dX10_leftOf_171 ?_
  refine bs_icmp_ge hC 231 dX10_leftOf_172 (by decide) (fun c43 => ?_) (fun c43 => ?_)
  · refine bs_some ?_
    refine bs_pick [4] rfl ?_
    exact hx x4 S
  refine bs_aload_n hC 0 dX10_leftOf_175 rfl rfl ?_
  refine bs_iload hC 4 dX10_leftOf_176 rfl ?_
  refine bs_aload_n hC 0 dX10_leftOf_178 rfl rfl ?_
  refine bs_iload hC 5 dX10_leftOf_179 rfl ?_
  refine bs_callV_i hC (rm := ({ frames := 0, cells := 0, slots := 0, locals := 0 } : Room)) [.int x5] [.int x4, .ref (bd_a ε 0)] (fun h => c_X10_isOpen (bd_l Γ) (bd_D Γ) ε x5 S h) mw_695 mw_693 mw_694 mw_82 mw_54 (cM_o0 ε S) rfl by_X10_isOpen ⟨rfl, rfl, by decide, by decide⟩ rfl rfl (Nat.le_of_ble_eq_true rfl) dX10_leftOf_181 (fun r30 S31 eS31 => ?_)
  refine bs_if_ne hC 196 dX10_leftOf_184 (by decide) (fun c42 => ?_) (fun c42 => ?_)
  · refine bs_aload_n hC 0 dX10_leftOf_187 rfl rfl ?_
    refine bs_get hC (v := .ref (bd_a ε (1 + 4))) hin_X10 0 (cM_o0 ε S31) rfl 4 (by decide) mw_564 rfl dX10_leftOf_188 ?_
    refine bs_iload_n hC 1 dX10_leftOf_191 rfl rfl ?_
    refine bs_iald hC _ (cM_gi ε S31 4 6 (by decide) rfl) dX10_leftOf_192 (fun z32 ez32 => ?_)
    refine bs_goto hC 220 dX10_leftOf_193 (by decide) ?_
    refine bs_callV_i hC (rm := ({ frames := 0, cells := 0, slots := 0, locals := 0 } : Room)) [.int x4, .int z32] [] (fun h => c_X10_nearer (bd_l Γ) (bd_D Γ) ε x4 z32 S31 h) mw_698 mw_696 mw_697 mw_82 mw_55 (cM_o0 ε S31) rfl by_X10_nearer ⟨rfl, rfl, by decide, by decide⟩ rfl rfl (Nat.le_of_ble_eq_true rfl) dX10_leftOf_220 (fun r33 S34 eS34 => ?_)
    refine bs_istore hC [(4, .int r33), (0, .ref (bd_a ε 0)), (1, .int p1), (2, .int p2), (3, .int p3), (5, .int x5)] dX10_leftOf_223 (by decide) rfl ?_
    refine bs_iinc hC 5 [(5, .int (x5 + 1)), (4, .int r33), (0, .ref (bd_a ε 0)), (1, .int p1), (2, .int p2), (3, .int p3)] dX10_leftOf_225 rfl rfl (by decide) rfl ?_
    refine bs_goto hC 167 dX10_leftOf_228 (by decide) ?_
    refine bs_some ?_
    refine bs_pick [2, 3, 4, 5, 1, 0] rfl ?_
    exact hk r33 (x5 + 1) S34
  refine bs_aload_n hC 0 dX10_leftOf_196 rfl rfl ?_
  refine bs_get hC (v := .ref (bd_a ε (1 + 4))) hin_X10 0 (cM_o0 ε S31) rfl 4 (by decide) mw_564 rfl dX10_leftOf_197 ?_
  refine bs_iload_n hC 1 dX10_leftOf_200 rfl rfl ?_
  refine bs_iald hC _ (cM_gi ε S31 4 6 (by decide) rfl) dX10_leftOf_201 (fun z35 ez35 => ?_)
  refine bs_bipush hC (50 : Int32) dX10_leftOf_202 rfl ?_
  refine bs_icmp_ge hC 218 dX10_leftOf_204 (by decide) (fun c41 => ?_) (fun c41 => ?_)
  · refine bs_bipush hC (100 : Int32) dX10_leftOf_218 rfl ?_
    refine bs_callV_i hC (rm := ({ frames := 0, cells := 0, slots := 0, locals := 0 } : Room)) [.int x4, .int (100 : Int32)] [] (fun h => c_X10_nearer (bd_l Γ) (bd_D Γ) ε x4 (100 : Int32) S31 h) mw_698 mw_696 mw_697 mw_82 mw_55 (cM_o0 ε S31) rfl by_X10_nearer ⟨rfl, rfl, by decide, by decide⟩ rfl rfl (Nat.le_of_ble_eq_true rfl) dX10_leftOf_220 (fun r36 S37 eS37 => ?_)
    refine bs_istore hC [(4, .int r36), (0, .ref (bd_a ε 0)), (1, .int p1), (2, .int p2), (3, .int p3), (5, .int x5)] dX10_leftOf_223 (by decide) rfl ?_
    refine bs_iinc hC 5 [(5, .int (x5 + 1)), (4, .int r36), (0, .ref (bd_a ε 0)), (1, .int p1), (2, .int p2), (3, .int p3)] dX10_leftOf_225 rfl rfl (by decide) rfl ?_
    refine bs_goto hC 167 dX10_leftOf_228 (by decide) ?_
    refine bs_some ?_
    refine bs_pick [2, 3, 4, 5, 1, 0] rfl ?_
    exact hk r36 (x5 + 1) S37
  refine bs_iconst hC (2 : Int32) dX10_leftOf_207 rfl ?_
  refine bs_aload_n hC 0 dX10_leftOf_208 rfl rfl ?_
  refine bs_get hC (v := .ref (bd_a ε (1 + 4))) hin_X10 0 (cM_o0 ε S31) rfl 4 (by decide) mw_564 rfl dX10_leftOf_209 ?_
  refine bs_iload_n hC 1 dX10_leftOf_212 rfl rfl ?_
  refine bs_iald hC _ (cM_gi ε S31 4 6 (by decide) rfl) dX10_leftOf_213 (fun z38 ez38 => ?_)
  refine bs_imul hC dX10_leftOf_214 ?_
  refine bs_goto hC 220 dX10_leftOf_215 (by decide) ?_
  refine bs_callV_i hC (rm := ({ frames := 0, cells := 0, slots := 0, locals := 0 } : Room)) [.int x4, .int ((2 : Int32) * z38)] [] (fun h => c_X10_nearer (bd_l Γ) (bd_D Γ) ε x4 ((2 : Int32) * z38) S31 h) mw_698 mw_696 mw_697 mw_82 mw_55 (cM_o0 ε S31) rfl by_X10_nearer ⟨rfl, rfl, by decide, by decide⟩ rfl rfl (Nat.le_of_ble_eq_true rfl) dX10_leftOf_220 (fun r39 S40 eS40 => ?_)
  refine bs_istore hC [(4, .int r39), (0, .ref (bd_a ε 0)), (1, .int p1), (2, .int p2), (3, .int p3), (5, .int x5)] dX10_leftOf_223 (by decide) rfl ?_
  refine bs_iinc hC 5 [(5, .int (x5 + 1)), (4, .int r39), (0, .ref (bd_a ε 0)), (1, .int p1), (2, .int p2), (3, .int p3)] dX10_leftOf_225 rfl rfl (by decide) rfl ?_
  refine bs_goto hC 167 dX10_leftOf_228 (by decide) ?_
  refine bs_some ?_
  refine bs_pick [2, 3, 4, 5, 1, 0] rfl ?_
  exact hk r39 (x5 + 1) S40
set_option maxRecDepth 100000 in
set_option maxHeartbeats 4000000 in
theorem b_X10_leftOf {Γ : bd_G} {ε : bd_E} {t0 : Option (Int32 × bd_T)} (hC : bd_C Γ cX10_leftOf 6 RX10 (some .int) ({ frames := 1, cells := 0, slots := 0, locals := 24 } : Room) ε (cM ε) bd_vi t0) (x1 : Int32) (x2 : Int32) (x3 : Int32)  (S : bd_T) : bd_S Γ 6 t0 ((f_X10_leftOf x1 x2 x3 S).bind some) (cM ε S) 0 [(0, .ref (bd_a ε 0)), (1, .int x1), (2, .int x2), (3, .int x3)] [] := by
  unfold f_X10_leftOf
  refine bs_aload_n hC 0 dX10_leftOf_0 rfl rfl ?_
  refine bs_get hC (v := .ref (bd_a ε (1 + 3))) hin_X10 0 (cM_o0 ε S) rfl 3 (by decide) mw_563 rfl dX10_leftOf_1 ?_
  refine bs_iload_n hC 1 dX10_leftOf_4 rfl rfl ?_
  refine bs_iald hC _ (cM_gi ε S 3 6 (by decide) rfl) dX10_leftOf_5 (fun z1 ez1 => ?_)
  refine bs_istore hC [(4, .int z1), (0, .ref (bd_a ε 0)), (1, .int x1), (2, .int x2), (3, .int x3)] dX10_leftOf_6 (by decide) rfl ?_
  refine bs_aload_n hC 1 dX10_leftOf_8 rfl rfl ?_
  refine bs_get hC (v := .ref (bd_a ε (1 + 2))) hin_X10 0 (cM_o0 ε S) rfl 2 (by decide) mw_562 rfl dX10_leftOf_9 ?_
  refine bs_iload_n hC 2 dX10_leftOf_12 rfl rfl ?_
  refine bs_iald hC _ (cM_gi ε S 2 6 (by decide) rfl) dX10_leftOf_13 (fun z2 ez2 => ?_)
  refine bs_case (c := z2 = 0) (fun c3 => ?_) (fun c3 => ?_)
  · refine bs_tabIn hC (0 : Int32) (34) 48 dX10_leftOf_14 c3 (by decide) (by decide) rfl (by decide) ?_
    refine bs_iload hC 0 dX10_leftOf_48 rfl ?_
    refine bs_aload_n hC 1 dX10_leftOf_50 rfl rfl ?_
    refine bs_get hC (v := .ref (bd_a ε (1 + 4))) hin_X10 0 (cM_o0 ε S) rfl 4 (by decide) mw_564 rfl dX10_leftOf_51 ?_
    refine bs_iload_n hC 2 dX10_leftOf_54 rfl rfl ?_
    refine bs_iald hC _ (cM_gi ε S 4 6 (by decide) rfl) dX10_leftOf_55 (fun z4 ez4 => ?_)
    refine bs_iload_n hC 4 dX10_leftOf_56 rfl rfl ?_
    refine bs_imul hC dX10_leftOf_57 ?_
    refine bs_isub hC dX10_leftOf_58 ?_
    refine bs_leti (fun z5 ez5 => ?_)
    refine bs_istore hC [(4, .int z5), (0, .ref (bd_a ε 0)), (1, .int x1), (2, .int x2), (3, .int x3)] dX10_leftOf_59 (by decide) rfl ?_
    refine bs_goto hC 237 dX10_leftOf_61 (by decide) ?_
    refine bs_iload hC 0 dX10_leftOf_237 rfl ?_
    refine bs_if_ge hC 246 dX10_leftOf_239 (by decide) (fun c6 => ?_) (fun c6 => ?_)
    · refine bs_iload hC 0 dX10_leftOf_246 rfl ?_
      exact bs_iret hC dX10_leftOf_248 rfl
    refine bs_iconst hC (0 : Int32) dX10_leftOf_242 rfl ?_
    refine bs_goto hC 248 dX10_leftOf_243 (by decide) ?_
    exact bs_iret hC dX10_leftOf_248 rfl
  refine bs_case (c := z2 = 1) (fun c7 => ?_) (fun c7 => ?_)
  · refine bs_tabIn hC (1 : Int32) (116) 130 dX10_leftOf_14 c7 (by decide) (by decide) rfl (by decide) ?_
    refine bs_iload_n hC 3 dX10_leftOf_130 rfl rfl ?_
    refine bs_istore hC [(5, .int x2), (4, .int z1), (0, .ref (bd_a ε 0)), (1, .int x1), (2, .int x2), (3, .int x3)] dX10_leftOf_131 (by decide) rfl ?_
    refine bs_pick [2, 3, 4, 5, 1, 0] rfl ?_
    refine bs_loopK (fun (q : Int32 × Int32 × bd_T) t => bd_S Γ 6 t0 t (cM ε (q.2.2)) 133 [(0, .ref (bd_a ε 0)), (1, .int x1), (2, .int x2), (3, .int x3), (4, .int (q.1)), (5, .int (q.2.1))] []) (fun (q : Int32 × bd_T) t => bd_S Γ 6 t0 t (cM ε (q.2)) 161 [(4, .int (q.1))] []) (fun q => fb_X10_leftOf_133 x1 x2 x3 q.1 q.2.1 q.2.2) (fun _ => bs_none) (fun K hk hx q => lb_X10_leftOf_133 hC   x1 x2 x3 (fun a0 a1 S => hk (a0, a1, S)) (fun b0 S => hx (b0, S))  (q.1) (q.2.1) (q.2.2)) (fun r => ?_) bd_K (z1, x2, S)
    obtain ⟨y12, S13⟩ := r
    show bd_S Γ 6 t0 (Option.bind _ _) (cM ε S13) 161 [(4, .int y12)] []
    try dsimp only
    refine bs_iload hC 0 dX10_leftOf_161 rfl ?_
    exact bs_iret hC dX10_leftOf_163 rfl
  refine bs_case (c := z2 = 2) (fun c14 => ?_) (fun c14 => ?_)
  · refine bs_tabIn hC (2 : Int32) (50) 64 dX10_leftOf_14 c14 (by decide) (by decide) rfl (by decide) ?_
    refine bs_iload hC 0 dX10_leftOf_64 rfl ?_
    refine bs_bipush hC (10 : Int32) dX10_leftOf_66 rfl ?_
    refine bs_aload_n hC 1 dX10_leftOf_68 rfl rfl ?_
    refine bs_get hC (v := .ref (bd_a ε (1 + 4))) hin_X10 0 (cM_o0 ε S) rfl 4 (by decide) mw_564 rfl dX10_leftOf_69 ?_
    refine bs_iload_n hC 2 dX10_leftOf_72 rfl rfl ?_
    refine bs_iald hC _ (cM_gi ε S 4 6 (by decide) rfl) dX10_leftOf_73 (fun z15 ez15 => ?_)
    refine bs_imul hC dX10_leftOf_74 ?_
    refine bs_iload_n hC 4 dX10_leftOf_75 rfl rfl ?_
    refine bs_bipush hC (10 : Int32) dX10_leftOf_76 rfl ?_
    refine bs_idivc hC dX10_leftOf_78 (by decide) ?_
    refine bs_imul hC dX10_leftOf_79 ?_
    refine bs_isub hC dX10_leftOf_80 ?_
    refine bs_leti (fun z16 ez16 => ?_)
    refine bs_istore hC [(4, .int z16), (0, .ref (bd_a ε 0)), (1, .int x1), (2, .int x2), (3, .int x3)] dX10_leftOf_81 (by decide) rfl ?_
    refine bs_goto hC 237 dX10_leftOf_83 (by decide) ?_
    refine bs_iload hC 0 dX10_leftOf_237 rfl ?_
    refine bs_if_ge hC 246 dX10_leftOf_239 (by decide) (fun c17 => ?_) (fun c17 => ?_)
    · refine bs_iload hC 0 dX10_leftOf_246 rfl ?_
      exact bs_iret hC dX10_leftOf_248 rfl
    refine bs_iconst hC (0 : Int32) dX10_leftOf_242 rfl ?_
    refine bs_goto hC 248 dX10_leftOf_243 (by decide) ?_
    exact bs_iret hC dX10_leftOf_248 rfl
  refine bs_case (c := z2 = 3) (fun c18 => ?_) (fun c18 => ?_)
  · refine bs_tabIn hC (3 : Int32) (72) 86 dX10_leftOf_14 c18 (by decide) (by decide) rfl (by decide) ?_
    refine bs_iload_n hC 3 dX10_leftOf_86 rfl rfl ?_
    refine bs_istore hC [(5, .int x2), (4, .int z1), (0, .ref (bd_a ε 0)), (1, .int x1), (2, .int x2), (3, .int x3)] dX10_leftOf_87 (by decide) rfl ?_
    refine bs_pick [2, 3, 4, 5, 1, 0] rfl ?_
    refine bs_loopK (fun (q : Int32 × Int32 × bd_T) t => bd_S Γ 6 t0 t (cM ε (q.2.2)) 89 [(0, .ref (bd_a ε 0)), (1, .int x1), (2, .int x2), (3, .int x3), (4, .int (q.1)), (5, .int (q.2.1))] []) (fun (q : Int32 × bd_T) t => bd_S Γ 6 t0 t (cM ε (q.2)) 127 [(4, .int (q.1))] []) (fun q => fb_X10_leftOf_89 x1 x2 x3 q.1 q.2.1 q.2.2) (fun _ => bs_none) (fun K hk hx q => lb_X10_leftOf_89 hC   x1 x2 x3 (fun a0 a1 S => hk (a0, a1, S)) (fun b0 S => hx (b0, S))  (q.1) (q.2.1) (q.2.2)) (fun r => ?_) bd_K (z1, x2, S)
    obtain ⟨y26, S27⟩ := r
    show bd_S Γ 6 t0 (Option.bind _ _) (cM ε S27) 127 [(4, .int y26)] []
    try dsimp only
    refine bs_goto hC 237 dX10_leftOf_127 (by decide) ?_
    refine bs_iload hC 0 dX10_leftOf_237 rfl ?_
    refine bs_if_ge hC 246 dX10_leftOf_239 (by decide) (fun c28 => ?_) (fun c28 => ?_)
    · refine bs_iload hC 0 dX10_leftOf_246 rfl ?_
      exact bs_iret hC dX10_leftOf_248 rfl
    refine bs_iconst hC (0 : Int32) dX10_leftOf_242 rfl ?_
    refine bs_goto hC 248 dX10_leftOf_243 (by decide) ?_
    exact bs_iret hC dX10_leftOf_248 rfl
  refine bs_case (c := z2 = 4) (fun c29 => ?_) (fun c29 => ?_)
  · refine bs_tabIn hC (4 : Int32) (150) 164 dX10_leftOf_14 c29 (by decide) (by decide) rfl (by decide) ?_
    refine bs_iload_n hC 3 dX10_leftOf_164 rfl rfl ?_
    refine bs_istore hC [(5, .int x2), (4, .int z1), (0, .ref (bd_a ε 0)), (1, .int x1), (2, .int x2), (3, .int x3)] dX10_leftOf_165 (by decide) rfl ?_
    refine bs_pick [2, 3, 4, 5, 1, 0] rfl ?_
    refine bs_loopK (fun (q : Int32 × Int32 × bd_T) t => bd_S Γ 6 t0 t (cM ε (q.2.2)) 167 [(0, .ref (bd_a ε 0)), (1, .int x1), (2, .int x2), (3, .int x3), (4, .int (q.1)), (5, .int (q.2.1))] []) (fun (q : Int32 × bd_T) t => bd_S Γ 6 t0 t (cM ε (q.2)) 231 [(4, .int (q.1))] []) (fun q => fb_X10_leftOf_167 x1 x2 x3 q.1 q.2.1 q.2.2) (fun _ => bs_none) (fun K hk hx q => lb_X10_leftOf_167 hC   x1 x2 x3 (fun a0 a1 S => hk (a0, a1, S)) (fun b0 S => hx (b0, S))  (q.1) (q.2.1) (q.2.2)) (fun r => ?_) bd_K (z1, x2, S)
    obtain ⟨y44, S45⟩ := r
    show bd_S Γ 6 t0 (Option.bind _ _) (cM ε S45) 231 [(4, .int y44)] []
    try dsimp only
    refine bs_iload hC 0 dX10_leftOf_231 rfl ?_
    exact bs_iret hC dX10_leftOf_233 rfl
  refine bs_tabOut hC 234 dX10_leftOf_14 (by have h0 := lv_neT (k := (0 : Int32)) (a := 0) c3 rfl; have h1 := lv_neT (k := (1 : Int32)) (a := 1) c7 rfl; have h2 := lv_neT (k := (2 : Int32)) (a := 2) c14 rfl; have h3 := lv_neT (k := (3 : Int32)) (a := 3) c18 rfl; have h4 := lv_neT (k := (4 : Int32)) (a := 4) c29 rfl; omega) (by decide) ?_
  refine bs_iload hC 0 dX10_leftOf_234 rfl ?_
  exact bs_iret hC dX10_leftOf_236 rfl
theorem c_X10_leftOf (l : Launch) (D : va_G) (ε : bd_E) (x1 : Int32) (x2 : Int32) (x3 : Int32)  (S : bd_T) (h0 : (f_X10_leftOf x1 x2 x3 S).isSome = true) : bd_Con l yX10_leftOf (Cond.code yX10_leftOf cX10_leftOf 6 (some .int) :: bd_tbl) ({ frames := 1, cells := 0, slots := 0, locals := 24 } : Room) D ε (cM ε) bd_vi [.ref (bd_a ε 0), .int x1, .int x2, .int x3] S (f_X10_leftOf x1 x2 x3 S) :=
  bd_con (by decide +kernel) (Nat.le_of_ble_eq_true rfl) ⟨rfl, rfl⟩ h0 (fun Γ _ _ hC => bs_eq bs_bs (b_X10_leftOf hC x1 x2 x3 S))
set_option maxRecDepth 100000 in
set_option maxHeartbeats 4000000 in
theorem b_X10_left {Γ : bd_G} {ε : bd_E} {t0 : Option (Int32 × bd_T)} (hC : bd_C Γ cX10_left 5 RX10 (some .int) ({ frames := 2, cells := 0, slots := 0, locals := 49 } : Room) ε (cM ε) bd_vi t0) (x1 : Int32) (x2 : Int32) (x3 : Int32)  (S : bd_T) : bd_S Γ 5 t0 ((f_X10_left x1 x2 x3 S).bind some) (cM ε S) 0 [(0, .ref (bd_a ε 0)), (1, .int x1), (2, .int x2), (3, .int x3)] [] := by
  unfold f_X10_left
  refine bs_aload_n hC 0 dX10_left_0 rfl rfl ?_
  refine bs_iload_n hC 1 dX10_left_1 rfl rfl ?_
  refine bs_callV_i hC (rm := ({ frames := 0, cells := 0, slots := 0, locals := 0 } : Room)) [.int x1] [] (fun h => c_X10_isThing (bd_l Γ) (bd_D Γ) ε x1 S h) mw_670 mw_668 mw_669 mw_82 mw_52 (cM_o0 ε S) rfl by_X10_isThing ⟨rfl, rfl, by decide, by decide⟩ rfl rfl (Nat.le_of_ble_eq_true rfl) dX10_left_2 (fun r1 S2 eS2 => ?_)
  refine bs_if_ne hC 14 dX10_left_5 (by decide) (fun c12 => ?_) (fun c12 => ?_)
  · refine bs_aload_n hC 0 dX10_left_8 rfl rfl ?_
    refine bs_iconst hC (-1 : Int32) dX10_left_9 rfl ?_
    refine bs_callV_i hC (rm := ({ frames := 0, cells := 0, slots := 0, locals := 0 } : Room)) [.int (-1 : Int32)] [] (fun h => c_X10_no (bd_l Γ) (bd_D Γ) ε (-1 : Int32) S2 h) mw_646 mw_644 mw_645 mw_82 mw_48 (cM_o0 ε S2) rfl by_X10_no ⟨rfl, rfl, by decide, by decide⟩ rfl rfl (Nat.le_of_ble_eq_true rfl) dX10_left_10 (fun r3 S4 eS4 => ?_)
    exact bs_iret hC dX10_left_13 rfl
  refine bs_iload_n hC 2 dX10_left_14 rfl rfl ?_
  refine bs_iload_n hC 3 dX10_left_15 rfl rfl ?_
  refine bs_callS_i hC (rm := ({ frames := 0, cells := 0, slots := 0, locals := 0 } : Room)) [.int x2, .int x3] [] (fun h => c_X10_why (bd_l Γ) (bd_D Γ) ε x2 x3 S2 h) mw_689 mw_687 mw_688 mw_82 by_X10_why ⟨rfl, rfl, by decide, by decide⟩ rfl rfl (Nat.le_of_ble_eq_true rfl) dX10_left_16 (fun r5 S6 eS6 => ?_)
  refine bs_istore hC [(4, .int r5), (0, .ref (bd_a ε 0)), (1, .int x1), (2, .int x2), (3, .int x3)] dX10_left_19 (by decide) rfl ?_
  refine bs_iload hC 0 dX10_left_21 rfl ?_
  refine bs_if_eq hC 35 dX10_left_23 (by decide) (fun c11 => ?_) (fun c11 => ?_)
  · refine bs_aload_n hC 1 dX10_left_35 rfl rfl ?_
    refine bs_iload_n hC 2 dX10_left_36 rfl rfl ?_
    refine bs_iload_n hC 3 dX10_left_37 rfl rfl ?_
    refine bs_iload_n hC 4 dX10_left_38 rfl rfl ?_
    refine bs_callV_i hC (rm := ({ frames := 1, cells := 0, slots := 0, locals := 24 } : Room)) [.int x1, .int x2, .int x3] [] (fun h => c_X10_leftOf (bd_l Γ) (bd_D Γ) ε x1 x2 x3 S6 h) mw_692 mw_690 mw_691 mw_82 mw_53 (cM_o0 ε S6) rfl by_X10_leftOf ⟨rfl, rfl, by decide, by decide⟩ rfl rfl (Nat.le_of_ble_eq_true rfl) dX10_left_39 (fun r7 S8 eS8 => ?_)
    exact bs_iret hC dX10_left_42 rfl
  refine bs_aload_n hC 1 dX10_left_26 rfl rfl ?_
  refine bs_iload hC 0 dX10_left_27 rfl ?_
  refine bs_callV_i hC (rm := ({ frames := 0, cells := 0, slots := 0, locals := 0 } : Room)) [.int r5] [] (fun h => c_X10_no (bd_l Γ) (bd_D Γ) ε r5 S6 h) mw_646 mw_644 mw_645 mw_82 mw_48 (cM_o0 ε S6) rfl by_X10_no ⟨rfl, rfl, by decide, by decide⟩ rfl rfl (Nat.le_of_ble_eq_true rfl) dX10_left_29 (fun r9 S10 eS10 => ?_)
  refine bs_goto hC 42 dX10_left_32 (by decide) ?_
  exact bs_iret hC dX10_left_42 rfl
theorem c_X10_left (l : Launch) (D : va_G) (ε : bd_E) (x1 : Int32) (x2 : Int32) (x3 : Int32)  (S : bd_T) (h0 : (f_X10_left x1 x2 x3 S).isSome = true) : bd_Con l yX10_left (Cond.code yX10_left cX10_left 5 (some .int) :: bd_tbl) ({ frames := 2, cells := 0, slots := 0, locals := 49 } : Room) D ε (cM ε) bd_vi [.ref (bd_a ε 0), .int x1, .int x2, .int x3] S (f_X10_left x1 x2 x3 S) :=
  bd_con (by decide +kernel) (Nat.le_of_ble_eq_true rfl) ⟨rfl, rfl⟩ h0 (fun Γ _ _ hC => bs_eq bs_bs (b_X10_left hC x1 x2 x3 S))
set_option maxRecDepth 100000 in
set_option maxHeartbeats 4000000 in
theorem b_X10_look {Γ : bd_G} {ε : bd_E} {t0 : Option (Int32 × bd_T)} (hC : bd_C Γ cX10_look 6 RX10 (some .int) ({ frames := 1, cells := 0, slots := 0, locals := 21 } : Room) ε (cM ε) bd_vi t0) (x1 : Int32) (x2 : Int32) (x3 : Int32) (x4 : Int32)  (S : bd_T) : bd_S Γ 6 t0 ((f_X10_look x1 x2 x3 x4 S).bind some) (cM ε S) 0 [(0, .ref (bd_a ε 0)), (1, .int x1), (2, .int x2), (3, .int x3), (4, .int x4)] [] := by
  unfold f_X10_look
  refine bs_aload_n hC 0 dX10_look_0 rfl rfl ?_
  refine bs_iload_n hC 1 dX10_look_1 rfl rfl ?_
  refine bs_callV_i hC (rm := ({ frames := 0, cells := 0, slots := 0, locals := 0 } : Room)) [.int x1] [] (fun h => c_X10_isThing (bd_l Γ) (bd_D Γ) ε x1 S h) mw_670 mw_668 mw_669 mw_82 mw_52 (cM_o0 ε S) rfl by_X10_isThing ⟨rfl, rfl, by decide, by decide⟩ rfl rfl (Nat.le_of_ble_eq_true rfl) dX10_look_2 (fun r1 S2 eS2 => ?_)
  refine bs_if_ne hC 14 dX10_look_5 (by decide) (fun c33 => ?_) (fun c33 => ?_)
  · refine bs_aload_n hC 0 dX10_look_8 rfl rfl ?_
    refine bs_iconst hC (-1 : Int32) dX10_look_9 rfl ?_
    refine bs_callV_i hC (rm := ({ frames := 0, cells := 0, slots := 0, locals := 0 } : Room)) [.int (-1 : Int32)] [] (fun h => c_X10_no (bd_l Γ) (bd_D Γ) ε (-1 : Int32) S2 h) mw_646 mw_644 mw_645 mw_82 mw_48 (cM_o0 ε S2) rfl by_X10_no ⟨rfl, rfl, by decide, by decide⟩ rfl rfl (Nat.le_of_ble_eq_true rfl) dX10_look_10 (fun r3 S4 eS4 => ?_)
    exact bs_iret hC dX10_look_13 rfl
  refine bs_iload_n hC 2 dX10_look_14 rfl rfl ?_
  refine bs_if_lt hC 28 dX10_look_15 (by decide) (fun c32 => ?_) (fun c32 => ?_)
  · refine bs_bipush hC (-4 : Int32) dX10_look_28 rfl ?_
    refine bs_goto hC 70 dX10_look_30 (by decide) ?_
    refine bs_istore hC [(5, .int (-4 : Int32)), (0, .ref (bd_a ε 0)), (1, .int x1), (2, .int x2), (3, .int x3), (4, .int x4)] dX10_look_70 (by decide) rfl ?_
    refine bs_iload hC 0 dX10_look_72 rfl ?_
    refine bs_if_eqF hC 84 dX10_look_74 (by decide) (by decide) ?_
    refine bs_aload_n hC 1 dX10_look_77 rfl rfl ?_
    refine bs_iload hC 0 dX10_look_78 rfl ?_
    refine bs_callV_i hC (rm := ({ frames := 0, cells := 0, slots := 0, locals := 0 } : Room)) [.int (-4 : Int32)] [] (fun h => c_X10_no (bd_l Γ) (bd_D Γ) ε (-4 : Int32) S2 h) mw_646 mw_644 mw_645 mw_82 mw_48 (cM_o0 ε S2) rfl by_X10_no ⟨rfl, rfl, by decide, by decide⟩ rfl rfl (Nat.le_of_ble_eq_true rfl) dX10_look_80 (fun r5 S6 eS6 => ?_)
    exact bs_iret hC dX10_look_83 rfl
  refine bs_iload_n hC 3 dX10_look_18 rfl rfl ?_
  refine bs_if_lt hC 28 dX10_look_19 (by decide) (fun c31 => ?_) (fun c31 => ?_)
  · refine bs_bipush hC (-4 : Int32) dX10_look_28 rfl ?_
    refine bs_goto hC 70 dX10_look_30 (by decide) ?_
    refine bs_istore hC [(5, .int (-4 : Int32)), (0, .ref (bd_a ε 0)), (1, .int x1), (2, .int x2), (3, .int x3), (4, .int x4)] dX10_look_70 (by decide) rfl ?_
    refine bs_iload hC 0 dX10_look_72 rfl ?_
    refine bs_if_eqF hC 84 dX10_look_74 (by decide) (by decide) ?_
    refine bs_aload_n hC 1 dX10_look_77 rfl rfl ?_
    refine bs_iload hC 0 dX10_look_78 rfl ?_
    refine bs_callV_i hC (rm := ({ frames := 0, cells := 0, slots := 0, locals := 0 } : Room)) [.int (-4 : Int32)] [] (fun h => c_X10_no (bd_l Γ) (bd_D Γ) ε (-4 : Int32) S2 h) mw_646 mw_644 mw_645 mw_82 mw_48 (cM_o0 ε S2) rfl by_X10_no ⟨rfl, rfl, by decide, by decide⟩ rfl rfl (Nat.le_of_ble_eq_true rfl) dX10_look_80 (fun r7 S8 eS8 => ?_)
    exact bs_iret hC dX10_look_83 rfl
  refine bs_iload hC 4 dX10_look_22 rfl ?_
  refine bs_iload_n hC 3 dX10_look_24 rfl rfl ?_
  refine bs_icmp_ge hC 33 dX10_look_25 (by decide) (fun c30 => ?_) (fun c30 => ?_)
  · refine bs_iload_n hC 2 dX10_look_33 rfl rfl ?_
    refine bs_sipush hC (300 : Int32) dX10_look_34 rfl ?_
    refine bs_icmp_ge hC 64 dX10_look_37 (by decide) (fun c27 => ?_) (fun c27 => ?_)
    · refine bs_bipush hC (-6 : Int32) dX10_look_64 rfl ?_
      refine bs_goto hC 70 dX10_look_66 (by decide) ?_
      refine bs_istore hC [(5, .int (-6 : Int32)), (0, .ref (bd_a ε 0)), (1, .int x1), (2, .int x2), (3, .int x3), (4, .int x4)] dX10_look_70 (by decide) rfl ?_
      refine bs_iload hC 0 dX10_look_72 rfl ?_
      refine bs_if_eqF hC 84 dX10_look_74 (by decide) (by decide) ?_
      refine bs_aload_n hC 1 dX10_look_77 rfl rfl ?_
      refine bs_iload hC 0 dX10_look_78 rfl ?_
      refine bs_callV_i hC (rm := ({ frames := 0, cells := 0, slots := 0, locals := 0 } : Room)) [.int (-6 : Int32)] [] (fun h => c_X10_no (bd_l Γ) (bd_D Γ) ε (-6 : Int32) S2 h) mw_646 mw_644 mw_645 mw_82 mw_48 (cM_o0 ε S2) rfl by_X10_no ⟨rfl, rfl, by decide, by decide⟩ rfl rfl (Nat.le_of_ble_eq_true rfl) dX10_look_80 (fun r9 S10 eS10 => ?_)
      exact bs_iret hC dX10_look_83 rfl
    refine bs_iload_n hC 3 dX10_look_40 rfl rfl ?_
    refine bs_sipush hC (9999 : Int32) dX10_look_41 rfl ?_
    refine bs_icmp_gt hC 64 dX10_look_44 (by decide) (fun c26 => ?_) (fun c26 => ?_)
    · refine bs_bipush hC (-6 : Int32) dX10_look_64 rfl ?_
      refine bs_goto hC 70 dX10_look_66 (by decide) ?_
      refine bs_istore hC [(5, .int (-6 : Int32)), (0, .ref (bd_a ε 0)), (1, .int x1), (2, .int x2), (3, .int x3), (4, .int x4)] dX10_look_70 (by decide) rfl ?_
      refine bs_iload hC 0 dX10_look_72 rfl ?_
      refine bs_if_eqF hC 84 dX10_look_74 (by decide) (by decide) ?_
      refine bs_aload_n hC 1 dX10_look_77 rfl rfl ?_
      refine bs_iload hC 0 dX10_look_78 rfl ?_
      refine bs_callV_i hC (rm := ({ frames := 0, cells := 0, slots := 0, locals := 0 } : Room)) [.int (-6 : Int32)] [] (fun h => c_X10_no (bd_l Γ) (bd_D Γ) ε (-6 : Int32) S2 h) mw_646 mw_644 mw_645 mw_82 mw_48 (cM_o0 ε S2) rfl by_X10_no ⟨rfl, rfl, by decide, by decide⟩ rfl rfl (Nat.le_of_ble_eq_true rfl) dX10_look_80 (fun r11 S12 eS12 => ?_)
      exact bs_iret hC dX10_look_83 rfl
    refine bs_iload hC 4 dX10_look_47 rfl ?_
    refine bs_sipush hC (9999 : Int32) dX10_look_49 rfl ?_
    refine bs_icmp_gt hC 64 dX10_look_52 (by decide) (fun c25 => ?_) (fun c25 => ?_)
    · refine bs_bipush hC (-6 : Int32) dX10_look_64 rfl ?_
      refine bs_goto hC 70 dX10_look_66 (by decide) ?_
      refine bs_istore hC [(5, .int (-6 : Int32)), (0, .ref (bd_a ε 0)), (1, .int x1), (2, .int x2), (3, .int x3), (4, .int x4)] dX10_look_70 (by decide) rfl ?_
      refine bs_iload hC 0 dX10_look_72 rfl ?_
      refine bs_if_eqF hC 84 dX10_look_74 (by decide) (by decide) ?_
      refine bs_aload_n hC 1 dX10_look_77 rfl rfl ?_
      refine bs_iload hC 0 dX10_look_78 rfl ?_
      refine bs_callV_i hC (rm := ({ frames := 0, cells := 0, slots := 0, locals := 0 } : Room)) [.int (-6 : Int32)] [] (fun h => c_X10_no (bd_l Γ) (bd_D Γ) ε (-6 : Int32) S2 h) mw_646 mw_644 mw_645 mw_82 mw_48 (cM_o0 ε S2) rfl by_X10_no ⟨rfl, rfl, by decide, by decide⟩ rfl rfl (Nat.le_of_ble_eq_true rfl) dX10_look_80 (fun r13 S14 eS14 => ?_)
      exact bs_iret hC dX10_look_83 rfl
    refine bs_aload_n hC 0 dX10_look_55 rfl rfl ?_
    refine bs_get hC (v := .int (bd_I S2 8)) hin_X10 0 (cM_o0 ε S2) rfl 20 (by decide) mw_580 rfl dX10_look_56 ?_
    refine bs_bipush hC (10 : Int32) dX10_look_59 rfl ?_
    refine bs_icmp_ne hC 69 dX10_look_61 (by decide) (fun c24 => ?_) (fun c24 => ?_)
    · refine bs_bipush hC (-6 : Int32) dX10_look_64 rfl ?_
      refine bs_goto hC 70 dX10_look_66 (by decide) ?_
      refine bs_istore hC [(5, .int (-6 : Int32)), (0, .ref (bd_a ε 0)), (1, .int x1), (2, .int x2), (3, .int x3), (4, .int x4)] dX10_look_70 (by decide) rfl ?_
      refine bs_iload hC 0 dX10_look_72 rfl ?_
      refine bs_if_eqF hC 84 dX10_look_74 (by decide) (by decide) ?_
      refine bs_aload_n hC 1 dX10_look_77 rfl rfl ?_
      refine bs_iload hC 0 dX10_look_78 rfl ?_
      refine bs_callV_i hC (rm := ({ frames := 0, cells := 0, slots := 0, locals := 0 } : Room)) [.int (-6 : Int32)] [] (fun h => c_X10_no (bd_l Γ) (bd_D Γ) ε (-6 : Int32) S2 h) mw_646 mw_644 mw_645 mw_82 mw_48 (cM_o0 ε S2) rfl by_X10_no ⟨rfl, rfl, by decide, by decide⟩ rfl rfl (Nat.le_of_ble_eq_true rfl) dX10_look_80 (fun r15 S16 eS16 => ?_)
      exact bs_iret hC dX10_look_83 rfl
    refine bs_iconst hC (0 : Int32) dX10_look_69 rfl ?_
    refine bs_istore hC [(5, .int (0 : Int32)), (0, .ref (bd_a ε 0)), (1, .int x1), (2, .int x2), (3, .int x3), (4, .int x4)] dX10_look_70 (by decide) rfl ?_
    refine bs_iload hC 0 dX10_look_72 rfl ?_
    refine bs_if_eqT hC 84 dX10_look_74 (by decide) (by decide) ?_
    refine bs_aload_n hC 1 dX10_look_84 rfl rfl ?_
    refine bs_get hC (v := .ref (bd_a ε (1 + 7))) hin_X10 0 (cM_o0 ε S2) rfl 15 (by decide) mw_575 rfl dX10_look_85 ?_
    refine bs_aload_n hC 1 dX10_look_88 rfl rfl ?_
    refine bs_get hC (v := .int (bd_I S2 8)) hin_X10 0 (cM_o0 ε S2) rfl 20 (by decide) mw_580 rfl dX10_look_89 ?_
    refine bs_iload_n hC 2 dX10_look_92 rfl rfl ?_
    refine bs_iast hC _ (cM_gi ε S2 7 10 (by decide) rfl) (cM_si ε S2 7 10 (by decide) rfl _) dX10_look_93 (fun S17 eS17 => ?_)
    refine bs_aload_n hC 1 dX10_look_94 rfl rfl ?_
    refine bs_get hC (v := .ref (bd_a ε (1 + 8))) hin_X10 0 (cM_o0 ε S17) rfl 16 (by decide) mw_576 rfl dX10_look_95 ?_
    refine bs_aload_n hC 1 dX10_look_98 rfl rfl ?_
    refine bs_get hC (v := .int (bd_I S17 8)) hin_X10 0 (cM_o0 ε S17) rfl 20 (by decide) mw_580 rfl dX10_look_99 ?_
    refine bs_iload_n hC 3 dX10_look_102 rfl rfl ?_
    refine bs_iast hC _ (cM_gi ε S17 8 10 (by decide) rfl) (cM_si ε S17 8 10 (by decide) rfl _) dX10_look_103 (fun S18 eS18 => ?_)
    refine bs_aload_n hC 1 dX10_look_104 rfl rfl ?_
    refine bs_get hC (v := .ref (bd_a ε (1 + 9))) hin_X10 0 (cM_o0 ε S18) rfl 17 (by decide) mw_577 rfl dX10_look_105 ?_
    refine bs_aload_n hC 1 dX10_look_108 rfl rfl ?_
    refine bs_get hC (v := .int (bd_I S18 8)) hin_X10 0 (cM_o0 ε S18) rfl 20 (by decide) mw_580 rfl dX10_look_109 ?_
    refine bs_iload_n hC 4 dX10_look_112 rfl rfl ?_
    refine bs_iast hC _ (cM_gi ε S18 9 10 (by decide) rfl) (cM_si ε S18 9 10 (by decide) rfl _) dX10_look_113 (fun S19 eS19 => ?_)
    refine bs_aload_n hC 1 dX10_look_114 rfl rfl ?_
    refine bs_get hC (v := .ref (bd_a ε (1 + 10))) hin_X10 0 (cM_o0 ε S19) rfl 18 (by decide) mw_578 rfl dX10_look_115 ?_
    refine bs_aload_n hC 1 dX10_look_118 rfl rfl ?_
    refine bs_get hC (v := .int (bd_I S19 8)) hin_X10 0 (cM_o0 ε S19) rfl 20 (by decide) mw_580 rfl dX10_look_119 ?_
    refine bs_iload hC 5 dX10_look_122 rfl ?_
    refine bs_iast hC _ (cM_gi ε S19 10 10 (by decide) rfl) (cM_si ε S19 10 10 (by decide) rfl _) dX10_look_124 (fun S20 eS20 => ?_)
    refine bs_aload_n hC 1 dX10_look_125 rfl rfl ?_
    refine bs_get hC (v := .ref (bd_a ε (1 + 11))) hin_X10 0 (cM_o0 ε S20) rfl 19 (by decide) mw_579 rfl dX10_look_126 ?_
    refine bs_aload_n hC 1 dX10_look_129 rfl rfl ?_
    refine bs_get hC (v := .int (bd_I S20 8)) hin_X10 0 (cM_o0 ε S20) rfl 20 (by decide) mw_580 rfl dX10_look_130 ?_
    refine bs_iconst hC (0 : Int32) dX10_look_133 rfl ?_
    refine bs_iast hC _ (cM_gi ε S20 11 10 (by decide) rfl) (cM_si ε S20 11 10 (by decide) rfl _) dX10_look_134 (fun S21 eS21 => ?_)
    refine bs_aload_n hC 1 dX10_look_135 rfl rfl ?_
    refine bs_dup hC dX10_look_136 rfl ?_
    refine bs_get hC (v := .int (bd_I S21 8)) hin_X10 0 (cM_o0 ε S21) rfl 20 (by decide) mw_580 rfl dX10_look_137 ?_
    refine bs_iconst hC (1 : Int32) dX10_look_140 rfl ?_
    refine bs_iadd hC dX10_look_141 ?_
    refine bs_put hC (kk := 8) hin_X10 tyX10 tyX10_ok nmX10 0 (cM_o0 ε S21) rfl 20 (by decide) mw_580 rfl rfl rfl (Nat.le_of_ble_eq_true rfl) (cM_p8 ε S21 _) dX10_look_142 (fun S22 eS22 => ?_)
    refine bs_aload_n hC 1 dX10_look_145 rfl rfl ?_
    refine bs_iconst hC (1 : Int32) dX10_look_146 rfl ?_
    refine bs_put hC (kk := 7) hin_X10 tyX10 tyX10_ok nmX10 0 (cM_o0 ε S22) rfl 14 (by decide) mw_574 rfl rfl rfl (Nat.le_of_ble_eq_true rfl) (cM_p7 ε S22 _) dX10_look_147 (fun S23 eS23 => ?_)
    refine bs_aload_n hC 1 dX10_look_150 rfl rfl ?_
    refine bs_get hC (v := .int (bd_I S23 8)) hin_X10 0 (cM_o0 ε S23) rfl 20 (by decide) mw_580 rfl dX10_look_151 ?_
    refine bs_iconst hC (1 : Int32) dX10_look_154 rfl ?_
    refine bs_isub hC dX10_look_155 ?_
    exact bs_iret hC dX10_look_156 rfl
  refine bs_bipush hC (-4 : Int32) dX10_look_28 rfl ?_
  refine bs_goto hC 70 dX10_look_30 (by decide) ?_
  refine bs_istore hC [(5, .int (-4 : Int32)), (0, .ref (bd_a ε 0)), (1, .int x1), (2, .int x2), (3, .int x3), (4, .int x4)] dX10_look_70 (by decide) rfl ?_
  refine bs_iload hC 0 dX10_look_72 rfl ?_
  refine bs_if_eqF hC 84 dX10_look_74 (by decide) (by decide) ?_
  refine bs_aload_n hC 1 dX10_look_77 rfl rfl ?_
  refine bs_iload hC 0 dX10_look_78 rfl ?_
  refine bs_callV_i hC (rm := ({ frames := 0, cells := 0, slots := 0, locals := 0 } : Room)) [.int (-4 : Int32)] [] (fun h => c_X10_no (bd_l Γ) (bd_D Γ) ε (-4 : Int32) S2 h) mw_646 mw_644 mw_645 mw_82 mw_48 (cM_o0 ε S2) rfl by_X10_no ⟨rfl, rfl, by decide, by decide⟩ rfl rfl (Nat.le_of_ble_eq_true rfl) dX10_look_80 (fun r28 S29 eS29 => ?_)
  exact bs_iret hC dX10_look_83 rfl
theorem c_X10_look (l : Launch) (D : va_G) (ε : bd_E) (x1 : Int32) (x2 : Int32) (x3 : Int32) (x4 : Int32)  (S : bd_T) (h0 : (f_X10_look x1 x2 x3 x4 S).isSome = true) : bd_Con l yX10_look (Cond.code yX10_look cX10_look 6 (some .int) :: bd_tbl) ({ frames := 1, cells := 0, slots := 0, locals := 21 } : Room) D ε (cM ε) bd_vi [.ref (bd_a ε 0), .int x1, .int x2, .int x3, .int x4] S (f_X10_look x1 x2 x3 x4 S) :=
  bd_con (by decide +kernel) (Nat.le_of_ble_eq_true rfl) ⟨rfl, rfl⟩ h0 (fun Γ _ _ hC => bs_eq bs_bs (b_X10_look hC x1 x2 x3 x4 S))
set_option maxRecDepth 100000 in
set_option maxHeartbeats 4000000 in
theorem b_X10_doubt {Γ : bd_G} {ε : bd_E} {t0 : Option (Int32 × bd_T)} (hC : bd_C Γ cX10_doubt 3 RX10 (some .int) ({ frames := 1, cells := 0, slots := 0, locals := 22 } : Room) ε (cM ε) bd_vi t0) (x1 : Int32) (x2 : Int32)  (S : bd_T) : bd_S Γ 3 t0 ((f_X10_doubt x1 x2 S).bind some) (cM ε S) 0 [(0, .ref (bd_a ε 0)), (1, .int x1), (2, .int x2)] [] := by
  unfold f_X10_doubt
  refine bs_iload_n hC 1 dX10_doubt_0 rfl rfl ?_
  refine bs_iconst hC (0 : Int32) dX10_doubt_1 rfl ?_
  refine bs_aload_n hC 0 dX10_doubt_2 rfl rfl ?_
  refine bs_get hC (v := .int (bd_I S 8)) hin_X10 0 (cM_o0 ε S) rfl 20 (by decide) mw_580 rfl dX10_doubt_3 ?_
  refine bs_iconst hC (1 : Int32) dX10_doubt_6 rfl ?_
  refine bs_isub hC dX10_doubt_7 ?_
  refine bs_callS_i hC (rm := ({ frames := 0, cells := 0, slots := 0, locals := 0 } : Room)) [.int x1, .int (0 : Int32), .int ((bd_I S 8) - (1 : Int32))] [] (fun h => c_X10_isIn (bd_l Γ) (bd_D Γ) ε x1 (0 : Int32) ((bd_I S 8) - (1 : Int32)) S h) mw_663 mw_661 mw_662 mw_82 by_X10_isIn ⟨rfl, rfl, by decide, by decide⟩ rfl rfl (Nat.le_of_ble_eq_true rfl) dX10_doubt_8 (fun r1 S2 eS2 => ?_)
  refine bs_if_ne hC 20 dX10_doubt_11 (by decide) (fun c15 => ?_) (fun c15 => ?_)
  · refine bs_aload_n hC 0 dX10_doubt_14 rfl rfl ?_
    refine bs_iconst hC (-1 : Int32) dX10_doubt_15 rfl ?_
    refine bs_callV_i hC (rm := ({ frames := 0, cells := 0, slots := 0, locals := 0 } : Room)) [.int (-1 : Int32)] [] (fun h => c_X10_no (bd_l Γ) (bd_D Γ) ε (-1 : Int32) S2 h) mw_646 mw_644 mw_645 mw_82 mw_48 (cM_o0 ε S2) rfl by_X10_no ⟨rfl, rfl, by decide, by decide⟩ rfl rfl (Nat.le_of_ble_eq_true rfl) dX10_doubt_16 (fun r3 S4 eS4 => ?_)
    exact bs_iret hC dX10_doubt_19 rfl
  refine bs_aload_n hC 0 dX10_doubt_20 rfl rfl ?_
  refine bs_get hC (v := .ref (bd_a ε (1 + 11))) hin_X10 0 (cM_o0 ε S2) rfl 19 (by decide) mw_579 rfl dX10_doubt_21 ?_
  refine bs_iload_n hC 1 dX10_doubt_24 rfl rfl ?_
  refine bs_iald hC _ (cM_gi ε S2 11 10 (by decide) rfl) dX10_doubt_25 (fun z5 ez5 => ?_)
  refine bs_iconst hC (1 : Int32) dX10_doubt_26 rfl ?_
  refine bs_icmp_ne hC 34 dX10_doubt_27 (by decide) (fun c14 => ?_) (fun c14 => ?_)
  · refine bs_iconst hC (1 : Int32) dX10_doubt_30 rfl ?_
    refine bs_goto hC 35 dX10_doubt_31 (by decide) ?_
    refine bs_iload_n hC 2 dX10_doubt_35 rfl rfl ?_
    refine bs_icmp_ne hC 41 dX10_doubt_36 (by decide) (fun c9 => ?_) (fun c9 => ?_)
    · refine bs_iconst hC (0 : Int32) dX10_doubt_39 rfl ?_
      exact bs_iret hC dX10_doubt_40 rfl
    refine bs_aload_n hC 0 dX10_doubt_41 rfl rfl ?_
    refine bs_get hC (v := .ref (bd_a ε (1 + 11))) hin_X10 0 (cM_o0 ε S2) rfl 19 (by decide) mw_579 rfl dX10_doubt_42 ?_
    refine bs_iload_n hC 1 dX10_doubt_45 rfl rfl ?_
    refine bs_iload_n hC 2 dX10_doubt_46 rfl rfl ?_
    refine bs_if_eq hC 54 dX10_doubt_47 (by decide) (fun c8 => ?_) (fun c8 => ?_)
    · refine bs_iconst hC (0 : Int32) dX10_doubt_54 rfl ?_
      refine bs_iast hC _ (cM_gi ε S2 11 10 (by decide) rfl) (cM_si ε S2 11 10 (by decide) rfl _) dX10_doubt_55 (fun S6 eS6 => ?_)
      refine bs_iconst hC (1 : Int32) dX10_doubt_56 rfl ?_
      exact bs_iret hC dX10_doubt_57 rfl
    refine bs_iconst hC (1 : Int32) dX10_doubt_50 rfl ?_
    refine bs_goto hC 55 dX10_doubt_51 (by decide) ?_
    refine bs_iast hC _ (cM_gi ε S2 11 10 (by decide) rfl) (cM_si ε S2 11 10 (by decide) rfl _) dX10_doubt_55 (fun S7 eS7 => ?_)
    refine bs_iconst hC (1 : Int32) dX10_doubt_56 rfl ?_
    exact bs_iret hC dX10_doubt_57 rfl
  refine bs_iconst hC (0 : Int32) dX10_doubt_34 rfl ?_
  refine bs_iload_n hC 2 dX10_doubt_35 rfl rfl ?_
  refine bs_icmp_ne hC 41 dX10_doubt_36 (by decide) (fun c13 => ?_) (fun c13 => ?_)
  · refine bs_iconst hC (0 : Int32) dX10_doubt_39 rfl ?_
    exact bs_iret hC dX10_doubt_40 rfl
  refine bs_aload_n hC 0 dX10_doubt_41 rfl rfl ?_
  refine bs_get hC (v := .ref (bd_a ε (1 + 11))) hin_X10 0 (cM_o0 ε S2) rfl 19 (by decide) mw_579 rfl dX10_doubt_42 ?_
  refine bs_iload_n hC 1 dX10_doubt_45 rfl rfl ?_
  refine bs_iload_n hC 2 dX10_doubt_46 rfl rfl ?_
  refine bs_if_eq hC 54 dX10_doubt_47 (by decide) (fun c12 => ?_) (fun c12 => ?_)
  · refine bs_iconst hC (0 : Int32) dX10_doubt_54 rfl ?_
    refine bs_iast hC _ (cM_gi ε S2 11 10 (by decide) rfl) (cM_si ε S2 11 10 (by decide) rfl _) dX10_doubt_55 (fun S10 eS10 => ?_)
    refine bs_iconst hC (1 : Int32) dX10_doubt_56 rfl ?_
    exact bs_iret hC dX10_doubt_57 rfl
  refine bs_iconst hC (1 : Int32) dX10_doubt_50 rfl ?_
  refine bs_goto hC 55 dX10_doubt_51 (by decide) ?_
  refine bs_iast hC _ (cM_gi ε S2 11 10 (by decide) rfl) (cM_si ε S2 11 10 (by decide) rfl _) dX10_doubt_55 (fun S11 eS11 => ?_)
  refine bs_iconst hC (1 : Int32) dX10_doubt_56 rfl ?_
  exact bs_iret hC dX10_doubt_57 rfl
theorem c_X10_doubt (l : Launch) (D : va_G) (ε : bd_E) (x1 : Int32) (x2 : Int32)  (S : bd_T) (h0 : (f_X10_doubt x1 x2 S).isSome = true) : bd_Con l yX10_doubt (Cond.code yX10_doubt cX10_doubt 3 (some .int) :: bd_tbl) ({ frames := 1, cells := 0, slots := 0, locals := 22 } : Room) D ε (cM ε) bd_vi [.ref (bd_a ε 0), .int x1, .int x2] S (f_X10_doubt x1 x2 S) :=
  bd_con (by decide +kernel) (Nat.le_of_ble_eq_true rfl) ⟨rfl, rfl⟩ h0 (fun Γ _ _ hC => bs_eq bs_bs (b_X10_doubt hC x1 x2 S))
set_option maxRecDepth 100000 in
set_option maxHeartbeats 4000000 in
theorem b_X10_join {Γ : bd_G} {ε : bd_E} {t0 : Option (Int32 × bd_T)} (hC : bd_C Γ cX10_join 6 RX10 (some .int) ({ frames := 1, cells := 0, slots := 0, locals := 22 } : Room) ε (cM ε) bd_vi t0) (x1 : Int32) (x2 : Int32) (x3 : Int32) (x4 : Int32)  (S : bd_T) : bd_S Γ 6 t0 ((f_X10_join x1 x2 x3 x4 S).bind some) (cM ε S) 0 [(0, .ref (bd_a ε 0)), (1, .int x1), (2, .int x2), (3, .int x3), (4, .int x4)] [] := by
  unfold f_X10_join
  refine bs_aload_n hC 0 dX10_join_0 rfl rfl ?_
  refine bs_iload_n hC 1 dX10_join_1 rfl rfl ?_
  refine bs_callV_i hC (rm := ({ frames := 0, cells := 0, slots := 0, locals := 0 } : Room)) [.int x1] [] (fun h => c_X10_isThing (bd_l Γ) (bd_D Γ) ε x1 S h) mw_670 mw_668 mw_669 mw_82 mw_52 (cM_o0 ε S) rfl by_X10_isThing ⟨rfl, rfl, by decide, by decide⟩ rfl rfl (Nat.le_of_ble_eq_true rfl) dX10_join_2 (fun r1 S2 eS2 => ?_)
  refine bs_if_eq hC 18 dX10_join_5 (by decide) (fun c26 => ?_) (fun c26 => ?_)
  · refine bs_aload_n hC 0 dX10_join_18 rfl rfl ?_
    refine bs_iconst hC (-1 : Int32) dX10_join_19 rfl ?_
    refine bs_callV_i hC (rm := ({ frames := 0, cells := 0, slots := 0, locals := 0 } : Room)) [.int (-1 : Int32)] [] (fun h => c_X10_no (bd_l Γ) (bd_D Γ) ε (-1 : Int32) S2 h) mw_646 mw_644 mw_645 mw_82 mw_48 (cM_o0 ε S2) rfl by_X10_no ⟨rfl, rfl, by decide, by decide⟩ rfl rfl (Nat.le_of_ble_eq_true rfl) dX10_join_20 (fun r3 S4 eS4 => ?_)
    exact bs_iret hC dX10_join_23 rfl
  refine bs_iload_n hC 2 dX10_join_8 rfl rfl ?_
  refine bs_iconst hC (-1 : Int32) dX10_join_9 rfl ?_
  refine bs_icmp_lt hC 18 dX10_join_10 (by decide) (fun c25 => ?_) (fun c25 => ?_)
  · refine bs_aload_n hC 0 dX10_join_18 rfl rfl ?_
    refine bs_iconst hC (-1 : Int32) dX10_join_19 rfl ?_
    refine bs_callV_i hC (rm := ({ frames := 0, cells := 0, slots := 0, locals := 0 } : Room)) [.int (-1 : Int32)] [] (fun h => c_X10_no (bd_l Γ) (bd_D Γ) ε (-1 : Int32) S2 h) mw_646 mw_644 mw_645 mw_82 mw_48 (cM_o0 ε S2) rfl by_X10_no ⟨rfl, rfl, by decide, by decide⟩ rfl rfl (Nat.le_of_ble_eq_true rfl) dX10_join_20 (fun r5 S6 eS6 => ?_)
    exact bs_iret hC dX10_join_23 rfl
  refine bs_iload_n hC 2 dX10_join_13 rfl rfl ?_
  refine bs_iload_n hC 1 dX10_join_14 rfl rfl ?_
  refine bs_icmp_lt hC 24 dX10_join_15 (by decide) (fun c24 => ?_) (fun c24 => ?_)
  · refine bs_iload_n hC 2 dX10_join_24 rfl rfl ?_
    refine bs_if_lt hC 82 dX10_join_25 (by decide) (fun c21 => ?_) (fun c21 => ?_)
    · refine bs_aload_n hC 0 dX10_join_82 rfl rfl ?_
      refine bs_get hC (v := .ref (bd_a ε (1 + 12))) hin_X10 0 (cM_o0 ε S2) rfl 21 (by decide) mw_581 rfl dX10_join_83 ?_
      refine bs_iload_n hC 1 dX10_join_86 rfl rfl ?_
      refine bs_iload_n hC 2 dX10_join_87 rfl rfl ?_
      refine bs_iast hC _ (cM_gi ε S2 12 6 (by decide) rfl) (cM_si ε S2 12 6 (by decide) rfl _) dX10_join_88 (fun S7 eS7 => ?_)
      refine bs_iconst hC (1 : Int32) dX10_join_89 rfl ?_
      exact bs_iret hC dX10_join_90 rfl
    refine bs_iload_n hC 3 dX10_join_28 rfl rfl ?_
    refine bs_iconst hC (0 : Int32) dX10_join_29 rfl ?_
    refine bs_iconst hC (3 : Int32) dX10_join_30 rfl ?_
    refine bs_callS_i hC (rm := ({ frames := 0, cells := 0, slots := 0, locals := 0 } : Room)) [.int x3, .int (0 : Int32), .int (3 : Int32)] [] (fun h => c_X10_isIn (bd_l Γ) (bd_D Γ) ε x3 (0 : Int32) (3 : Int32) S2 h) mw_663 mw_661 mw_662 mw_82 by_X10_isIn ⟨rfl, rfl, by decide, by decide⟩ rfl rfl (Nat.le_of_ble_eq_true rfl) dX10_join_31 (fun r8 S9 eS9 => ?_)
    refine bs_if_ne hC 44 dX10_join_34 (by decide) (fun c20 => ?_) (fun c20 => ?_)
    · refine bs_aload_n hC 0 dX10_join_37 rfl rfl ?_
      refine bs_bipush hC (-2 : Int32) dX10_join_38 rfl ?_
      refine bs_callV_i hC (rm := ({ frames := 0, cells := 0, slots := 0, locals := 0 } : Room)) [.int (-2 : Int32)] [] (fun h => c_X10_no (bd_l Γ) (bd_D Γ) ε (-2 : Int32) S9 h) mw_646 mw_644 mw_645 mw_82 mw_48 (cM_o0 ε S9) rfl by_X10_no ⟨rfl, rfl, by decide, by decide⟩ rfl rfl (Nat.le_of_ble_eq_true rfl) dX10_join_40 (fun r10 S11 eS11 => ?_)
      exact bs_iret hC dX10_join_43 rfl
    refine bs_iload hC 4 dX10_join_44 rfl ?_
    refine bs_iconst hC (0 : Int32) dX10_join_46 rfl ?_
    refine bs_sipush hC (299 : Int32) dX10_join_47 rfl ?_
    refine bs_callS_i hC (rm := ({ frames := 0, cells := 0, slots := 0, locals := 0 } : Room)) [.int x4, .int (0 : Int32), .int (299 : Int32)] [] (fun h => c_X10_out (bd_l Γ) (bd_D Γ) ε x4 (0 : Int32) (299 : Int32) S9 h) mw_643 mw_641 mw_642 mw_82 by_X10_out ⟨rfl, rfl, by decide, by decide⟩ rfl rfl (Nat.le_of_ble_eq_true rfl) dX10_join_50 (fun r12 S13 eS13 => ?_)
    refine bs_istore hC [(5, .int r12), (0, .ref (bd_a ε 0)), (1, .int x1), (2, .int x2), (3, .int x3), (4, .int x4)] dX10_join_53 (by decide) rfl ?_
    refine bs_iload hC 0 dX10_join_55 rfl ?_
    refine bs_if_eq hC 67 dX10_join_57 (by decide) (fun c19 => ?_) (fun c19 => ?_)
    · refine bs_aload_n hC 1 dX10_join_67 rfl rfl ?_
      refine bs_get hC (v := .ref (bd_a ε (1 + 13))) hin_X10 0 (cM_o0 ε S13) rfl 22 (by decide) mw_582 rfl dX10_join_68 ?_
      refine bs_iload_n hC 2 dX10_join_71 rfl rfl ?_
      refine bs_iload_n hC 4 dX10_join_72 rfl rfl ?_
      refine bs_iast hC _ (cM_gi ε S13 13 6 (by decide) rfl) (cM_si ε S13 13 6 (by decide) rfl _) dX10_join_73 (fun S14 eS14 => ?_)
      refine bs_aload_n hC 1 dX10_join_74 rfl rfl ?_
      refine bs_get hC (v := .ref (bd_a ε (1 + 14))) hin_X10 0 (cM_o0 ε S14) rfl 23 (by decide) mw_583 rfl dX10_join_75 ?_
      refine bs_iload_n hC 2 dX10_join_78 rfl rfl ?_
      refine bs_iload hC 5 dX10_join_79 rfl ?_
      refine bs_iast hC _ (cM_gi ε S14 14 6 (by decide) rfl) (cM_si ε S14 14 6 (by decide) rfl _) dX10_join_81 (fun S15 eS15 => ?_)
      refine bs_aload_n hC 1 dX10_join_82 rfl rfl ?_
      refine bs_get hC (v := .ref (bd_a ε (1 + 12))) hin_X10 0 (cM_o0 ε S15) rfl 21 (by decide) mw_581 rfl dX10_join_83 ?_
      refine bs_iload_n hC 2 dX10_join_86 rfl rfl ?_
      refine bs_iload_n hC 3 dX10_join_87 rfl rfl ?_
      refine bs_iast hC _ (cM_gi ε S15 12 6 (by decide) rfl) (cM_si ε S15 12 6 (by decide) rfl _) dX10_join_88 (fun S16 eS16 => ?_)
      refine bs_iconst hC (1 : Int32) dX10_join_89 rfl ?_
      exact bs_iret hC dX10_join_90 rfl
    refine bs_aload_n hC 1 dX10_join_60 rfl rfl ?_
    refine bs_iload hC 0 dX10_join_61 rfl ?_
    refine bs_callV_i hC (rm := ({ frames := 0, cells := 0, slots := 0, locals := 0 } : Room)) [.int r12] [] (fun h => c_X10_no (bd_l Γ) (bd_D Γ) ε r12 S13 h) mw_646 mw_644 mw_645 mw_82 mw_48 (cM_o0 ε S13) rfl by_X10_no ⟨rfl, rfl, by decide, by decide⟩ rfl rfl (Nat.le_of_ble_eq_true rfl) dX10_join_63 (fun r17 S18 eS18 => ?_)
    exact bs_iret hC dX10_join_66 rfl
  refine bs_aload_n hC 0 dX10_join_18 rfl rfl ?_
  refine bs_iconst hC (-1 : Int32) dX10_join_19 rfl ?_
  refine bs_callV_i hC (rm := ({ frames := 0, cells := 0, slots := 0, locals := 0 } : Room)) [.int (-1 : Int32)] [] (fun h => c_X10_no (bd_l Γ) (bd_D Γ) ε (-1 : Int32) S2 h) mw_646 mw_644 mw_645 mw_82 mw_48 (cM_o0 ε S2) rfl by_X10_no ⟨rfl, rfl, by decide, by decide⟩ rfl rfl (Nat.le_of_ble_eq_true rfl) dX10_join_20 (fun r22 S23 eS23 => ?_)
  exact bs_iret hC dX10_join_23 rfl
theorem c_X10_join (l : Launch) (D : va_G) (ε : bd_E) (x1 : Int32) (x2 : Int32) (x3 : Int32) (x4 : Int32)  (S : bd_T) (h0 : (f_X10_join x1 x2 x3 x4 S).isSome = true) : bd_Con l yX10_join (Cond.code yX10_join cX10_join 6 (some .int) :: bd_tbl) ({ frames := 1, cells := 0, slots := 0, locals := 22 } : Room) D ε (cM ε) bd_vi [.ref (bd_a ε 0), .int x1, .int x2, .int x3, .int x4] S (f_X10_join x1 x2 x3 x4 S) :=
  bd_con (by decide +kernel) (Nat.le_of_ble_eq_true rfl) ⟨rfl, rfl⟩ h0 (fun Γ _ _ hC => bs_eq bs_bs (b_X10_join hC x1 x2 x3 x4 S))
set_option maxRecDepth 100000 in
set_option maxHeartbeats 4000000 in
theorem b_X10_letsBy {Γ : bd_G} {ε : bd_E} {t0 : Option (Int32 × bd_T)} (hC : bd_C Γ cX10_letsBy 4 RX10 (some .boolean) ({ frames := 2, cells := 0, slots := 0, locals := 49 } : Room) ε (cM ε) bd_vi t0) (x1 : Int32) (x2 : Int32)  (S : bd_T) : bd_S Γ 4 t0 ((f_X10_letsBy x1 x2 S).bind some) (cM ε S) 0 [(0, .ref (bd_a ε 0)), (1, .int x1), (2, .int x2)] [] := by
  unfold f_X10_letsBy
  refine bs_iload_n hC 2 dX10_letsBy_0 rfl rfl ?_
  refine bs_aload_n hC 0 dX10_letsBy_1 rfl rfl ?_
  refine bs_get hC (v := .ref (bd_a ε (1 + 8))) hin_X10 0 (cM_o0 ε S) rfl 16 (by decide) mw_576 rfl dX10_letsBy_2 ?_
  refine bs_iload_n hC 1 dX10_letsBy_5 rfl rfl ?_
  refine bs_iald hC _ (cM_gi ε S 8 10 (by decide) rfl) dX10_letsBy_6 (fun z1 ez1 => ?_)
  refine bs_icmp_le hC 12 dX10_letsBy_7 (by decide) (fun c10 => ?_) (fun c10 => ?_)
  · refine bs_aload_n hC 0 dX10_letsBy_12 rfl rfl ?_
    refine bs_aload_n hC 0 dX10_letsBy_13 rfl rfl ?_
    refine bs_get hC (v := .ref (bd_a ε (1 + 7))) hin_X10 0 (cM_o0 ε S) rfl 15 (by decide) mw_575 rfl dX10_letsBy_14 ?_
    refine bs_iload_n hC 1 dX10_letsBy_17 rfl rfl ?_
    refine bs_iald hC _ (cM_gi ε S 7 10 (by decide) rfl) dX10_letsBy_18 (fun z2 ez2 => ?_)
    refine bs_iload_n hC 2 dX10_letsBy_19 rfl rfl ?_
    refine bs_aload_n hC 0 dX10_letsBy_20 rfl rfl ?_
    refine bs_get hC (v := .ref (bd_a ε (1 + 8))) hin_X10 0 (cM_o0 ε S) rfl 16 (by decide) mw_576 rfl dX10_letsBy_21 ?_
    refine bs_iload_n hC 1 dX10_letsBy_24 rfl rfl ?_
    refine bs_iald hC _ (cM_gi ε S 8 10 (by decide) rfl) dX10_letsBy_25 (fun z3 ez3 => ?_)
    refine bs_iload_n hC 2 dX10_letsBy_26 rfl rfl ?_
    refine bs_isub hC dX10_letsBy_27 ?_
    refine bs_callV_i hC (rm := ({ frames := 1, cells := 0, slots := 0, locals := 24 } : Room)) [.int z2, .int x2, .int (z3 - x2)] [] (fun h => c_X10_leftOf (bd_l Γ) (bd_D Γ) ε z2 x2 (z3 - x2) S h) mw_692 mw_690 mw_691 mw_82 mw_53 (cM_o0 ε S) rfl by_X10_leftOf ⟨rfl, rfl, by decide, by decide⟩ rfl rfl (Nat.le_of_ble_eq_true rfl) dX10_letsBy_28 (fun r4 S5 eS5 => ?_)
    refine bs_istore_n hC [(3, .int r4), (0, .ref (bd_a ε 0)), (1, .int x1), (2, .int x2)] dX10_letsBy_31 rfl (by decide) rfl ?_
    refine bs_iload_n hC 0 dX10_letsBy_32 rfl rfl ?_
    refine bs_aload_n hC 1 dX10_letsBy_33 rfl rfl ?_
    refine bs_get hC (v := .ref (bd_a ε (1 + 9))) hin_X10 0 (cM_o0 ε S5) rfl 17 (by decide) mw_577 rfl dX10_letsBy_34 ?_
    refine bs_iload_n hC 2 dX10_letsBy_37 rfl rfl ?_
    refine bs_iald hC _ (cM_gi ε S5 9 10 (by decide) rfl) dX10_letsBy_38 (fun z6 ez6 => ?_)
    refine bs_icmp_lt hC 56 dX10_letsBy_39 (by decide) (fun c9 => ?_) (fun c9 => ?_)
    · refine bs_iconst hC (0 : Int32) dX10_letsBy_56 rfl ?_
      exact bs_zret hC dX10_letsBy_57 rfl rfl
    refine bs_iload_n hC 0 dX10_letsBy_42 rfl rfl ?_
    refine bs_aload_n hC 1 dX10_letsBy_43 rfl rfl ?_
    refine bs_get hC (v := .ref (bd_a ε (1 + 10))) hin_X10 0 (cM_o0 ε S5) rfl 18 (by decide) mw_578 rfl dX10_letsBy_44 ?_
    refine bs_iload_n hC 2 dX10_letsBy_47 rfl rfl ?_
    refine bs_iald hC _ (cM_gi ε S5 10 10 (by decide) rfl) dX10_letsBy_48 (fun z7 ez7 => ?_)
    refine bs_icmp_gt hC 56 dX10_letsBy_49 (by decide) (fun c8 => ?_) (fun c8 => ?_)
    · refine bs_iconst hC (0 : Int32) dX10_letsBy_56 rfl ?_
      exact bs_zret hC dX10_letsBy_57 rfl rfl
    refine bs_iconst hC (1 : Int32) dX10_letsBy_52 rfl ?_
    refine bs_goto hC 57 dX10_letsBy_53 (by decide) ?_
    exact bs_zret hC dX10_letsBy_57 rfl rfl
  refine bs_iconst hC (0 : Int32) dX10_letsBy_10 rfl ?_
  exact bs_zret hC dX10_letsBy_11 rfl rfl
theorem c_X10_letsBy (l : Launch) (D : va_G) (ε : bd_E) (x1 : Int32) (x2 : Int32)  (S : bd_T) (h0 : (f_X10_letsBy x1 x2 S).isSome = true) : bd_Con l yX10_letsBy (Cond.code yX10_letsBy cX10_letsBy 4 (some .boolean) :: bd_tbl) ({ frames := 2, cells := 0, slots := 0, locals := 49 } : Room) D ε (cM ε) bd_vi [.ref (bd_a ε 0), .int x1, .int x2] S (f_X10_letsBy x1 x2 S) :=
  bd_con (by decide +kernel) (Nat.le_of_ble_eq_true rfl) ⟨rfl, rfl⟩ h0 (fun Γ _ _ hC => bs_eq bs_bs (b_X10_letsBy hC x1 x2 S))
set_option maxRecDepth 100000 in
set_option maxHeartbeats 4000000 in
theorem lb_X10_finds_25 {Γ : bd_G} {ε : bd_E} {t0 : Option (Unit × bd_T)} (hC : bd_C Γ cX10_finds 3 RX10 none ({ frames := 3, cells := 0, slots := 0, locals := 72 } : Room) ε (cM ε) bd_vv t0) (p1 : Int32) {K : (Int32 × bd_T) ⊕ (bd_T) → Option (Unit × bd_T)} (hk : ∀ (x2 : Int32) (S : bd_T), bd_S Γ 3 t0 (K (.inl (x2, S))) (cM ε S) 25 [(0, .ref (bd_a ε 0)), (1, .int p1), (2, .int x2)] []) (hx : ∀ (S : bd_T), bd_S Γ 3 t0 (K (.inr S)) (cM ε S) 56 [(0, .ref (bd_a ε 0)), (1, .int p1)] []) (x2 : Int32) (S : bd_T) : bd_S Γ 3 t0 ((fb_X10_finds_25 p1 x2 S).bind K) (cM ε S) 25 [(0, .ref (bd_a ε 0)), (1, .int p1), (2, .int x2)] [] := by
  unfold fb_X10_finds_25
  refine bs_iload_n hC 2 dX10_finds_25 rfl rfl ?_
  refine bs_sipush hC (300 : Int32) dX10_finds_26 rfl ?_
  refine bs_icmp_ge hC 56 dX10_finds_29 (by decide) (fun c5 => ?_) (fun c5 => ?_)
  · refine bs_some ?_
    refine bs_pick [0, 1] rfl ?_
    exact hx S
  refine bs_aload_n hC 0 dX10_finds_32 rfl rfl ?_
  refine bs_get hC (v := .ref (bd_a ε 21)) hin_X10 0 (cM_o0 ε S) rfl 24 (by decide) mw_584 rfl dX10_finds_33 ?_
  refine bs_sipush hC (300 : Int32) dX10_finds_36 rfl ?_
  refine bs_iload_n hC 1 dX10_finds_39 rfl rfl ?_
  refine bs_imul hC dX10_finds_40 ?_
  refine bs_iload_n hC 2 dX10_finds_41 rfl rfl ?_
  refine bs_iadd hC dX10_finds_42 ?_
  refine bs_aload_n hC 0 dX10_finds_43 rfl rfl ?_
  refine bs_iload_n hC 1 dX10_finds_44 rfl rfl ?_
  refine bs_iload_n hC 2 dX10_finds_45 rfl rfl ?_
  refine bs_callV_i hC (rm := ({ frames := 2, cells := 0, slots := 0, locals := 49 } : Room)) [.int p1, .int x2] [.int (((300 : Int32) * p1) + x2), .ref (bd_a ε 21)] (fun h => c_X10_letsBy (bd_l Γ) (bd_D Γ) ε p1 x2 S h) mw_720 mw_718 mw_719 mw_82 mw_57 (cM_o0 ε S) rfl by_X10_letsBy ⟨rfl, rfl, by decide, by decide⟩ rfl rfl (Nat.le_of_ble_eq_true rfl) dX10_finds_46 (fun r2 S3 eS3 => ?_)
  refine bs_zast hC _ (cM_gz ε S3 0 3000 (by decide) rfl) (cM_sz ε S3 0 3000 (by decide) rfl) dX10_finds_49 (fun S4 eS4 => ?_)
  refine bs_iinc hC 2 [(2, .int (x2 + 1)), (0, .ref (bd_a ε 0)), (1, .int p1)] dX10_finds_50 rfl rfl (by decide) rfl ?_
  refine bs_goto hC 25 dX10_finds_53 (by decide) ?_
  refine bs_some ?_
  refine bs_pick [1, 2, 0] rfl ?_
  exact hk (x2 + 1) S4
set_option maxRecDepth 100000 in
set_option maxHeartbeats 4000000 in
theorem lb_X10_finds_15 {Γ : bd_G} {ε : bd_E} {t0 : Option (Unit × bd_T)} (hC : bd_C Γ cX10_finds 3 RX10 none ({ frames := 3, cells := 0, slots := 0, locals := 72 } : Room) ε (cM ε) bd_vv t0)  {K : (Int32 × bd_T) ⊕ (bd_T) → Option (Unit × bd_T)} (hk : ∀ (x1 : Int32) (S : bd_T), bd_S Γ 3 t0 (K (.inl (x1, S))) (cM ε S) 15 [(0, .ref (bd_a ε 0)), (1, .int x1)] []) (hx : ∀ (S : bd_T), bd_S Γ 3 t0 (K (.inr S)) (cM ε S) 62 [] []) (x1 : Int32) (S : bd_T) : bd_S Γ 3 t0 ((fb_X10_finds_15 x1 S).bind K) (cM ε S) 15 [(0, .ref (bd_a ε 0)), (1, .int x1)] [] := by
  unfold fb_X10_finds_15
  refine bs_iload_n hC 1 dX10_finds_15 rfl rfl ?_
  refine bs_aload_n hC 0 dX10_finds_16 rfl rfl ?_
  refine bs_get hC (v := .int (bd_I S 8)) hin_X10 0 (cM_o0 ε S) rfl 20 (by decide) mw_580 rfl dX10_finds_17 ?_
  refine bs_icmp_ge hC 62 dX10_finds_20 (by decide) (fun c7 => ?_) (fun c7 => ?_)
  · refine bs_some ?_
    refine bs_pick [] rfl ?_
    exact hx S
  refine bs_iconst hC (0 : Int32) dX10_finds_23 rfl ?_
  refine bs_istore_n hC [(2, .int (0 : Int32)), (0, .ref (bd_a ε 0)), (1, .int x1)] dX10_finds_24 rfl (by decide) rfl ?_
  refine bs_pick [1, 2, 0] rfl ?_
  refine bs_loopK (fun (q : Int32 × bd_T) t => bd_S Γ 3 t0 t (cM ε (q.2)) 25 [(0, .ref (bd_a ε 0)), (1, .int x1), (2, .int (q.1))] []) (fun (q : bd_T) t => bd_S Γ 3 t0 t (cM ε (q)) 56 [(0, .ref (bd_a ε 0)), (1, .int x1)] []) (fun q => fb_X10_finds_25 x1 q.1 q.2) (fun _ => bs_none) (fun K hk hx q => lb_X10_finds_25 hC   x1 (fun a0 S => hk (a0, S)) (fun  S => hx (S))  (q.1) (q.2)) (fun r => ?_) bd_K ((0 : Int32), S)
  obtain ⟨S6, rfl⟩ : ∃ z, z = r := ⟨_, rfl⟩
  show bd_S Γ 3 t0 (Option.bind _ _) (cM ε S6) 56 [(0, .ref (bd_a ε 0)), (1, .int x1)] []
  try dsimp only
  refine bs_iinc hC 1 [(1, .int (x1 + 1)), (0, .ref (bd_a ε 0))] dX10_finds_56 rfl rfl (by decide) rfl ?_
  refine bs_goto hC 15 dX10_finds_59 (by decide) ?_
  refine bs_some ?_
  refine bs_pick [1, 0] rfl ?_
  exact hk (x1 + 1) S6
set_option maxRecDepth 100000 in
set_option maxHeartbeats 4000000 in
theorem b_X10_finds {Γ : bd_G} {ε : bd_E} {t0 : Option (Unit × bd_T)} (hC : bd_C Γ cX10_finds 3 RX10 none ({ frames := 3, cells := 0, slots := 0, locals := 72 } : Room) ε (cM ε) bd_vv t0)  (S : bd_T) : bd_S Γ 3 t0 ((f_X10_finds S).bind some) (cM ε S) 0 [(0, .ref (bd_a ε 0))] [] := by
  unfold f_X10_finds
  refine bs_aload_n hC 0 dX10_finds_0 rfl rfl ?_
  refine bs_get hC (v := .int (bd_I S 7)) hin_X10 0 (cM_o0 ε S) rfl 14 (by decide) mw_574 rfl dX10_finds_1 ?_
  refine bs_if_ne hC 8 dX10_finds_4 (by decide) (fun c9 => ?_) (fun c9 => ?_)
  · exact bs_vret hC dX10_finds_7 rfl
  refine bs_aload_n hC 0 dX10_finds_8 rfl rfl ?_
  refine bs_iconst hC (0 : Int32) dX10_finds_9 rfl ?_
  refine bs_put hC (kk := 7) hin_X10 tyX10 tyX10_ok nmX10 0 (cM_o0 ε S) rfl 14 (by decide) mw_574 rfl rfl rfl (Nat.le_of_ble_eq_true rfl) (cM_p7 ε S _) dX10_finds_10 (fun S1 eS1 => ?_)
  refine bs_iconst hC (0 : Int32) dX10_finds_13 rfl ?_
  refine bs_istore_n hC [(1, .int (0 : Int32)), (0, .ref (bd_a ε 0))] dX10_finds_14 rfl (by decide) rfl ?_
  refine bs_pick [1, 0] rfl ?_
  refine bs_loopK (fun (q : Int32 × bd_T) t => bd_S Γ 3 t0 t (cM ε (q.2)) 15 [(0, .ref (bd_a ε 0)), (1, .int (q.1))] []) (fun (q : bd_T) t => bd_S Γ 3 t0 t (cM ε (q)) 62 [] []) (fun q => fb_X10_finds_15 q.1 q.2) (fun _ => bs_none) (fun K hk hx q => lb_X10_finds_15 hC    (fun a0 S => hk (a0, S)) (fun  S => hx (S))  (q.1) (q.2)) (fun r => ?_) bd_K ((0 : Int32), S1)
  obtain ⟨S8, rfl⟩ : ∃ z, z = r := ⟨_, rfl⟩
  show bd_S Γ 3 t0 (Option.bind _ _) (cM ε S8) 62 [] []
  try dsimp only
  exact bs_vret hC dX10_finds_62 rfl
theorem c_X10_finds (l : Launch) (D : va_G) (ε : bd_E)  (S : bd_T) (h0 : (f_X10_finds S).isSome = true) : bd_Con l yX10_finds (Cond.code yX10_finds cX10_finds 3 none :: bd_tbl) ({ frames := 3, cells := 0, slots := 0, locals := 72 } : Room) D ε (cM ε) bd_vv [.ref (bd_a ε 0)] S (f_X10_finds S) :=
  bd_con (by decide +kernel) (Nat.le_of_ble_eq_true rfl) ⟨rfl, rfl⟩ h0 (fun Γ _ _ hC => bs_eq bs_bs (b_X10_finds hC S))
set_option maxRecDepth 100000 in
set_option maxHeartbeats 4000000 in
theorem lb_X10_frees_7 {Γ : bd_G} {ε : bd_E} {t0 : Option (Unit × bd_T)} (hC : bd_C Γ cX10_frees 2 RX10 none ({ frames := 0, cells := 0, slots := 0, locals := 0 } : Room) ε (cM ε) bd_vv t0)  {K : (Int32 × bd_T) ⊕ (bd_T) → Option (Unit × bd_T)} (hk : ∀ (x1 : Int32) (S : bd_T), bd_S Γ 2 t0 (K (.inl (x1, S))) (cM ε S) 7 [(0, .ref (bd_a ε 0)), (1, .int x1)] []) (hx : ∀ (S : bd_T), bd_S Γ 2 t0 (K (.inr S)) (cM ε S) 35 [] []) (x1 : Int32) (S : bd_T) : bd_S Γ 2 t0 ((fb_X10_frees_7 x1 S).bind K) (cM ε S) 7 [(0, .ref (bd_a ε 0)), (1, .int x1)] [] := by
  unfold fb_X10_frees_7
  refine bs_iload_n hC 1 dX10_frees_7 rfl rfl ?_
  refine bs_bipush hC (6 : Int32) dX10_frees_8 rfl ?_
  refine bs_icmp_ge hC 35 dX10_frees_10 (by decide) (fun c4 => ?_) (fun c4 => ?_)
  · refine bs_some ?_
    refine bs_pick [] rfl ?_
    exact hx S
  refine bs_aload_n hC 0 dX10_frees_13 rfl rfl ?_
  refine bs_get hC (v := .ref (bd_a ε (1 + 15))) hin_X10 0 (cM_o0 ε S) rfl 25 (by decide) mw_585 rfl dX10_frees_14 ?_
  refine bs_iload_n hC 1 dX10_frees_17 rfl rfl ?_
  refine bs_iconst hC (0 : Int32) dX10_frees_18 rfl ?_
  refine bs_iast hC _ (cM_gi ε S 15 6 (by decide) rfl) (cM_si ε S 15 6 (by decide) rfl _) dX10_frees_19 (fun S2 eS2 => ?_)
  refine bs_aload_n hC 0 dX10_frees_20 rfl rfl ?_
  refine bs_get hC (v := .ref (bd_a ε (1 + 16))) hin_X10 0 (cM_o0 ε S2) rfl 26 (by decide) mw_586 rfl dX10_frees_21 ?_
  refine bs_iload_n hC 1 dX10_frees_24 rfl rfl ?_
  refine bs_sipush hC (299 : Int32) dX10_frees_25 rfl ?_
  refine bs_iast hC _ (cM_gi ε S2 16 6 (by decide) rfl) (cM_si ε S2 16 6 (by decide) rfl _) dX10_frees_28 (fun S3 eS3 => ?_)
  refine bs_iinc hC 1 [(1, .int (x1 + 1)), (0, .ref (bd_a ε 0))] dX10_frees_29 rfl rfl (by decide) rfl ?_
  refine bs_goto hC 7 dX10_frees_32 (by decide) ?_
  refine bs_some ?_
  refine bs_pick [1, 0] rfl ?_
  exact hk (x1 + 1) S3
set_option maxRecDepth 100000 in
set_option maxHeartbeats 4000000 in
theorem b_X10_frees {Γ : bd_G} {ε : bd_E} {t0 : Option (Unit × bd_T)} (hC : bd_C Γ cX10_frees 2 RX10 none ({ frames := 0, cells := 0, slots := 0, locals := 0 } : Room) ε (cM ε) bd_vv t0)  (S : bd_T) : bd_S Γ 2 t0 ((f_X10_frees S).bind some) (cM ε S) 0 [(0, .ref (bd_a ε 0))] [] := by
  unfold f_X10_frees
  refine bs_aload_n hC 0 dX10_frees_0 rfl rfl ?_
  refine bs_iconst hC (0 : Int32) dX10_frees_1 rfl ?_
  refine bs_put hC (kk := 9) hin_X10 tyX10 tyX10_ok nmX10 0 (cM_o0 ε S) rfl 29 (by decide) mw_589 rfl rfl rfl (Nat.le_of_ble_eq_true rfl) (cM_p9 ε S _) dX10_frees_2 (fun S1 eS1 => ?_)
  refine bs_iconst hC (0 : Int32) dX10_frees_5 rfl ?_
  refine bs_istore_n hC [(1, .int (0 : Int32)), (0, .ref (bd_a ε 0))] dX10_frees_6 rfl (by decide) rfl ?_
  refine bs_pick [1, 0] rfl ?_
  refine bs_loopK (fun (q : Int32 × bd_T) t => bd_S Γ 2 t0 t (cM ε (q.2)) 7 [(0, .ref (bd_a ε 0)), (1, .int (q.1))] []) (fun (q : bd_T) t => bd_S Γ 2 t0 t (cM ε (q)) 35 [] []) (fun q => fb_X10_frees_7 q.1 q.2) (fun _ => bs_none) (fun K hk hx q => lb_X10_frees_7 hC    (fun a0 S => hk (a0, S)) (fun  S => hx (S))  (q.1) (q.2)) (fun r => ?_) bd_K ((0 : Int32), S1)
  obtain ⟨S5, rfl⟩ : ∃ z, z = r := ⟨_, rfl⟩
  show bd_S Γ 2 t0 (Option.bind _ _) (cM ε S5) 35 [] []
  try dsimp only
  exact bs_vret hC dX10_frees_35 rfl
theorem c_X10_frees (l : Launch) (D : va_G) (ε : bd_E)  (S : bd_T) (h0 : (f_X10_frees S).isSome = true) : bd_Con l yX10_frees (Cond.code yX10_frees cX10_frees 2 none :: bd_tbl) ({ frames := 0, cells := 0, slots := 0, locals := 0 } : Room) D ε (cM ε) bd_vv [.ref (bd_a ε 0)] S (f_X10_frees S) :=
  bd_con (by decide +kernel) (Nat.le_of_ble_eq_true rfl) ⟨rfl, rfl⟩ h0 (fun Γ _ _ hC => bs_eq bs_bs (b_X10_frees hC S))
set_option maxRecDepth 100000 in
set_option maxHeartbeats 4000000 in
theorem b_X10_counts {Γ : bd_G} {ε : bd_E} {t0 : Option (Int32 × bd_T)} (hC : bd_C Γ cX10_counts 2 RX10 (some .boolean) ({ frames := 0, cells := 0, slots := 0, locals := 0 } : Room) ε (cM ε) bd_vi t0) (x1 : Int32)  (S : bd_T) : bd_S Γ 2 t0 ((f_X10_counts x1 S).bind some) (cM ε S) 0 [(0, .ref (bd_a ε 0)), (1, .int x1)] [] := by
  unfold f_X10_counts
  refine bs_aload_n hC 0 dX10_counts_0 rfl rfl ?_
  refine bs_get hC (v := .ref (bd_a ε (1 + 11))) hin_X10 0 (cM_o0 ε S) rfl 19 (by decide) mw_579 rfl dX10_counts_1 ?_
  refine bs_iload_n hC 1 dX10_counts_4 rfl rfl ?_
  refine bs_iald hC _ (cM_gi ε S 11 10 (by decide) rfl) dX10_counts_5 (fun z1 ez1 => ?_)
  refine bs_if_ne hC 24 dX10_counts_6 (by decide) (fun c3 => ?_) (fun c3 => ?_)
  · refine bs_aload_n hC 0 dX10_counts_9 rfl rfl ?_
    refine bs_get hC (v := .int (bd_I S 9)) hin_X10 0 (cM_o0 ε S) rfl 29 (by decide) mw_589 rfl dX10_counts_10 ?_
    refine bs_iload_n hC 1 dX10_counts_13 rfl rfl ?_
    refine bs_ishr hC dX10_counts_14 ?_
    refine bs_iconst hC (1 : Int32) dX10_counts_15 rfl ?_
    refine bs_iand hC dX10_counts_16 ?_
    refine bs_if_ne hC 24 dX10_counts_17 (by decide) (fun c2 => ?_) (fun c2 => ?_)
    · refine bs_iconst hC (1 : Int32) dX10_counts_20 rfl ?_
      refine bs_goto hC 25 dX10_counts_21 (by decide) ?_
      exact bs_zret hC dX10_counts_25 rfl rfl
    refine bs_iconst hC (0 : Int32) dX10_counts_24 rfl ?_
    exact bs_zret hC dX10_counts_25 rfl rfl
  refine bs_iconst hC (0 : Int32) dX10_counts_24 rfl ?_
  exact bs_zret hC dX10_counts_25 rfl rfl
theorem c_X10_counts (l : Launch) (D : va_G) (ε : bd_E) (x1 : Int32)  (S : bd_T) (h0 : (f_X10_counts x1 S).isSome = true) : bd_Con l yX10_counts (Cond.code yX10_counts cX10_counts 2 (some .boolean) :: bd_tbl) ({ frames := 0, cells := 0, slots := 0, locals := 0 } : Room) D ε (cM ε) bd_vi [.ref (bd_a ε 0), .int x1] S (f_X10_counts x1 S) :=
  bd_con (by decide +kernel) (Nat.le_of_ble_eq_true rfl) ⟨rfl, rfl⟩ h0 (fun Γ _ _ hC => bs_eq bs_bs (b_X10_counts hC x1 S))
set_option maxRecDepth 100000 in
set_option maxHeartbeats 4000000 in
theorem lb_X10_canOf_24 {Γ : bd_G} {ε : bd_E} {t0 : Option (Int32 × bd_T)} (hC : bd_C Γ cX10_canOf 4 RX10 (some .boolean) ({ frames := 1, cells := 0, slots := 0, locals := 21 } : Room) ε (cM ε) bd_vi t0) (p1 : Int32) (p2 : Int32) {K : (Int32 × bd_T) ⊕ ((Int32 × bd_T) ⊕ (bd_T)) → Option (Int32 × bd_T)} (hk : ∀ (x3 : Int32) (S : bd_T), bd_S Γ 4 t0 (K (.inl (x3, S))) (cM ε S) 24 [(0, .ref (bd_a ε 0)), (1, .int p1), (2, .int p2), (3, .int x3)] []) (hx : ∀ (S : bd_T), bd_S Γ 4 t0 (K (.inr (.inr S))) (cM ε S) 73 [] []) (hr : ∀ z, K (.inr (.inl z)) = some z) (x3 : Int32) (S : bd_T) : bd_S Γ 4 t0 ((fb_X10_canOf_24 p1 p2 x3 S).bind K) (cM ε S) 24 [(0, .ref (bd_a ε 0)), (1, .int p1), (2, .int p2), (3, .int x3)] [] := by
  unfold fb_X10_canOf_24
  refine bs_iload_n hC 3 dX10_canOf_24 rfl rfl ?_
  refine bs_aload_n hC 0 dX10_canOf_25 rfl rfl ?_
  refine bs_get hC (v := .int (bd_I S 8)) hin_X10 0 (cM_o0 ε S) rfl 20 (by decide) mw_580 rfl dX10_canOf_26 ?_
  refine bs_icmp_ge hC 73 dX10_canOf_29 (by decide) (fun c10 => ?_) (fun c10 => ?_)
  · refine bs_some ?_
    refine bs_pick [] rfl ?_
    exact hx S
  refine bs_aload_n hC 0 dX10_canOf_32 rfl rfl ?_
  refine bs_get hC (v := .ref (bd_a ε (1 + 7))) hin_X10 0 (cM_o0 ε S) rfl 15 (by decide) mw_575 rfl dX10_canOf_33 ?_
  refine bs_iload_n hC 3 dX10_canOf_36 rfl rfl ?_
  refine bs_iald hC _ (cM_gi ε S 7 10 (by decide) rfl) dX10_canOf_37 (fun z3 ez3 => ?_)
  refine bs_iload_n hC 1 dX10_canOf_38 rfl rfl ?_
  refine bs_icmp_ne hC 67 dX10_canOf_39 (by decide) (fun c9 => ?_) (fun c9 => ?_)
  · refine bs_aload_n hC 0 dX10_canOf_42 rfl rfl ?_
    refine bs_iload_n hC 3 dX10_canOf_43 rfl rfl ?_
    refine bs_callV_i hC (rm := ({ frames := 0, cells := 0, slots := 0, locals := 0 } : Room)) [.int x3] [] (fun h => c_X10_counts (bd_l Γ) (bd_D Γ) ε x3 S h) mw_729 mw_727 mw_728 mw_82 mw_60 (cM_o0 ε S) rfl by_X10_counts ⟨rfl, rfl, by decide, by decide⟩ rfl rfl (Nat.le_of_ble_eq_true rfl) dX10_canOf_44 (fun r4 S5 eS5 => ?_)
    refine bs_if_eq hC 67 dX10_canOf_47 (by decide) (fun c8 => ?_) (fun c8 => ?_)
    · refine bs_iinc hC 3 [(3, .int (x3 + 1)), (0, .ref (bd_a ε 0)), (1, .int p1), (2, .int p2)] dX10_canOf_67 rfl rfl (by decide) rfl ?_
      refine bs_goto hC 24 dX10_canOf_70 (by decide) ?_
      refine bs_some ?_
      refine bs_pick [1, 2, 3, 0] rfl ?_
      exact hk (x3 + 1) S5
    refine bs_aload_n hC 0 dX10_canOf_50 rfl rfl ?_
    refine bs_get hC (v := .ref (bd_a ε 21)) hin_X10 0 (cM_o0 ε S5) rfl 24 (by decide) mw_584 rfl dX10_canOf_51 ?_
    refine bs_sipush hC (300 : Int32) dX10_canOf_54 rfl ?_
    refine bs_iload_n hC 3 dX10_canOf_57 rfl rfl ?_
    refine bs_imul hC dX10_canOf_58 ?_
    refine bs_iload_n hC 2 dX10_canOf_59 rfl rfl ?_
    refine bs_iadd hC dX10_canOf_60 ?_
    refine bs_zald hC _ (cM_gz ε S5 0 3000 (by decide) rfl) dX10_canOf_61 (fun z6 ez6 => ?_)
    refine bs_if_ne hC 67 dX10_canOf_62 (by decide) (fun c7 => ?_) (fun c7 => ?_)
    · refine bs_iconst hC (0 : Int32) dX10_canOf_65 rfl ?_
      exact bs_zret hC dX10_canOf_66 rfl (hr _)
    refine bs_iinc hC 3 [(3, .int (x3 + 1)), (0, .ref (bd_a ε 0)), (1, .int p1), (2, .int p2)] dX10_canOf_67 rfl rfl (by decide) rfl ?_
    refine bs_goto hC 24 dX10_canOf_70 (by decide) ?_
    refine bs_some ?_
    refine bs_pick [1, 2, 3, 0] rfl ?_
    exact hk (x3 + 1) S5
  refine bs_iinc hC 3 [(3, .int (x3 + 1)), (0, .ref (bd_a ε 0)), (1, .int p1), (2, .int p2)] dX10_canOf_67 rfl rfl (by decide) rfl ?_
  refine bs_goto hC 24 dX10_canOf_70 (by decide) ?_
  refine bs_some ?_
  refine bs_pick [1, 2, 3, 0] rfl ?_
  exact hk (x3 + 1) S
set_option maxRecDepth 100000 in
set_option maxHeartbeats 4000000 in
theorem b_X10_canOf {Γ : bd_G} {ε : bd_E} {t0 : Option (Int32 × bd_T)} (hC : bd_C Γ cX10_canOf 4 RX10 (some .boolean) ({ frames := 1, cells := 0, slots := 0, locals := 21 } : Room) ε (cM ε) bd_vi t0) (x1 : Int32) (x2 : Int32)  (S : bd_T) : bd_S Γ 4 t0 ((f_X10_canOf x1 x2 S).bind some) (cM ε S) 0 [(0, .ref (bd_a ε 0)), (1, .int x1), (2, .int x2)] [] := by
  unfold f_X10_canOf
  refine bs_iload_n hC 2 dX10_canOf_0 rfl rfl ?_
  refine bs_aload_n hC 0 dX10_canOf_1 rfl rfl ?_
  refine bs_get hC (v := .ref (bd_a ε (1 + 15))) hin_X10 0 (cM_o0 ε S) rfl 25 (by decide) mw_585 rfl dX10_canOf_2 ?_
  refine bs_iload_n hC 1 dX10_canOf_5 rfl rfl ?_
  refine bs_iald hC _ (cM_gi ε S 15 6 (by decide) rfl) dX10_canOf_6 (fun z1 ez1 => ?_)
  refine bs_icmp_lt hC 20 dX10_canOf_7 (by decide) (fun c13 => ?_) (fun c13 => ?_)
  · refine bs_iconst hC (0 : Int32) dX10_canOf_20 rfl ?_
    exact bs_zret hC dX10_canOf_21 rfl rfl
  refine bs_iload_n hC 2 dX10_canOf_10 rfl rfl ?_
  refine bs_aload_n hC 0 dX10_canOf_11 rfl rfl ?_
  refine bs_get hC (v := .ref (bd_a ε (1 + 16))) hin_X10 0 (cM_o0 ε S) rfl 26 (by decide) mw_586 rfl dX10_canOf_12 ?_
  refine bs_iload_n hC 1 dX10_canOf_15 rfl rfl ?_
  refine bs_iald hC _ (cM_gi ε S 16 6 (by decide) rfl) dX10_canOf_16 (fun z2 ez2 => ?_)
  refine bs_icmp_le hC 22 dX10_canOf_17 (by decide) (fun c12 => ?_) (fun c12 => ?_)
  · refine bs_iconst hC (0 : Int32) dX10_canOf_22 rfl ?_
    refine bs_istore_n hC [(3, .int (0 : Int32)), (0, .ref (bd_a ε 0)), (1, .int x1), (2, .int x2)] dX10_canOf_23 rfl (by decide) rfl ?_
    refine bs_pick [1, 2, 3, 0] rfl ?_
    refine bs_loopK (fun (q : Int32 × bd_T) t => bd_S Γ 4 t0 t (cM ε (q.2)) 24 [(0, .ref (bd_a ε 0)), (1, .int x1), (2, .int x2), (3, .int (q.1))] []) (fun (q : (Int32 × bd_T) ⊕ (bd_T)) t => Sum.elim (fun (z : Int32 × bd_T) => t = some z) (fun (q : bd_T) => bd_S Γ 4 t0 t (cM ε (q)) 73 [] []) q) (fun q => fb_X10_canOf_24 x1 x2 q.1 q.2) (fun _ => bs_none) (fun K hk hx q => lb_X10_canOf_24 hC   x1 x2 (fun a0 S => hk (a0, S)) (fun  S => hx (.inr (S))) (fun z => hx (.inl z)) (q.1) (q.2)) (fun r => ?_) bd_K ((0 : Int32), S)
    rcases r with r | r
    · exact rfl
    obtain ⟨S11, rfl⟩ : ∃ z, z = r := ⟨_, rfl⟩
    show bd_S Γ 4 t0 (Option.bind _ _) (cM ε S11) 73 [] []
    try dsimp only [Sum.elim_inr]
    refine bs_iconst hC (1 : Int32) dX10_canOf_73 rfl ?_
    exact bs_zret hC dX10_canOf_74 rfl rfl
  refine bs_iconst hC (0 : Int32) dX10_canOf_20 rfl ?_
  exact bs_zret hC dX10_canOf_21 rfl rfl
theorem c_X10_canOf (l : Launch) (D : va_G) (ε : bd_E) (x1 : Int32) (x2 : Int32)  (S : bd_T) (h0 : (f_X10_canOf x1 x2 S).isSome = true) : bd_Con l yX10_canOf (Cond.code yX10_canOf cX10_canOf 4 (some .boolean) :: bd_tbl) ({ frames := 1, cells := 0, slots := 0, locals := 21 } : Room) D ε (cM ε) bd_vi [.ref (bd_a ε 0), .int x1, .int x2] S (f_X10_canOf x1 x2 S) :=
  bd_con (by decide +kernel) (Nat.le_of_ble_eq_true rfl) ⟨rfl, rfl⟩ h0 (fun Γ _ _ hC => bs_eq bs_bs (b_X10_canOf hC x1 x2 S))
set_option maxRecDepth 100000 in
set_option maxHeartbeats 4000000 in
theorem lb_X10_alone_26 {Γ : bd_G} {ε : bd_E} {t0 : Option (Int32 × bd_T)} (hC : bd_C Γ cX10_alone 4 RX10 (some .int) ({ frames := 4, cells := 0, slots := 0, locals := 94 } : Room) ε (cM ε) bd_vi t0) (p1 : Int32) {K : (Int32 × Int32 × bd_T) ⊕ (Int32 × bd_T) → Option (Int32 × bd_T)} (hk : ∀ (x2 : Int32) (x3 : Int32) (S : bd_T), bd_S Γ 4 t0 (K (.inl (x2, x3, S))) (cM ε S) 26 [(0, .ref (bd_a ε 0)), (1, .int p1), (2, .int x2), (3, .int x3)] []) (hx : ∀ (y2 : Int32) (S : bd_T), bd_S Γ 4 t0 (K (.inr (y2, S))) (cM ε S) 56 [(2, .int y2)] []) (x2 : Int32) (x3 : Int32) (S : bd_T) : bd_S Γ 4 t0 ((fb_X10_alone_26 p1 x2 x3 S).bind K) (cM ε S) 26 [(0, .ref (bd_a ε 0)), (1, .int p1), (2, .int x2), (3, .int x3)] [] := by
  unfold fb_X10_alone_26
  refine bs_iload_n hC 3 dX10_alone_26 rfl rfl ?_
  refine bs_sipush hC (300 : Int32) dX10_alone_27 rfl ?_
  refine bs_icmp_ge hC 56 dX10_alone_30 (by decide) (fun c14 => ?_) (fun c14 => ?_)
  · refine bs_some ?_
    refine bs_pick [2] rfl ?_
    exact hx x2 S
  refine bs_iload_n hC 2 dX10_alone_33 rfl rfl ?_
  refine bs_aload_n hC 0 dX10_alone_34 rfl rfl ?_
  refine bs_iload_n hC 1 dX10_alone_35 rfl rfl ?_
  refine bs_iload_n hC 3 dX10_alone_36 rfl rfl ?_
  refine bs_callV_i hC (rm := ({ frames := 1, cells := 0, slots := 0, locals := 21 } : Room)) [.int p1, .int x3] [.int x2] (fun h => c_X10_canOf (bd_l Γ) (bd_D Γ) ε p1 x3 S h) mw_726 mw_724 mw_725 mw_82 mw_59 (cM_o0 ε S) rfl by_X10_canOf ⟨rfl, rfl, by decide, by decide⟩ rfl rfl (Nat.le_of_ble_eq_true rfl) dX10_alone_37 (fun r9 S10 eS10 => ?_)
  refine bs_if_eq hC 47 dX10_alone_40 (by decide) (fun c13 => ?_) (fun c13 => ?_)
  · refine bs_iconst hC (0 : Int32) dX10_alone_47 rfl ?_
    refine bs_iadd hC dX10_alone_48 ?_
    refine bs_leti (fun z11 ez11 => ?_)
    refine bs_istore_n hC [(2, .int z11), (0, .ref (bd_a ε 0)), (1, .int p1), (3, .int x3)] dX10_alone_49 rfl (by decide) rfl ?_
    refine bs_iinc hC 3 [(3, .int (x3 + 1)), (2, .int z11), (0, .ref (bd_a ε 0)), (1, .int p1)] dX10_alone_50 rfl rfl (by decide) rfl ?_
    refine bs_goto hC 26 dX10_alone_53 (by decide) ?_
    refine bs_some ?_
    refine bs_pick [2, 3, 1, 0] rfl ?_
    exact hk z11 (x3 + 1) S10
  refine bs_iconst hC (1 : Int32) dX10_alone_43 rfl ?_
  refine bs_goto hC 48 dX10_alone_44 (by decide) ?_
  refine bs_iadd hC dX10_alone_48 ?_
  refine bs_leti (fun z12 ez12 => ?_)
  refine bs_istore_n hC [(2, .int z12), (0, .ref (bd_a ε 0)), (1, .int p1), (3, .int x3)] dX10_alone_49 rfl (by decide) rfl ?_
  refine bs_iinc hC 3 [(3, .int (x3 + 1)), (2, .int z12), (0, .ref (bd_a ε 0)), (1, .int p1)] dX10_alone_50 rfl rfl (by decide) rfl ?_
  refine bs_goto hC 26 dX10_alone_53 (by decide) ?_
  refine bs_some ?_
  refine bs_pick [2, 3, 1, 0] rfl ?_
  exact hk z12 (x3 + 1) S10
set_option maxRecDepth 100000 in
set_option maxHeartbeats 4000000 in
theorem b_X10_alone {Γ : bd_G} {ε : bd_E} {t0 : Option (Int32 × bd_T)} (hC : bd_C Γ cX10_alone 4 RX10 (some .int) ({ frames := 4, cells := 0, slots := 0, locals := 94 } : Room) ε (cM ε) bd_vi t0) (x1 : Int32)  (S : bd_T) : bd_S Γ 4 t0 ((f_X10_alone x1 S).bind some) (cM ε S) 0 [(0, .ref (bd_a ε 0)), (1, .int x1)] [] := by
  unfold f_X10_alone
  refine bs_aload_n hC 0 dX10_alone_0 rfl rfl ?_
  refine bs_iload_n hC 1 dX10_alone_1 rfl rfl ?_
  refine bs_callV_i hC (rm := ({ frames := 0, cells := 0, slots := 0, locals := 0 } : Room)) [.int x1] [] (fun h => c_X10_isThing (bd_l Γ) (bd_D Γ) ε x1 S h) mw_670 mw_668 mw_669 mw_82 mw_52 (cM_o0 ε S) rfl by_X10_isThing ⟨rfl, rfl, by decide, by decide⟩ rfl rfl (Nat.le_of_ble_eq_true rfl) dX10_alone_2 (fun r1 S2 eS2 => ?_)
  refine bs_if_ne hC 14 dX10_alone_5 (by decide) (fun c17 => ?_) (fun c17 => ?_)
  · refine bs_aload_n hC 0 dX10_alone_8 rfl rfl ?_
    refine bs_iconst hC (-1 : Int32) dX10_alone_9 rfl ?_
    refine bs_callV_i hC (rm := ({ frames := 0, cells := 0, slots := 0, locals := 0 } : Room)) [.int (-1 : Int32)] [] (fun h => c_X10_no (bd_l Γ) (bd_D Γ) ε (-1 : Int32) S2 h) mw_646 mw_644 mw_645 mw_82 mw_48 (cM_o0 ε S2) rfl by_X10_no ⟨rfl, rfl, by decide, by decide⟩ rfl rfl (Nat.le_of_ble_eq_true rfl) dX10_alone_10 (fun r3 S4 eS4 => ?_)
    exact bs_iret hC dX10_alone_13 rfl
  refine bs_aload_n hC 0 dX10_alone_14 rfl rfl ?_
  refine bs_callV_v hC (rm := ({ frames := 3, cells := 0, slots := 0, locals := 72 } : Room)) [] [] (fun h => c_X10_finds (bd_l Γ) (bd_D Γ) ε S2 h) mw_717 mw_715 mw_716 mw_82 mw_56 (cM_o0 ε S2) rfl by_X10_finds ⟨rfl, rfl, by decide, by decide⟩ rfl rfl (Nat.le_of_ble_eq_true rfl) dX10_alone_15 (fun r5 S6 eS6 => ?_)
  refine bs_aload_n hC 0 dX10_alone_18 rfl rfl ?_
  refine bs_callV_v hC (rm := ({ frames := 0, cells := 0, slots := 0, locals := 0 } : Room)) [] [] (fun h => c_X10_frees (bd_l Γ) (bd_D Γ) ε S6 h) mw_723 mw_721 mw_722 mw_82 mw_58 (cM_o0 ε S6) rfl by_X10_frees ⟨rfl, rfl, by decide, by decide⟩ rfl rfl (Nat.le_of_ble_eq_true rfl) dX10_alone_19 (fun r7 S8 eS8 => ?_)
  refine bs_iconst hC (0 : Int32) dX10_alone_22 rfl ?_
  refine bs_istore_n hC [(2, .int (0 : Int32)), (0, .ref (bd_a ε 0)), (1, .int x1)] dX10_alone_23 rfl (by decide) rfl ?_
  refine bs_iconst hC (0 : Int32) dX10_alone_24 rfl ?_
  refine bs_istore_n hC [(3, .int (0 : Int32)), (2, .int (0 : Int32)), (0, .ref (bd_a ε 0)), (1, .int x1)] dX10_alone_25 rfl (by decide) rfl ?_
  refine bs_pick [2, 3, 1, 0] rfl ?_
  refine bs_loopK (fun (q : Int32 × Int32 × bd_T) t => bd_S Γ 4 t0 t (cM ε (q.2.2)) 26 [(0, .ref (bd_a ε 0)), (1, .int x1), (2, .int (q.1)), (3, .int (q.2.1))] []) (fun (q : Int32 × bd_T) t => bd_S Γ 4 t0 t (cM ε (q.2)) 56 [(2, .int (q.1))] []) (fun q => fb_X10_alone_26 x1 q.1 q.2.1 q.2.2) (fun _ => bs_none) (fun K hk hx q => lb_X10_alone_26 hC   x1 (fun a0 a1 S => hk (a0, a1, S)) (fun b0 S => hx (b0, S))  (q.1) (q.2.1) (q.2.2)) (fun r => ?_) bd_K ((0 : Int32), (0 : Int32), S8)
  obtain ⟨y15, S16⟩ := r
  show bd_S Γ 4 t0 (Option.bind _ _) (cM ε S16) 56 [(2, .int y15)] []
  try dsimp only
  refine bs_iload_n hC 0 dX10_alone_56 rfl rfl ?_
  exact bs_iret hC dX10_alone_57 rfl
theorem c_X10_alone (l : Launch) (D : va_G) (ε : bd_E) (x1 : Int32)  (S : bd_T) (h0 : (f_X10_alone x1 S).isSome = true) : bd_Con l yX10_alone (Cond.code yX10_alone cX10_alone 4 (some .int) :: bd_tbl) ({ frames := 4, cells := 0, slots := 0, locals := 94 } : Room) D ε (cM ε) bd_vi [.ref (bd_a ε 0), .int x1] S (f_X10_alone x1 S) :=
  bd_con (by decide +kernel) (Nat.le_of_ble_eq_true rfl) ⟨rfl, rfl⟩ h0 (fun Γ _ _ hC => bs_eq bs_bs (b_X10_alone hC x1 S))
set_option maxRecDepth 100000 in
set_option maxHeartbeats 4000000 in
theorem b_X10_can {Γ : bd_G} {ε : bd_E} {t0 : Option (Int32 × bd_T)} (hC : bd_C Γ cX10_can 4 RX10 (some .int) ({ frames := 4, cells := 0, slots := 0, locals := 94 } : Room) ε (cM ε) bd_vi t0) (x1 : Int32) (x2 : Int32)  (S : bd_T) : bd_S Γ 4 t0 ((f_X10_can x1 x2 S).bind some) (cM ε S) 0 [(0, .ref (bd_a ε 0)), (1, .int x1), (2, .int x2)] [] := by
  unfold f_X10_can
  refine bs_aload_n hC 0 dX10_can_0 rfl rfl ?_
  refine bs_iload_n hC 1 dX10_can_1 rfl rfl ?_
  refine bs_callV_i hC (rm := ({ frames := 0, cells := 0, slots := 0, locals := 0 } : Room)) [.int x1] [] (fun h => c_X10_isThing (bd_l Γ) (bd_D Γ) ε x1 S h) mw_670 mw_668 mw_669 mw_82 mw_52 (cM_o0 ε S) rfl by_X10_isThing ⟨rfl, rfl, by decide, by decide⟩ rfl rfl (Nat.le_of_ble_eq_true rfl) dX10_can_2 (fun r1 S2 eS2 => ?_)
  refine bs_if_ne hC 14 dX10_can_5 (by decide) (fun c17 => ?_) (fun c17 => ?_)
  · refine bs_aload_n hC 0 dX10_can_8 rfl rfl ?_
    refine bs_iconst hC (-1 : Int32) dX10_can_9 rfl ?_
    refine bs_callV_i hC (rm := ({ frames := 0, cells := 0, slots := 0, locals := 0 } : Room)) [.int (-1 : Int32)] [] (fun h => c_X10_no (bd_l Γ) (bd_D Γ) ε (-1 : Int32) S2 h) mw_646 mw_644 mw_645 mw_82 mw_48 (cM_o0 ε S2) rfl by_X10_no ⟨rfl, rfl, by decide, by decide⟩ rfl rfl (Nat.le_of_ble_eq_true rfl) dX10_can_10 (fun r3 S4 eS4 => ?_)
    exact bs_iret hC dX10_can_13 rfl
  refine bs_iload_n hC 2 dX10_can_14 rfl rfl ?_
  refine bs_iconst hC (0 : Int32) dX10_can_15 rfl ?_
  refine bs_sipush hC (299 : Int32) dX10_can_16 rfl ?_
  refine bs_callS_i hC (rm := ({ frames := 0, cells := 0, slots := 0, locals := 0 } : Room)) [.int x2, .int (0 : Int32), .int (299 : Int32)] [] (fun h => c_X10_out (bd_l Γ) (bd_D Γ) ε x2 (0 : Int32) (299 : Int32) S2 h) mw_643 mw_641 mw_642 mw_82 by_X10_out ⟨rfl, rfl, by decide, by decide⟩ rfl rfl (Nat.le_of_ble_eq_true rfl) dX10_can_19 (fun r5 S6 eS6 => ?_)
  refine bs_istore_n hC [(3, .int r5), (0, .ref (bd_a ε 0)), (1, .int x1), (2, .int x2)] dX10_can_22 rfl (by decide) rfl ?_
  refine bs_iload_n hC 0 dX10_can_23 rfl rfl ?_
  refine bs_if_eq hC 33 dX10_can_24 (by decide) (fun c16 => ?_) (fun c16 => ?_)
  · refine bs_aload_n hC 1 dX10_can_33 rfl rfl ?_
    refine bs_callV_v hC (rm := ({ frames := 3, cells := 0, slots := 0, locals := 72 } : Room)) [] [] (fun h => c_X10_finds (bd_l Γ) (bd_D Γ) ε S6 h) mw_717 mw_715 mw_716 mw_82 mw_56 (cM_o0 ε S6) rfl by_X10_finds ⟨rfl, rfl, by decide, by decide⟩ rfl rfl (Nat.le_of_ble_eq_true rfl) dX10_can_34 (fun r7 S8 eS8 => ?_)
    refine bs_aload_n hC 1 dX10_can_37 rfl rfl ?_
    refine bs_callV_v hC (rm := ({ frames := 0, cells := 0, slots := 0, locals := 0 } : Room)) [] [] (fun h => c_X10_frees (bd_l Γ) (bd_D Γ) ε S8 h) mw_723 mw_721 mw_722 mw_82 mw_58 (cM_o0 ε S8) rfl by_X10_frees ⟨rfl, rfl, by decide, by decide⟩ rfl rfl (Nat.le_of_ble_eq_true rfl) dX10_can_38 (fun r9 S10 eS10 => ?_)
    refine bs_aload_n hC 1 dX10_can_41 rfl rfl ?_
    refine bs_iload_n hC 2 dX10_can_42 rfl rfl ?_
    refine bs_iload_n hC 3 dX10_can_43 rfl rfl ?_
    refine bs_callV_i hC (rm := ({ frames := 1, cells := 0, slots := 0, locals := 21 } : Room)) [.int x1, .int x2] [] (fun h => c_X10_canOf (bd_l Γ) (bd_D Γ) ε x1 x2 S10 h) mw_726 mw_724 mw_725 mw_82 mw_59 (cM_o0 ε S10) rfl by_X10_canOf ⟨rfl, rfl, by decide, by decide⟩ rfl rfl (Nat.le_of_ble_eq_true rfl) dX10_can_44 (fun r11 S12 eS12 => ?_)
    refine bs_if_eq hC 54 dX10_can_47 (by decide) (fun c13 => ?_) (fun c13 => ?_)
    · refine bs_iconst hC (0 : Int32) dX10_can_54 rfl ?_
      exact bs_iret hC dX10_can_55 rfl
    refine bs_iconst hC (1 : Int32) dX10_can_50 rfl ?_
    refine bs_goto hC 55 dX10_can_51 (by decide) ?_
    exact bs_iret hC dX10_can_55 rfl
  refine bs_aload_n hC 1 dX10_can_27 rfl rfl ?_
  refine bs_iload_n hC 0 dX10_can_28 rfl rfl ?_
  refine bs_callV_i hC (rm := ({ frames := 0, cells := 0, slots := 0, locals := 0 } : Room)) [.int r5] [] (fun h => c_X10_no (bd_l Γ) (bd_D Γ) ε r5 S6 h) mw_646 mw_644 mw_645 mw_82 mw_48 (cM_o0 ε S6) rfl by_X10_no ⟨rfl, rfl, by decide, by decide⟩ rfl rfl (Nat.le_of_ble_eq_true rfl) dX10_can_29 (fun r14 S15 eS15 => ?_)
  exact bs_iret hC dX10_can_32 rfl
theorem c_X10_can (l : Launch) (D : va_G) (ε : bd_E) (x1 : Int32) (x2 : Int32)  (S : bd_T) (h0 : (f_X10_can x1 x2 S).isSome = true) : bd_Con l yX10_can (Cond.code yX10_can cX10_can 4 (some .int) :: bd_tbl) ({ frames := 4, cells := 0, slots := 0, locals := 94 } : Room) D ε (cM ε) bd_vi [.ref (bd_a ε 0), .int x1, .int x2] S (f_X10_can x1 x2 S) :=
  bd_con (by decide +kernel) (Nat.le_of_ble_eq_true rfl) ⟨rfl, rfl⟩ h0 (fun Γ _ _ hC => bs_eq bs_bs (b_X10_can hC x1 x2 S))
set_option maxRecDepth 100000 in
set_option maxHeartbeats 4000000 in
theorem b_X10_between {Γ : bd_G} {ε : bd_E} {t0 : Option (Int64 × bd_T)} (hC : bd_C Γ cX10_between 5 RX10 (some .long) ({ frames := 0, cells := 0, slots := 0, locals := 0 } : Room) ε (cM ε) bd_vl t0) (x1 : Int32) (x2 : Int32)  (S : bd_T) : bd_S Γ 5 t0 ((f_X10_between x1 x2 S).bind some) (cM ε S) 0 [(0, .ref (bd_a ε 0)), (1, .int x1), (2, .int x2)] [] := by
  unfold f_X10_between
  refine bs_iload_n hC 1 dX10_between_0 rfl rfl ?_
  refine bs_if_ge hC 8 dX10_between_1 (by decide) (fun c14 => ?_) (fun c14 => ?_)
  · refine bs_iload_n hC 1 dX10_between_8 rfl rfl ?_
    refine bs_istore_n hC [(3, .int x1), (0, .ref (bd_a ε 0)), (1, .int x1), (2, .int x2)] dX10_between_9 rfl (by decide) rfl ?_
    refine bs_iload_n hC 3 dX10_between_10 rfl rfl ?_
    refine bs_sipush hC (300 : Int32) dX10_between_11 rfl ?_
    refine bs_icmp_lt hC 23 dX10_between_14 (by decide) (fun c7 => ?_) (fun c7 => ?_)
    · refine bs_iload_n hC 3 dX10_between_23 rfl rfl ?_
      refine bs_istore hC [(4, .int x2), (3, .int x1), (0, .ref (bd_a ε 0)), (1, .int x1), (2, .int x2)] dX10_between_24 (by decide) rfl ?_
      refine bs_iload_n hC 1 dX10_between_26 rfl rfl ?_
      refine bs_iload hC 0 dX10_between_27 rfl ?_
      refine bs_icmp_le hC 36 dX10_between_29 (by decide) (fun c3 => ?_) (fun c3 => ?_)
      · refine bs_aload_n hC 2 dX10_between_36 rfl rfl ?_
        refine bs_get hC (v := .ref (bd_a ε (23 + 1))) hin_X10 0 (cM_o0 ε S) rfl 28 (by decide) mw_588 rfl dX10_between_37 ?_
        refine bs_iload hC 0 dX10_between_40 rfl ?_
        refine bs_iconst hC (1 : Int32) dX10_between_42 rfl ?_
        refine bs_iadd hC dX10_between_43 ?_
        refine bs_lald hC _ (cM_gj ε S 1 301 (by decide) rfl) dX10_between_44 (fun z1 ez1 => ?_)
        refine bs_aload_n hC 2 dX10_between_45 rfl rfl ?_
        refine bs_get hC (v := .ref (bd_a ε (23 + 1))) hin_X10 0 (cM_o0 ε S) rfl 28 (by decide) mw_588 rfl dX10_between_46 ?_
        refine bs_iload_n hC 1 dX10_between_49 rfl rfl ?_
        refine bs_lald hC _ (cM_gj ε S 1 301 (by decide) rfl) dX10_between_50 (fun z2 ez2 => ?_)
        refine bs_lsub hC dX10_between_51 ?_
        exact bs_lret hC dX10_between_52 rfl
      refine bs_lconst hC (0 : Int64) dX10_between_32 rfl ?_
      refine bs_goto hC 52 dX10_between_33 (by decide) ?_
      exact bs_lret hC dX10_between_52 rfl
    refine bs_sipush hC (299 : Int32) dX10_between_17 rfl ?_
    refine bs_goto hC 24 dX10_between_20 (by decide) ?_
    refine bs_istore hC [(4, .int (299 : Int32)), (3, .int x1), (0, .ref (bd_a ε 0)), (1, .int x1), (2, .int x2)] dX10_between_24 (by decide) rfl ?_
    refine bs_iload_n hC 1 dX10_between_26 rfl rfl ?_
    refine bs_iload hC 0 dX10_between_27 rfl ?_
    refine bs_icmp_le hC 36 dX10_between_29 (by decide) (fun c6 => ?_) (fun c6 => ?_)
    · refine bs_aload_n hC 2 dX10_between_36 rfl rfl ?_
      refine bs_get hC (v := .ref (bd_a ε (23 + 1))) hin_X10 0 (cM_o0 ε S) rfl 28 (by decide) mw_588 rfl dX10_between_37 ?_
      refine bs_iload hC 0 dX10_between_40 rfl ?_
      refine bs_iconst hC (1 : Int32) dX10_between_42 rfl ?_
      refine bs_iadd hC dX10_between_43 ?_
      refine bs_lald hC _ (cM_gj ε S 1 301 (by decide) rfl) dX10_between_44 (fun z4 ez4 => ?_)
      refine bs_aload_n hC 2 dX10_between_45 rfl rfl ?_
      refine bs_get hC (v := .ref (bd_a ε (23 + 1))) hin_X10 0 (cM_o0 ε S) rfl 28 (by decide) mw_588 rfl dX10_between_46 ?_
      refine bs_iload_n hC 1 dX10_between_49 rfl rfl ?_
      refine bs_lald hC _ (cM_gj ε S 1 301 (by decide) rfl) dX10_between_50 (fun z5 ez5 => ?_)
      refine bs_lsub hC dX10_between_51 ?_
      exact bs_lret hC dX10_between_52 rfl
    refine bs_lconst hC (0 : Int64) dX10_between_32 rfl ?_
    refine bs_goto hC 52 dX10_between_33 (by decide) ?_
    exact bs_lret hC dX10_between_52 rfl
  refine bs_iconst hC (0 : Int32) dX10_between_4 rfl ?_
  refine bs_goto hC 9 dX10_between_5 (by decide) ?_
  refine bs_istore_n hC [(3, .int (0 : Int32)), (0, .ref (bd_a ε 0)), (1, .int x1), (2, .int x2)] dX10_between_9 rfl (by decide) rfl ?_
  refine bs_iload_n hC 3 dX10_between_10 rfl rfl ?_
  refine bs_sipush hC (300 : Int32) dX10_between_11 rfl ?_
  refine bs_icmp_lt hC 23 dX10_between_14 (by decide) (fun c13 => ?_) (fun c13 => ?_)
  · refine bs_iload_n hC 3 dX10_between_23 rfl rfl ?_
    refine bs_istore hC [(4, .int x2), (3, .int (0 : Int32)), (0, .ref (bd_a ε 0)), (1, .int x1), (2, .int x2)] dX10_between_24 (by decide) rfl ?_
    refine bs_iload_n hC 1 dX10_between_26 rfl rfl ?_
    refine bs_iload hC 0 dX10_between_27 rfl ?_
    refine bs_icmp_le hC 36 dX10_between_29 (by decide) (fun c10 => ?_) (fun c10 => ?_)
    · refine bs_aload_n hC 2 dX10_between_36 rfl rfl ?_
      refine bs_get hC (v := .ref (bd_a ε (23 + 1))) hin_X10 0 (cM_o0 ε S) rfl 28 (by decide) mw_588 rfl dX10_between_37 ?_
      refine bs_iload hC 0 dX10_between_40 rfl ?_
      refine bs_iconst hC (1 : Int32) dX10_between_42 rfl ?_
      refine bs_iadd hC dX10_between_43 ?_
      refine bs_lald hC _ (cM_gj ε S 1 301 (by decide) rfl) dX10_between_44 (fun z8 ez8 => ?_)
      refine bs_aload_n hC 2 dX10_between_45 rfl rfl ?_
      refine bs_get hC (v := .ref (bd_a ε (23 + 1))) hin_X10 0 (cM_o0 ε S) rfl 28 (by decide) mw_588 rfl dX10_between_46 ?_
      refine bs_iload_n hC 1 dX10_between_49 rfl rfl ?_
      refine bs_lald hC _ (cM_gj ε S 1 301 (by decide) rfl) dX10_between_50 (fun z9 ez9 => ?_)
      refine bs_lsub hC dX10_between_51 ?_
      exact bs_lret hC dX10_between_52 rfl
    refine bs_lconst hC (0 : Int64) dX10_between_32 rfl ?_
    refine bs_goto hC 52 dX10_between_33 (by decide) ?_
    exact bs_lret hC dX10_between_52 rfl
  refine bs_sipush hC (299 : Int32) dX10_between_17 rfl ?_
  refine bs_goto hC 24 dX10_between_20 (by decide) ?_
  refine bs_istore hC [(4, .int (299 : Int32)), (3, .int (0 : Int32)), (0, .ref (bd_a ε 0)), (1, .int x1), (2, .int x2)] dX10_between_24 (by decide) rfl ?_
  refine bs_iload_n hC 1 dX10_between_26 rfl rfl ?_
  refine bs_iload hC 0 dX10_between_27 rfl ?_
  refine bs_icmp_leT hC 36 dX10_between_29 (by decide) (by decide) ?_
  refine bs_aload_n hC 2 dX10_between_36 rfl rfl ?_
  refine bs_get hC (v := .ref (bd_a ε (23 + 1))) hin_X10 0 (cM_o0 ε S) rfl 28 (by decide) mw_588 rfl dX10_between_37 ?_
  refine bs_iload hC 0 dX10_between_40 rfl ?_
  refine bs_iconst hC (1 : Int32) dX10_between_42 rfl ?_
  refine bs_iadd hC dX10_between_43 ?_
  refine bs_lald hC _ (cM_gj ε S 1 301 (by decide) rfl) dX10_between_44 (fun z11 ez11 => ?_)
  refine bs_aload_n hC 2 dX10_between_45 rfl rfl ?_
  refine bs_get hC (v := .ref (bd_a ε (23 + 1))) hin_X10 0 (cM_o0 ε S) rfl 28 (by decide) mw_588 rfl dX10_between_46 ?_
  refine bs_iload_n hC 1 dX10_between_49 rfl rfl ?_
  refine bs_lald hC _ (cM_gj ε S 1 301 (by decide) rfl) dX10_between_50 (fun z12 ez12 => ?_)
  refine bs_lsub hC dX10_between_51 ?_
  exact bs_lret hC dX10_between_52 rfl
theorem c_X10_between (l : Launch) (D : va_G) (ε : bd_E) (x1 : Int32) (x2 : Int32)  (S : bd_T) (h0 : (f_X10_between x1 x2 S).isSome = true) : bd_Con l yX10_between (Cond.code yX10_between cX10_between 5 (some .long) :: bd_tbl) ({ frames := 0, cells := 0, slots := 0, locals := 0 } : Room) D ε (cM ε) bd_vl [.ref (bd_a ε 0), .int x1, .int x2] S (f_X10_between x1 x2 S) :=
  bd_con (by decide +kernel) (Nat.le_of_ble_eq_true rfl) ⟨rfl, rfl⟩ h0 (fun Γ _ _ hC => bs_eq bs_bs (b_X10_between hC x1 x2 S))
set_option maxRecDepth 100000 in
set_option maxHeartbeats 4000000 in
theorem b_X10_joined {Γ : bd_G} {ε : bd_E} {t0 : Option (Int64 × bd_T)} (hC : bd_C Γ cX10_joined 4 RX10 (some .long) ({ frames := 1, cells := 0, slots := 0, locals := 24 } : Room) ε (cM ε) bd_vl t0) (x1 : Int32) (x2 : Int32)  (S : bd_T) : bd_S Γ 4 t0 ((f_X10_joined x1 x2 S).bind some) (cM ε S) 0 [(0, .ref (bd_a ε 0)), (1, .int x1), (2, .int x2)] [] := by
  unfold f_X10_joined
  refine bs_aload_n hC 0 dX10_joined_0 rfl rfl ?_
  refine bs_get hC (v := .ref (bd_a ε (1 + 14))) hin_X10 0 (cM_o0 ε S) rfl 23 (by decide) mw_583 rfl dX10_joined_1 ?_
  refine bs_iload_n hC 1 dX10_joined_4 rfl rfl ?_
  refine bs_iald hC _ (cM_gi ε S 14 6 (by decide) rfl) dX10_joined_5 (fun z1 ez1 => ?_)
  refine bs_istore_n hC [(3, .int z1), (0, .ref (bd_a ε 0)), (1, .int x1), (2, .int x2)] dX10_joined_6 rfl (by decide) rfl ?_
  refine bs_aload_n hC 1 dX10_joined_7 rfl rfl ?_
  refine bs_get hC (v := .ref (bd_a ε (1 + 13))) hin_X10 0 (cM_o0 ε S) rfl 22 (by decide) mw_582 rfl dX10_joined_8 ?_
  refine bs_iload_n hC 2 dX10_joined_11 rfl rfl ?_
  refine bs_iald hC _ (cM_gi ε S 13 6 (by decide) rfl) dX10_joined_12 (fun z2 ez2 => ?_)
  refine bs_case (c := z2 = 0) (fun c3 => ?_) (fun c3 => ?_)
  · refine bs_tabIn hC (0 : Int32) (27) 40 dX10_joined_13 c3 (by decide) (by decide) rfl (by decide) ?_
    refine bs_aload_n hC 1 dX10_joined_40 rfl rfl ?_
    refine bs_iload_n hC 3 dX10_joined_41 rfl rfl ?_
    refine bs_iload_n hC 0 dX10_joined_42 rfl rfl ?_
    refine bs_iadd hC dX10_joined_43 ?_
    refine bs_iload_n hC 3 dX10_joined_44 rfl rfl ?_
    refine bs_iload_n hC 0 dX10_joined_45 rfl rfl ?_
    refine bs_iadd hC dX10_joined_46 ?_
    refine bs_callV_l hC (rm := ({ frames := 0, cells := 0, slots := 0, locals := 0 } : Room)) [.int (x2 + z1), .int (x2 + z1)] [] (fun h => c_X10_between (bd_l Γ) (bd_D Γ) ε (x2 + z1) (x2 + z1) S h) mw_746 mw_744 mw_745 mw_82 mw_63 (cM_o0 ε S) rfl by_X10_between ⟨rfl, rfl, by decide, by decide⟩ rfl rfl (Nat.le_of_ble_eq_true rfl) dX10_joined_47 (fun r4 S5 eS5 => ?_)
    exact bs_lret hC dX10_joined_50 rfl
  refine bs_case (c := z2 = 1) (fun c6 => ?_) (fun c6 => ?_)
  · refine bs_tabIn hC (1 : Int32) (38) 51 dX10_joined_13 c6 (by decide) (by decide) rfl (by decide) ?_
    refine bs_aload_n hC 1 dX10_joined_51 rfl rfl ?_
    refine bs_iload_n hC 3 dX10_joined_52 rfl rfl ?_
    refine bs_iload_n hC 0 dX10_joined_53 rfl rfl ?_
    refine bs_iadd hC dX10_joined_54 ?_
    refine bs_sipush hC (299 : Int32) dX10_joined_55 rfl ?_
    refine bs_callV_l hC (rm := ({ frames := 0, cells := 0, slots := 0, locals := 0 } : Room)) [.int (x2 + z1), .int (299 : Int32)] [] (fun h => c_X10_between (bd_l Γ) (bd_D Γ) ε (x2 + z1) (299 : Int32) S h) mw_746 mw_744 mw_745 mw_82 mw_63 (cM_o0 ε S) rfl by_X10_between ⟨rfl, rfl, by decide, by decide⟩ rfl rfl (Nat.le_of_ble_eq_true rfl) dX10_joined_58 (fun r7 S8 eS8 => ?_)
    exact bs_lret hC dX10_joined_61 rfl
  refine bs_case (c := z2 = 2) (fun c9 => ?_) (fun c9 => ?_)
  · refine bs_tabIn hC (2 : Int32) (49) 62 dX10_joined_13 c9 (by decide) (by decide) rfl (by decide) ?_
    refine bs_aload_n hC 1 dX10_joined_62 rfl rfl ?_
    refine bs_iconst hC (0 : Int32) dX10_joined_63 rfl ?_
    refine bs_iload_n hC 3 dX10_joined_64 rfl rfl ?_
    refine bs_iload_n hC 0 dX10_joined_65 rfl rfl ?_
    refine bs_isub hC dX10_joined_66 ?_
    refine bs_callV_l hC (rm := ({ frames := 0, cells := 0, slots := 0, locals := 0 } : Room)) [.int (0 : Int32), .int (x2 - z1)] [] (fun h => c_X10_between (bd_l Γ) (bd_D Γ) ε (0 : Int32) (x2 - z1) S h) mw_746 mw_744 mw_745 mw_82 mw_63 (cM_o0 ε S) rfl by_X10_between ⟨rfl, rfl, by decide, by decide⟩ rfl rfl (Nat.le_of_ble_eq_true rfl) dX10_joined_67 (fun r10 S11 eS11 => ?_)
    exact bs_lret hC dX10_joined_70 rfl
  refine bs_tabOut hC 71 dX10_joined_13 (by have h0 := lv_neT (k := (0 : Int32)) (a := 0) c3 rfl; have h1 := lv_neT (k := (1 : Int32)) (a := 1) c6 rfl; have h2 := lv_neT (k := (2 : Int32)) (a := 2) c9 rfl; omega) (by decide) ?_
  refine bs_aload_n hC 1 dX10_joined_71 rfl rfl ?_
  refine bs_iload_n hC 3 dX10_joined_72 rfl rfl ?_
  refine bs_iload_n hC 0 dX10_joined_73 rfl rfl ?_
  refine bs_isub hC dX10_joined_74 ?_
  refine bs_iload_n hC 3 dX10_joined_75 rfl rfl ?_
  refine bs_iload_n hC 0 dX10_joined_76 rfl rfl ?_
  refine bs_iadd hC dX10_joined_77 ?_
  refine bs_callV_l hC (rm := ({ frames := 0, cells := 0, slots := 0, locals := 0 } : Room)) [.int (x2 - z1), .int (x2 + z1)] [] (fun h => c_X10_between (bd_l Γ) (bd_D Γ) ε (x2 - z1) (x2 + z1) S h) mw_746 mw_744 mw_745 mw_82 mw_63 (cM_o0 ε S) rfl by_X10_between ⟨rfl, rfl, by decide, by decide⟩ rfl rfl (Nat.le_of_ble_eq_true rfl) dX10_joined_78 (fun r12 S13 eS13 => ?_)
  exact bs_lret hC dX10_joined_81 rfl
theorem c_X10_joined (l : Launch) (D : va_G) (ε : bd_E) (x1 : Int32) (x2 : Int32)  (S : bd_T) (h0 : (f_X10_joined x1 x2 S).isSome = true) : bd_Con l yX10_joined (Cond.code yX10_joined cX10_joined 4 (some .long) :: bd_tbl) ({ frames := 1, cells := 0, slots := 0, locals := 24 } : Room) D ε (cM ε) bd_vl [.ref (bd_a ε 0), .int x1, .int x2] S (f_X10_joined x1 x2 S) :=
  bd_con (by decide +kernel) (Nat.le_of_ble_eq_true rfl) ⟨rfl, rfl⟩ h0 (fun Γ _ _ hC => bs_eq bs_bs (b_X10_joined hC x1 x2 S))
set_option maxRecDepth 100000 in
set_option maxHeartbeats 4000000 in
theorem lb_X10_waysOf_2 {Γ : bd_G} {ε : bd_E} {t0 : Option (Int64 × bd_T)} (hC : bd_C Γ cX10_waysOf 5 RX10 (some .long) ({ frames := 2, cells := 0, slots := 0, locals := 47 } : Room) ε (cM ε) bd_vl t0)  {K : (Int32 × bd_T) ⊕ (bd_T) → Option (Int64 × bd_T)} (hk : ∀ (x1 : Int32) (S : bd_T), bd_S Γ 5 t0 (K (.inl (x1, S))) (cM ε S) 2 [(0, .ref (bd_a ε 0)), (1, .int x1)] []) (hx : ∀ (S : bd_T), bd_S Γ 5 t0 (K (.inr S)) (cM ε S) 27 [(0, .ref (bd_a ε 0))] []) (x1 : Int32) (S : bd_T) : bd_S Γ 5 t0 ((fb_X10_waysOf_2 x1 S).bind K) (cM ε S) 2 [(0, .ref (bd_a ε 0)), (1, .int x1)] [] := by
  unfold fb_X10_waysOf_2
  refine bs_iload_n hC 1 dX10_waysOf_2 rfl rfl ?_
  refine bs_sipush hC (300 : Int32) dX10_waysOf_3 rfl ?_
  refine bs_aload_n hC 0 dX10_waysOf_6 rfl rfl ?_
  refine bs_get hC (v := .int (bd_I S 2)) hin_X10 0 (cM_o0 ε S) rfl 7 (by decide) mw_567 rfl dX10_waysOf_7 ?_
  refine bs_imul hC dX10_waysOf_10 ?_
  refine bs_icmp_ge hC 27 dX10_waysOf_11 (by decide) (fun c2 => ?_) (fun c2 => ?_)
  · refine bs_some ?_
    refine bs_pick [0] rfl ?_
    exact hx S
  refine bs_aload_n hC 0 dX10_waysOf_14 rfl rfl ?_
  refine bs_get hC (v := .ref (bd_a ε (23 + 0))) hin_X10 0 (cM_o0 ε S) rfl 27 (by decide) mw_587 rfl dX10_waysOf_15 ?_
  refine bs_iload_n hC 1 dX10_waysOf_18 rfl rfl ?_
  refine bs_lconst hC (1 : Int64) dX10_waysOf_19 rfl ?_
  refine bs_last hC _ (cM_gj ε S 0 1800 (by decide) rfl) (cM_sj ε S 0 1800 (by decide) rfl _) dX10_waysOf_20 (fun S1 eS1 => ?_)
  refine bs_iinc hC 1 [(1, .int (x1 + 1)), (0, .ref (bd_a ε 0))] dX10_waysOf_21 rfl rfl (by decide) rfl ?_
  refine bs_goto hC 2 dX10_waysOf_24 (by decide) ?_
  refine bs_some ?_
  refine bs_pick [1, 0] rfl ?_
  exact hk (x1 + 1) S1
set_option maxRecDepth 100000 in
set_option maxHeartbeats 4000000 in
theorem lb_X10_waysOf_50 {Γ : bd_G} {ε : bd_E} {t0 : Option (Int64 × bd_T)} (hC : bd_C Γ cX10_waysOf 5 RX10 (some .long) ({ frames := 2, cells := 0, slots := 0, locals := 47 } : Room) ε (cM ε) bd_vl t0) (p1 : Int64) (p3 : Int32) {K : (Int32 × bd_T) ⊕ (bd_T) → Option (Int64 × bd_T)} (hk : ∀ (x4 : Int32) (S : bd_T), bd_S Γ 5 t0 (K (.inl (x4, S))) (cM ε S) 50 [(0, .ref (bd_a ε 0)), (1, .long p1), (3, .int p3), (4, .int x4)] []) (hx : ∀ (S : bd_T), bd_S Γ 5 t0 (K (.inr S)) (cM ε S) 108 [(0, .ref (bd_a ε 0)), (1, .long p1), (3, .int p3)] []) (x4 : Int32) (S : bd_T) : bd_S Γ 5 t0 ((fb_X10_waysOf_50 p1 p3 x4 S).bind K) (cM ε S) 50 [(0, .ref (bd_a ε 0)), (1, .long p1), (3, .int p3), (4, .int x4)] [] := by
  unfold fb_X10_waysOf_50
  refine bs_iload hC 3 dX10_waysOf_50 rfl ?_
  refine bs_sipush hC (300 : Int32) dX10_waysOf_52 rfl ?_
  refine bs_icmp_ge hC 108 dX10_waysOf_55 (by decide) (fun c13 => ?_) (fun c13 => ?_)
  · refine bs_some ?_
    refine bs_pick [0, 1, 2] rfl ?_
    exact hx S
  refine bs_aload_n hC 0 dX10_waysOf_58 rfl rfl ?_
  refine bs_get hC (v := .ref (bd_a ε (23 + 1))) hin_X10 0 (cM_o0 ε S) rfl 28 (by decide) mw_588 rfl dX10_waysOf_59 ?_
  refine bs_iload hC 3 dX10_waysOf_62 rfl ?_
  refine bs_iconst hC (1 : Int32) dX10_waysOf_64 rfl ?_
  refine bs_iadd hC dX10_waysOf_65 ?_
  refine bs_aload_n hC 0 dX10_waysOf_66 rfl rfl ?_
  refine bs_get hC (v := .ref (bd_a ε (23 + 1))) hin_X10 0 (cM_o0 ε S) rfl 28 (by decide) mw_588 rfl dX10_waysOf_67 ?_
  refine bs_iload hC 3 dX10_waysOf_70 rfl ?_
  refine bs_lald hC _ (cM_gj ε S 1 301 (by decide) rfl) dX10_waysOf_72 (fun z6 ez6 => ?_)
  refine bs_aload_n hC 0 dX10_waysOf_73 rfl rfl ?_
  refine bs_iload_n hC 2 dX10_waysOf_74 rfl rfl ?_
  refine bs_iload hC 3 dX10_waysOf_75 rfl ?_
  refine bs_callV_i hC (rm := ({ frames := 1, cells := 0, slots := 0, locals := 21 } : Room)) [.int p3, .int x4] [.long z6, .int (x4 + (1 : Int32)), .ref (bd_a ε (23 + 1))] (fun h => c_X10_canOf (bd_l Γ) (bd_D Γ) ε p3 x4 S h) mw_726 mw_724 mw_725 mw_82 mw_59 (cM_o0 ε S) rfl by_X10_canOf ⟨rfl, rfl, by decide, by decide⟩ rfl rfl (Nat.le_of_ble_eq_true rfl) dX10_waysOf_77 (fun r7 S8 eS8 => ?_)
  refine bs_if_eq hC 99 dX10_waysOf_80 (by decide) (fun c12 => ?_) (fun c12 => ?_)
  · refine bs_lconst hC (0 : Int64) dX10_waysOf_99 rfl ?_
    refine bs_ladd hC dX10_waysOf_100 ?_
    refine bs_last hC _ (cM_gj ε S8 1 301 (by decide) rfl) (cM_sj ε S8 1 301 (by decide) rfl _) dX10_waysOf_101 (fun S9 eS9 => ?_)
    refine bs_iinc hC 3 [(4, .int (x4 + 1)), (0, .ref (bd_a ε 0)), (1, .long p1), (3, .int p3)] dX10_waysOf_102 rfl rfl (by decide) rfl ?_
    refine bs_goto hC 50 dX10_waysOf_105 (by decide) ?_
    refine bs_some ?_
    refine bs_pick [1, 2, 3, 0] rfl ?_
    exact hk (x4 + 1) S9
  refine bs_aload_n hC 0 dX10_waysOf_83 rfl rfl ?_
  refine bs_get hC (v := .ref (bd_a ε (23 + 0))) hin_X10 0 (cM_o0 ε S8) rfl 27 (by decide) mw_587 rfl dX10_waysOf_84 ?_
  refine bs_sipush hC (300 : Int32) dX10_waysOf_87 rfl ?_
  refine bs_iload_n hC 2 dX10_waysOf_90 rfl rfl ?_
  refine bs_imul hC dX10_waysOf_91 ?_
  refine bs_iload hC 3 dX10_waysOf_92 rfl ?_
  refine bs_iadd hC dX10_waysOf_94 ?_
  refine bs_lald hC _ (cM_gj ε S8 0 1800 (by decide) rfl) dX10_waysOf_95 (fun z10 ez10 => ?_)
  refine bs_goto hC 100 dX10_waysOf_96 (by decide) ?_
  refine bs_ladd hC dX10_waysOf_100 ?_
  refine bs_last hC _ (cM_gj ε S8 1 301 (by decide) rfl) (cM_sj ε S8 1 301 (by decide) rfl _) dX10_waysOf_101 (fun S11 eS11 => ?_)
  refine bs_iinc hC 3 [(4, .int (x4 + 1)), (0, .ref (bd_a ε 0)), (1, .long p1), (3, .int p3)] dX10_waysOf_102 rfl rfl (by decide) rfl ?_
  refine bs_goto hC 50 dX10_waysOf_105 (by decide) ?_
  refine bs_some ?_
  refine bs_pick [1, 2, 3, 0] rfl ?_
  exact hk (x4 + 1) S11
set_option maxRecDepth 100000 in
set_option maxHeartbeats 4000000 in
theorem lb_X10_waysOf_134 {Γ : bd_G} {ε : bd_E} {t0 : Option (Int64 × bd_T)} (hC : bd_C Γ cX10_waysOf 5 RX10 (some .long) ({ frames := 2, cells := 0, slots := 0, locals := 47 } : Room) ε (cM ε) bd_vl t0) (p1 : Int64) (p3 : Int32) {K : (Int32 × bd_T) ⊕ (bd_T) → Option (Int64 × bd_T)} (hk : ∀ (x4 : Int32) (S : bd_T), bd_S Γ 5 t0 (K (.inl (x4, S))) (cM ε S) 134 [(0, .ref (bd_a ε 0)), (1, .long p1), (3, .int p3), (4, .int x4)] []) (hx : ∀ (S : bd_T), bd_S Γ 5 t0 (K (.inr S)) (cM ε S) 176 [(0, .ref (bd_a ε 0)), (1, .long p1), (3, .int p3)] []) (x4 : Int32) (S : bd_T) : bd_S Γ 5 t0 ((fb_X10_waysOf_134 p1 p3 x4 S).bind K) (cM ε S) 134 [(0, .ref (bd_a ε 0)), (1, .long p1), (3, .int p3), (4, .int x4)] [] := by
  unfold fb_X10_waysOf_134
  refine bs_iload hC 3 dX10_waysOf_134 rfl ?_
  refine bs_sipush hC (300 : Int32) dX10_waysOf_136 rfl ?_
  refine bs_icmp_ge hC 176 dX10_waysOf_139 (by decide) (fun c21 => ?_) (fun c21 => ?_)
  · refine bs_some ?_
    refine bs_pick [0, 1, 2] rfl ?_
    exact hx S
  refine bs_aload_n hC 0 dX10_waysOf_142 rfl rfl ?_
  refine bs_get hC (v := .ref (bd_a ε (23 + 0))) hin_X10 0 (cM_o0 ε S) rfl 27 (by decide) mw_587 rfl dX10_waysOf_143 ?_
  refine bs_sipush hC (300 : Int32) dX10_waysOf_146 rfl ?_
  refine bs_aload_n hC 0 dX10_waysOf_149 rfl rfl ?_
  refine bs_get hC (v := .ref (bd_a ε (1 + 12))) hin_X10 0 (cM_o0 ε S) rfl 21 (by decide) mw_581 rfl dX10_waysOf_150 ?_
  refine bs_iload_n hC 2 dX10_waysOf_153 rfl rfl ?_
  refine bs_iald hC _ (cM_gi ε S 12 6 (by decide) rfl) dX10_waysOf_154 (fun z16 ez16 => ?_)
  refine bs_imul hC dX10_waysOf_155 ?_
  refine bs_iload hC 3 dX10_waysOf_156 rfl ?_
  refine bs_iadd hC dX10_waysOf_158 ?_
  refine bs_dup2 hC dX10_waysOf_159 rfl rfl ?_
  refine bs_lald hC _ (cM_gj ε S 0 1800 (by decide) rfl) dX10_waysOf_160 (fun z17 ez17 => ?_)
  refine bs_aload_n hC 0 dX10_waysOf_161 rfl rfl ?_
  refine bs_iload_n hC 2 dX10_waysOf_162 rfl rfl ?_
  refine bs_iload hC 3 dX10_waysOf_163 rfl ?_
  refine bs_callV_l hC (rm := ({ frames := 1, cells := 0, slots := 0, locals := 24 } : Room)) [.int p3, .int x4] [.long z17, .int (((300 : Int32) * z16) + x4), .ref (bd_a ε (23 + 0))] (fun h => c_X10_joined (bd_l Γ) (bd_D Γ) ε p3 x4 S h) mw_743 mw_741 mw_742 mw_82 mw_62 (cM_o0 ε S) rfl by_X10_joined ⟨rfl, rfl, by decide, by decide⟩ rfl rfl (Nat.le_of_ble_eq_true rfl) dX10_waysOf_165 (fun r18 S19 eS19 => ?_)
  refine bs_lmul hC dX10_waysOf_168 ?_
  refine bs_last hC _ (cM_gj ε S19 0 1800 (by decide) rfl) (cM_sj ε S19 0 1800 (by decide) rfl _) dX10_waysOf_169 (fun S20 eS20 => ?_)
  refine bs_iinc hC 3 [(4, .int (x4 + 1)), (0, .ref (bd_a ε 0)), (1, .long p1), (3, .int p3)] dX10_waysOf_170 rfl rfl (by decide) rfl ?_
  refine bs_goto hC 134 dX10_waysOf_173 (by decide) ?_
  refine bs_some ?_
  refine bs_pick [1, 2, 3, 0] rfl ?_
  exact hk (x4 + 1) S20
set_option maxRecDepth 100000 in
set_option maxHeartbeats 4000000 in
theorem lb_X10_waysOf_36 {Γ : bd_G} {ε : bd_E} {t0 : Option (Int64 × bd_T)} (hC : bd_C Γ cX10_waysOf 5 RX10 (some .long) ({ frames := 2, cells := 0, slots := 0, locals := 47 } : Room) ε (cM ε) bd_vl t0)  {K : (Int64 × Int32 × bd_T) ⊕ (Int64 × bd_T) → Option (Int64 × bd_T)} (hk : ∀ (x1 : Int64) (x3 : Int32) (S : bd_T), bd_S Γ 5 t0 (K (.inl (x1, x3, S))) (cM ε S) 36 [(0, .ref (bd_a ε 0)), (1, .long x1), (3, .int x3)] []) (hx : ∀ (y1 : Int64) (S : bd_T), bd_S Γ 5 t0 (K (.inr (y1, S))) (cM ε S) 182 [(1, .long y1)] []) (x1 : Int64) (x3 : Int32) (S : bd_T) : bd_S Γ 5 t0 ((fb_X10_waysOf_36 x1 x3 S).bind K) (cM ε S) 36 [(0, .ref (bd_a ε 0)), (1, .long x1), (3, .int x3)] [] := by
  unfold fb_X10_waysOf_36
  refine bs_iload_n hC 2 dX10_waysOf_36 rfl rfl ?_
  refine bs_if_lt hC 182 dX10_waysOf_37 (by decide) (fun c26 => ?_) (fun c26 => ?_)
  · refine bs_some ?_
    refine bs_pick [1] rfl ?_
    exact hx x1 S
  refine bs_aload_n hC 0 dX10_waysOf_40 rfl rfl ?_
  refine bs_get hC (v := .ref (bd_a ε (23 + 1))) hin_X10 0 (cM_o0 ε S) rfl 28 (by decide) mw_588 rfl dX10_waysOf_41 ?_
  refine bs_iconst hC (0 : Int32) dX10_waysOf_44 rfl ?_
  refine bs_lconst hC (0 : Int64) dX10_waysOf_45 rfl ?_
  refine bs_last hC _ (cM_gj ε S 1 301 (by decide) rfl) (cM_sj ε S 1 301 (by decide) rfl _) dX10_waysOf_46 (fun S5 eS5 => ?_)
  refine bs_iconst hC (0 : Int32) dX10_waysOf_47 rfl ?_
  refine bs_istore hC [(4, .int (0 : Int32)), (0, .ref (bd_a ε 0)), (1, .long x1), (3, .int x3)] dX10_waysOf_48 (by decide) rfl ?_
  refine bs_pick [1, 2, 3, 0] rfl ?_
  refine bs_loopK (fun (q : Int32 × bd_T) t => bd_S Γ 5 t0 t (cM ε (q.2)) 50 [(0, .ref (bd_a ε 0)), (1, .long x1), (3, .int x3), (4, .int (q.1))] []) (fun (q : bd_T) t => bd_S Γ 5 t0 t (cM ε (q)) 108 [(0, .ref (bd_a ε 0)), (1, .long x1), (3, .int x3)] []) (fun q => fb_X10_waysOf_50 x1 x3 q.1 q.2) (fun _ => bs_none) (fun K hk hx q => lb_X10_waysOf_50 hC   x1 x3 (fun a0 S => hk (a0, S)) (fun  S => hx (S))  (q.1) (q.2)) (fun r => ?_) bd_K ((0 : Int32), S5)
  obtain ⟨S14, rfl⟩ : ∃ z, z = r := ⟨_, rfl⟩
  show bd_S Γ 5 t0 (Option.bind _ _) (cM ε S14) 108 [(0, .ref (bd_a ε 0)), (1, .long x1), (3, .int x3)] []
  try dsimp only
  refine bs_aload_n hC 0 dX10_waysOf_108 rfl rfl ?_
  refine bs_get hC (v := .ref (bd_a ε (1 + 12))) hin_X10 0 (cM_o0 ε S14) rfl 21 (by decide) mw_581 rfl dX10_waysOf_109 ?_
  refine bs_iload_n hC 2 dX10_waysOf_112 rfl rfl ?_
  refine bs_iald hC _ (cM_gi ε S14 12 6 (by decide) rfl) dX10_waysOf_113 (fun z15 ez15 => ?_)
  refine bs_if_ge hC 131 dX10_waysOf_114 (by decide) (fun c25 => ?_) (fun c25 => ?_)
  · refine bs_iconst hC (0 : Int32) dX10_waysOf_131 rfl ?_
    refine bs_istore hC [(4, .int (0 : Int32)), (0, .ref (bd_a ε 0)), (1, .long x1), (3, .int x3)] dX10_waysOf_132 (by decide) rfl ?_
    refine bs_pick [1, 2, 3, 0] rfl ?_
    refine bs_loopK (fun (q : Int32 × bd_T) t => bd_S Γ 5 t0 t (cM ε (q.2)) 134 [(0, .ref (bd_a ε 0)), (1, .long x1), (3, .int x3), (4, .int (q.1))] []) (fun (q : bd_T) t => bd_S Γ 5 t0 t (cM ε (q)) 176 [(0, .ref (bd_a ε 0)), (1, .long x1), (3, .int x3)] []) (fun q => fb_X10_waysOf_134 x1 x3 q.1 q.2) (fun _ => bs_none) (fun K hk hx q => lb_X10_waysOf_134 hC   x1 x3 (fun a0 S => hk (a0, S)) (fun  S => hx (S))  (q.1) (q.2)) (fun r => ?_) bd_K ((0 : Int32), S14)
    obtain ⟨S22, rfl⟩ : ∃ z, z = r := ⟨_, rfl⟩
    show bd_S Γ 5 t0 (Option.bind _ _) (cM ε S22) 176 [(0, .ref (bd_a ε 0)), (1, .long x1), (3, .int x3)] []
    try dsimp only
    refine bs_iinc hC 2 [(3, .int (x3 + (-1))), (0, .ref (bd_a ε 0)), (1, .long x1)] dX10_waysOf_176 rfl rfl (by decide) rfl ?_
    refine bs_goto hC 36 dX10_waysOf_179 (by decide) ?_
    refine bs_some ?_
    refine bs_pick [1, 2, 0] rfl ?_
    exact hk x1 (x3 + (-1)) S22
  refine bs_lload_n hC 1 dX10_waysOf_117 rfl rfl ?_
  refine bs_aload_n hC 0 dX10_waysOf_118 rfl rfl ?_
  refine bs_get hC (v := .ref (bd_a ε (23 + 1))) hin_X10 0 (cM_o0 ε S14) rfl 28 (by decide) mw_588 rfl dX10_waysOf_119 ?_
  refine bs_sipush hC (300 : Int32) dX10_waysOf_122 rfl ?_
  refine bs_lald hC _ (cM_gj ε S14 1 301 (by decide) rfl) dX10_waysOf_125 (fun z23 ez23 => ?_)
  refine bs_lmul hC dX10_waysOf_126 ?_
  refine bs_letl (fun z24 ez24 => ?_)
  refine bs_lstore_n hC [(1, .long z24), (0, .ref (bd_a ε 0)), (3, .int x3)] dX10_waysOf_127 rfl (by decide) rfl ?_
  refine bs_goto hC 176 dX10_waysOf_128 (by decide) ?_
  refine bs_iinc hC 2 [(3, .int (x3 + (-1))), (1, .long z24), (0, .ref (bd_a ε 0))] dX10_waysOf_176 rfl rfl (by decide) rfl ?_
  refine bs_goto hC 36 dX10_waysOf_179 (by decide) ?_
  refine bs_some ?_
  refine bs_pick [2, 1, 0] rfl ?_
  exact hk z24 (x3 + (-1)) S14
set_option maxRecDepth 100000 in
set_option maxHeartbeats 4000000 in
theorem b_X10_waysOf {Γ : bd_G} {ε : bd_E} {t0 : Option (Int64 × bd_T)} (hC : bd_C Γ cX10_waysOf 5 RX10 (some .long) ({ frames := 2, cells := 0, slots := 0, locals := 47 } : Room) ε (cM ε) bd_vl t0)  (S : bd_T) : bd_S Γ 5 t0 ((f_X10_waysOf S).bind some) (cM ε S) 0 [(0, .ref (bd_a ε 0))] [] := by
  unfold f_X10_waysOf
  refine bs_iconst hC (0 : Int32) dX10_waysOf_0 rfl ?_
  refine bs_istore_n hC [(1, .int (0 : Int32)), (0, .ref (bd_a ε 0))] dX10_waysOf_1 rfl (by decide) rfl ?_
  refine bs_pick [1, 0] rfl ?_
  refine bs_loopK (fun (q : Int32 × bd_T) t => bd_S Γ 5 t0 t (cM ε (q.2)) 2 [(0, .ref (bd_a ε 0)), (1, .int (q.1))] []) (fun (q : bd_T) t => bd_S Γ 5 t0 t (cM ε (q)) 27 [(0, .ref (bd_a ε 0))] []) (fun q => fb_X10_waysOf_2 q.1 q.2) (fun _ => bs_none) (fun K hk hx q => lb_X10_waysOf_2 hC    (fun a0 S => hk (a0, S)) (fun  S => hx (S))  (q.1) (q.2)) (fun r => ?_) bd_K ((0 : Int32), S)
  obtain ⟨S3, rfl⟩ : ∃ z, z = r := ⟨_, rfl⟩
  show bd_S Γ 5 t0 (Option.bind _ _) (cM ε S3) 27 [(0, .ref (bd_a ε 0))] []
  try dsimp only
  refine bs_lconst hC (1 : Int64) dX10_waysOf_27 rfl ?_
  refine bs_lstore_n hC [(1, .long (1 : Int64)), (0, .ref (bd_a ε 0))] dX10_waysOf_28 rfl (by decide) rfl ?_
  refine bs_aload_n hC 1 dX10_waysOf_29 rfl rfl ?_
  refine bs_get hC (v := .int (bd_I S3 2)) hin_X10 0 (cM_o0 ε S3) rfl 7 (by decide) mw_567 rfl dX10_waysOf_30 ?_
  refine bs_iconst hC (1 : Int32) dX10_waysOf_33 rfl ?_
  refine bs_isub hC dX10_waysOf_34 ?_
  refine bs_leti (fun z4 ez4 => ?_)
  refine bs_istore_n hC [(3, .int z4), (1, .long (1 : Int64)), (0, .ref (bd_a ε 0))] dX10_waysOf_35 rfl (by decide) rfl ?_
  refine bs_pick [2, 1, 0] rfl ?_
  refine bs_loopK (fun (q : Int64 × Int32 × bd_T) t => bd_S Γ 5 t0 t (cM ε (q.2.2)) 36 [(0, .ref (bd_a ε 0)), (1, .long (q.1)), (3, .int (q.2.1))] []) (fun (q : Int64 × bd_T) t => bd_S Γ 5 t0 t (cM ε (q.2)) 182 [(1, .long (q.1))] []) (fun q => fb_X10_waysOf_36 q.1 q.2.1 q.2.2) (fun _ => bs_none) (fun K hk hx q => lb_X10_waysOf_36 hC    (fun a0 a1 S => hk (a0, a1, S)) (fun b0 S => hx (b0, S))  (q.1) (q.2.1) (q.2.2)) (fun r => ?_) bd_K ((1 : Int64), z4, S3)
  obtain ⟨y27, S28⟩ := r
  show bd_S Γ 5 t0 (Option.bind _ _) (cM ε S28) 182 [(1, .long y27)] []
  try dsimp only
  refine bs_lload_n hC 0 dX10_waysOf_182 rfl rfl ?_
  exact bs_lret hC dX10_waysOf_183 rfl
theorem c_X10_waysOf (l : Launch) (D : va_G) (ε : bd_E)  (S : bd_T) (h0 : (f_X10_waysOf S).isSome = true) : bd_Con l yX10_waysOf (Cond.code yX10_waysOf cX10_waysOf 5 (some .long) :: bd_tbl) ({ frames := 2, cells := 0, slots := 0, locals := 47 } : Room) D ε (cM ε) bd_vl [.ref (bd_a ε 0)] S (f_X10_waysOf S) :=
  bd_con (by decide +kernel) (Nat.le_of_ble_eq_true rfl) ⟨rfl, rfl⟩ h0 (fun Γ _ _ hC => bs_eq bs_bs (b_X10_waysOf hC S))
set_option maxRecDepth 100000 in
set_option maxHeartbeats 4000000 in
theorem b_X10_ways {Γ : bd_G} {ε : bd_E} {t0 : Option (Int64 × bd_T)} (hC : bd_C Γ cX10_ways 1 RX10 (some .long) ({ frames := 4, cells := 0, slots := 0, locals := 94 } : Room) ε (cM ε) bd_vl t0)  (S : bd_T) : bd_S Γ 1 t0 ((f_X10_ways S).bind some) (cM ε S) 0 [(0, .ref (bd_a ε 0))] [] := by
  unfold f_X10_ways
  refine bs_aload_n hC 0 dX10_ways_0 rfl rfl ?_
  refine bs_callV_v hC (rm := ({ frames := 3, cells := 0, slots := 0, locals := 72 } : Room)) [] [] (fun h => c_X10_finds (bd_l Γ) (bd_D Γ) ε S h) mw_717 mw_715 mw_716 mw_82 mw_56 (cM_o0 ε S) rfl by_X10_finds ⟨rfl, rfl, by decide, by decide⟩ rfl rfl (Nat.le_of_ble_eq_true rfl) dX10_ways_1 (fun r1 S2 eS2 => ?_)
  refine bs_aload_n hC 0 dX10_ways_4 rfl rfl ?_
  refine bs_callV_v hC (rm := ({ frames := 0, cells := 0, slots := 0, locals := 0 } : Room)) [] [] (fun h => c_X10_frees (bd_l Γ) (bd_D Γ) ε S2 h) mw_723 mw_721 mw_722 mw_82 mw_58 (cM_o0 ε S2) rfl by_X10_frees ⟨rfl, rfl, by decide, by decide⟩ rfl rfl (Nat.le_of_ble_eq_true rfl) dX10_ways_5 (fun r3 S4 eS4 => ?_)
  refine bs_aload_n hC 0 dX10_ways_8 rfl rfl ?_
  refine bs_callV_l hC (rm := ({ frames := 2, cells := 0, slots := 0, locals := 47 } : Room)) [] [] (fun h => c_X10_waysOf (bd_l Γ) (bd_D Γ) ε S4 h) mw_740 mw_738 mw_739 mw_82 mw_61 (cM_o0 ε S4) rfl by_X10_waysOf ⟨rfl, rfl, by decide, by decide⟩ rfl rfl (Nat.le_of_ble_eq_true rfl) dX10_ways_9 (fun r5 S6 eS6 => ?_)
  exact bs_lret hC dX10_ways_12 rfl
theorem c_X10_ways (l : Launch) (D : va_G) (ε : bd_E)  (S : bd_T) (h0 : (f_X10_ways S).isSome = true) : bd_Con l yX10_ways (Cond.code yX10_ways cX10_ways 1 (some .long) :: bd_tbl) ({ frames := 4, cells := 0, slots := 0, locals := 94 } : Room) D ε (cM ε) bd_vl [.ref (bd_a ε 0)] S (f_X10_ways S) :=
  bd_con (by decide +kernel) (Nat.le_of_ble_eq_true rfl) ⟨rfl, rfl⟩ h0 (fun Γ _ _ hC => bs_eq bs_bs (b_X10_ways hC S))
set_option maxRecDepth 100000 in
set_option maxHeartbeats 4000000 in
theorem b_X10_waysWith {Γ : bd_G} {ε : bd_E} {t0 : Option (Int64 × bd_T)} (hC : bd_C Γ cX10_waysWith 3 RX10 (some .long) ({ frames := 3, cells := 0, slots := 0, locals := 71 } : Room) ε (cM ε) bd_vl t0) (x1 : Int32) (x2 : Int32)  (S : bd_T) : bd_S Γ 3 t0 ((f_X10_waysWith x1 x2 S).bind some) (cM ε S) 0 [(0, .ref (bd_a ε 0)), (1, .int x1), (2, .int x2)] [] := by
  unfold f_X10_waysWith
  refine bs_aload_n hC 0 dX10_waysWith_0 rfl rfl ?_
  refine bs_callV_v hC (rm := ({ frames := 0, cells := 0, slots := 0, locals := 0 } : Room)) [] [] (fun h => c_X10_frees (bd_l Γ) (bd_D Γ) ε S h) mw_723 mw_721 mw_722 mw_82 mw_58 (cM_o0 ε S) rfl by_X10_frees ⟨rfl, rfl, by decide, by decide⟩ rfl rfl (Nat.le_of_ble_eq_true rfl) dX10_waysWith_1 (fun r1 S2 eS2 => ?_)
  refine bs_aload_n hC 0 dX10_waysWith_4 rfl rfl ?_
  refine bs_get hC (v := .ref (bd_a ε (1 + 15))) hin_X10 0 (cM_o0 ε S2) rfl 25 (by decide) mw_585 rfl dX10_waysWith_5 ?_
  refine bs_iload_n hC 1 dX10_waysWith_8 rfl rfl ?_
  refine bs_iload_n hC 2 dX10_waysWith_9 rfl rfl ?_
  refine bs_iast hC _ (cM_gi ε S2 15 6 (by decide) rfl) (cM_si ε S2 15 6 (by decide) rfl _) dX10_waysWith_10 (fun S3 eS3 => ?_)
  refine bs_aload_n hC 0 dX10_waysWith_11 rfl rfl ?_
  refine bs_get hC (v := .ref (bd_a ε (1 + 16))) hin_X10 0 (cM_o0 ε S3) rfl 26 (by decide) mw_586 rfl dX10_waysWith_12 ?_
  refine bs_iload_n hC 1 dX10_waysWith_15 rfl rfl ?_
  refine bs_iload_n hC 2 dX10_waysWith_16 rfl rfl ?_
  refine bs_iast hC _ (cM_gi ε S3 16 6 (by decide) rfl) (cM_si ε S3 16 6 (by decide) rfl _) dX10_waysWith_17 (fun S4 eS4 => ?_)
  refine bs_aload_n hC 0 dX10_waysWith_18 rfl rfl ?_
  refine bs_callV_l hC (rm := ({ frames := 2, cells := 0, slots := 0, locals := 47 } : Room)) [] [] (fun h => c_X10_waysOf (bd_l Γ) (bd_D Γ) ε S4 h) mw_740 mw_738 mw_739 mw_82 mw_61 (cM_o0 ε S4) rfl by_X10_waysOf ⟨rfl, rfl, by decide, by decide⟩ rfl rfl (Nat.le_of_ble_eq_true rfl) dX10_waysWith_19 (fun r5 S6 eS6 => ?_)
  exact bs_lret hC dX10_waysWith_22 rfl
theorem c_X10_waysWith (l : Launch) (D : va_G) (ε : bd_E) (x1 : Int32) (x2 : Int32)  (S : bd_T) (h0 : (f_X10_waysWith x1 x2 S).isSome = true) : bd_Con l yX10_waysWith (Cond.code yX10_waysWith cX10_waysWith 3 (some .long) :: bd_tbl) ({ frames := 3, cells := 0, slots := 0, locals := 71 } : Room) D ε (cM ε) bd_vl [.ref (bd_a ε 0), .int x1, .int x2] S (f_X10_waysWith x1 x2 S) :=
  bd_con (by decide +kernel) (Nat.le_of_ble_eq_true rfl) ⟨rfl, rfl⟩ h0 (fun Γ _ _ hC => bs_eq bs_bs (b_X10_waysWith hC x1 x2 S))
set_option maxRecDepth 100000 in
set_option maxHeartbeats 4000000 in
theorem lb_X10_findMay_6 {Γ : bd_G} {ε : bd_E} {t0 : Option (Unit × bd_T)} (hC : bd_C Γ cX10_findMay 3 RX10 none ({ frames := 4, cells := 0, slots := 0, locals := 94 } : Room) ε (cM ε) bd_vv t0) (p1 : Int32) {K : (Int32 × bd_T) ⊕ (bd_T) → Option (Unit × bd_T)} (hk : ∀ (x2 : Int32) (S : bd_T), bd_S Γ 3 t0 (K (.inl (x2, S))) (cM ε S) 6 [(0, .ref (bd_a ε 0)), (1, .int p1), (2, .int x2)] []) (hx : ∀ (S : bd_T), bd_S Γ 3 t0 (K (.inr S)) (cM ε S) 41 [] []) (x2 : Int32) (S : bd_T) : bd_S Γ 3 t0 ((fb_X10_findMay_6 p1 x2 S).bind K) (cM ε S) 6 [(0, .ref (bd_a ε 0)), (1, .int p1), (2, .int x2)] [] := by
  unfold fb_X10_findMay_6
  refine bs_iload_n hC 2 dX10_findMay_6 rfl rfl ?_
  refine bs_sipush hC (300 : Int32) dX10_findMay_7 rfl ?_
  refine bs_icmp_ge hC 41 dX10_findMay_10 (by decide) (fun c8 => ?_) (fun c8 => ?_)
  · refine bs_some ?_
    refine bs_pick [] rfl ?_
    exact hx S
  refine bs_aload_n hC 0 dX10_findMay_13 rfl rfl ?_
  refine bs_get hC (v := .ref (bd_a ε 22)) hin_X10 0 (cM_o0 ε S) rfl 30 (by decide) mw_590 rfl dX10_findMay_14 ?_
  refine bs_iload_n hC 2 dX10_findMay_17 rfl rfl ?_
  refine bs_aload_n hC 0 dX10_findMay_18 rfl rfl ?_
  refine bs_iload_n hC 1 dX10_findMay_19 rfl rfl ?_
  refine bs_iload_n hC 2 dX10_findMay_20 rfl rfl ?_
  refine bs_callV_l hC (rm := ({ frames := 3, cells := 0, slots := 0, locals := 71 } : Room)) [.int p1, .int x2] [.int x2, .ref (bd_a ε 22)] (fun h => c_X10_waysWith (bd_l Γ) (bd_D Γ) ε p1 x2 S h) mw_756 mw_754 mw_755 mw_82 mw_65 (cM_o0 ε S) rfl by_X10_waysWith ⟨rfl, rfl, by decide, by decide⟩ rfl rfl (Nat.le_of_ble_eq_true rfl) dX10_findMay_21 (fun r3 S4 eS4 => ?_)
  refine bs_lconst hC (0 : Int64) dX10_findMay_24 rfl ?_
  refine bs_lif_le hC 33 dX10_findMay_25 dX10_findMay_26 (by decide) (fun c7 => ?_) (fun c7 => ?_)
  · refine bs_iconst hC (0 : Int32) dX10_findMay_33 rfl ?_
    refine bs_zast hC _ (cM_gz ε S4 1 300 (by decide) rfl) (cM_sz ε S4 1 300 (by decide) rfl) dX10_findMay_34 (fun S5 eS5 => ?_)
    refine bs_iinc hC 2 [(2, .int (x2 + 1)), (0, .ref (bd_a ε 0)), (1, .int p1)] dX10_findMay_35 rfl rfl (by decide) rfl ?_
    refine bs_goto hC 6 dX10_findMay_38 (by decide) ?_
    refine bs_some ?_
    refine bs_pick [1, 2, 0] rfl ?_
    exact hk (x2 + 1) S5
  refine bs_iconst hC (1 : Int32) dX10_findMay_29 rfl ?_
  refine bs_goto hC 34 dX10_findMay_30 (by decide) ?_
  refine bs_zast hC _ (cM_gz ε S4 1 300 (by decide) rfl) (cM_sz ε S4 1 300 (by decide) rfl) dX10_findMay_34 (fun S6 eS6 => ?_)
  refine bs_iinc hC 2 [(2, .int (x2 + 1)), (0, .ref (bd_a ε 0)), (1, .int p1)] dX10_findMay_35 rfl rfl (by decide) rfl ?_
  refine bs_goto hC 6 dX10_findMay_38 (by decide) ?_
  refine bs_some ?_
  refine bs_pick [1, 2, 0] rfl ?_
  exact hk (x2 + 1) S6
set_option maxRecDepth 100000 in
set_option maxHeartbeats 4000000 in
theorem b_X10_findMay {Γ : bd_G} {ε : bd_E} {t0 : Option (Unit × bd_T)} (hC : bd_C Γ cX10_findMay 3 RX10 none ({ frames := 4, cells := 0, slots := 0, locals := 94 } : Room) ε (cM ε) bd_vv t0) (x1 : Int32)  (S : bd_T) : bd_S Γ 3 t0 ((f_X10_findMay x1 S).bind some) (cM ε S) 0 [(0, .ref (bd_a ε 0)), (1, .int x1)] [] := by
  unfold f_X10_findMay
  refine bs_aload_n hC 0 dX10_findMay_0 rfl rfl ?_
  refine bs_callV_v hC (rm := ({ frames := 3, cells := 0, slots := 0, locals := 72 } : Room)) [] [] (fun h => c_X10_finds (bd_l Γ) (bd_D Γ) ε S h) mw_717 mw_715 mw_716 mw_82 mw_56 (cM_o0 ε S) rfl by_X10_finds ⟨rfl, rfl, by decide, by decide⟩ rfl rfl (Nat.le_of_ble_eq_true rfl) dX10_findMay_1 (fun r1 S2 eS2 => ?_)
  refine bs_iconst hC (0 : Int32) dX10_findMay_4 rfl ?_
  refine bs_istore_n hC [(2, .int (0 : Int32)), (0, .ref (bd_a ε 0)), (1, .int x1)] dX10_findMay_5 rfl (by decide) rfl ?_
  refine bs_pick [1, 2, 0] rfl ?_
  refine bs_loopK (fun (q : Int32 × bd_T) t => bd_S Γ 3 t0 t (cM ε (q.2)) 6 [(0, .ref (bd_a ε 0)), (1, .int x1), (2, .int (q.1))] []) (fun (q : bd_T) t => bd_S Γ 3 t0 t (cM ε (q)) 41 [] []) (fun q => fb_X10_findMay_6 x1 q.1 q.2) (fun _ => bs_none) (fun K hk hx q => lb_X10_findMay_6 hC   x1 (fun a0 S => hk (a0, S)) (fun  S => hx (S))  (q.1) (q.2)) (fun r => ?_) bd_K ((0 : Int32), S2)
  obtain ⟨S9, rfl⟩ : ∃ z, z = r := ⟨_, rfl⟩
  show bd_S Γ 3 t0 (Option.bind _ _) (cM ε S9) 41 [] []
  try dsimp only
  exact bs_vret hC dX10_findMay_41 rfl
theorem c_X10_findMay (l : Launch) (D : va_G) (ε : bd_E) (x1 : Int32)  (S : bd_T) (h0 : (f_X10_findMay x1 S).isSome = true) : bd_Con l yX10_findMay (Cond.code yX10_findMay cX10_findMay 3 none :: bd_tbl) ({ frames := 4, cells := 0, slots := 0, locals := 94 } : Room) D ε (cM ε) bd_vv [.ref (bd_a ε 0), .int x1] S (f_X10_findMay x1 S) :=
  bd_con (by decide +kernel) (Nat.le_of_ble_eq_true rfl) ⟨rfl, rfl⟩ h0 (fun Γ _ _ hC => bs_eq bs_bs (b_X10_findMay hC x1 S))
set_option maxRecDepth 100000 in
set_option maxHeartbeats 4000000 in
theorem lb_X10_may_23 {Γ : bd_G} {ε : bd_E} {t0 : Option (Int32 × bd_T)} (hC : bd_C Γ cX10_may 4 RX10 (some .int) ({ frames := 5, cells := 0, slots := 0, locals := 116 } : Room) ε (cM ε) bd_vi t0)  {K : (Int32 × Int32 × bd_T) ⊕ (Int32 × bd_T) → Option (Int32 × bd_T)} (hk : ∀ (x2 : Int32) (x3 : Int32) (S : bd_T), bd_S Γ 4 t0 (K (.inl (x2, x3, S))) (cM ε S) 23 [(0, .ref (bd_a ε 0)), (2, .int x2), (3, .int x3)] []) (hx : ∀ (y2 : Int32) (S : bd_T), bd_S Γ 4 t0 (K (.inr (y2, S))) (cM ε S) 53 [(2, .int y2)] []) (x2 : Int32) (x3 : Int32) (S : bd_T) : bd_S Γ 4 t0 ((fb_X10_may_23 x2 x3 S).bind K) (cM ε S) 23 [(0, .ref (bd_a ε 0)), (2, .int x2), (3, .int x3)] [] := by
  unfold fb_X10_may_23
  refine bs_iload_n hC 2 dX10_may_23 rfl rfl ?_
  refine bs_sipush hC (300 : Int32) dX10_may_24 rfl ?_
  refine bs_icmp_ge hC 53 dX10_may_27 (by decide) (fun c11 => ?_) (fun c11 => ?_)
  · refine bs_some ?_
    refine bs_pick [1] rfl ?_
    exact hx x2 S
  refine bs_iload_n hC 1 dX10_may_30 rfl rfl ?_
  refine bs_aload_n hC 0 dX10_may_31 rfl rfl ?_
  refine bs_get hC (v := .ref (bd_a ε 22)) hin_X10 0 (cM_o0 ε S) rfl 30 (by decide) mw_590 rfl dX10_may_32 ?_
  refine bs_iload_n hC 2 dX10_may_35 rfl rfl ?_
  refine bs_zald hC _ (cM_gz ε S 1 300 (by decide) rfl) dX10_may_36 (fun z7 ez7 => ?_)
  refine bs_if_eq hC 44 dX10_may_37 (by decide) (fun c10 => ?_) (fun c10 => ?_)
  · refine bs_iconst hC (0 : Int32) dX10_may_44 rfl ?_
    refine bs_iadd hC dX10_may_45 ?_
    refine bs_leti (fun z8 ez8 => ?_)
    refine bs_istore_n hC [(2, .int z8), (0, .ref (bd_a ε 0)), (3, .int x3)] dX10_may_46 rfl (by decide) rfl ?_
    refine bs_iinc hC 2 [(3, .int (x3 + 1)), (2, .int z8), (0, .ref (bd_a ε 0))] dX10_may_47 rfl rfl (by decide) rfl ?_
    refine bs_goto hC 23 dX10_may_50 (by decide) ?_
    refine bs_some ?_
    refine bs_pick [2, 1, 0] rfl ?_
    exact hk z8 (x3 + 1) S
  refine bs_iconst hC (1 : Int32) dX10_may_40 rfl ?_
  refine bs_goto hC 45 dX10_may_41 (by decide) ?_
  refine bs_iadd hC dX10_may_45 ?_
  refine bs_leti (fun z9 ez9 => ?_)
  refine bs_istore_n hC [(2, .int z9), (0, .ref (bd_a ε 0)), (3, .int x3)] dX10_may_46 rfl (by decide) rfl ?_
  refine bs_iinc hC 2 [(3, .int (x3 + 1)), (2, .int z9), (0, .ref (bd_a ε 0))] dX10_may_47 rfl rfl (by decide) rfl ?_
  refine bs_goto hC 23 dX10_may_50 (by decide) ?_
  refine bs_some ?_
  refine bs_pick [2, 1, 0] rfl ?_
  exact hk z9 (x3 + 1) S
set_option maxRecDepth 100000 in
set_option maxHeartbeats 4000000 in
theorem b_X10_may {Γ : bd_G} {ε : bd_E} {t0 : Option (Int32 × bd_T)} (hC : bd_C Γ cX10_may 4 RX10 (some .int) ({ frames := 5, cells := 0, slots := 0, locals := 116 } : Room) ε (cM ε) bd_vi t0) (x1 : Int32)  (S : bd_T) : bd_S Γ 4 t0 ((f_X10_may x1 S).bind some) (cM ε S) 0 [(0, .ref (bd_a ε 0)), (1, .int x1)] [] := by
  unfold f_X10_may
  refine bs_aload_n hC 0 dX10_may_0 rfl rfl ?_
  refine bs_iload_n hC 1 dX10_may_1 rfl rfl ?_
  refine bs_callV_i hC (rm := ({ frames := 0, cells := 0, slots := 0, locals := 0 } : Room)) [.int x1] [] (fun h => c_X10_isThing (bd_l Γ) (bd_D Γ) ε x1 S h) mw_670 mw_668 mw_669 mw_82 mw_52 (cM_o0 ε S) rfl by_X10_isThing ⟨rfl, rfl, by decide, by decide⟩ rfl rfl (Nat.le_of_ble_eq_true rfl) dX10_may_2 (fun r1 S2 eS2 => ?_)
  refine bs_if_ne hC 14 dX10_may_5 (by decide) (fun c14 => ?_) (fun c14 => ?_)
  · refine bs_aload_n hC 0 dX10_may_8 rfl rfl ?_
    refine bs_iconst hC (-1 : Int32) dX10_may_9 rfl ?_
    refine bs_callV_i hC (rm := ({ frames := 0, cells := 0, slots := 0, locals := 0 } : Room)) [.int (-1 : Int32)] [] (fun h => c_X10_no (bd_l Γ) (bd_D Γ) ε (-1 : Int32) S2 h) mw_646 mw_644 mw_645 mw_82 mw_48 (cM_o0 ε S2) rfl by_X10_no ⟨rfl, rfl, by decide, by decide⟩ rfl rfl (Nat.le_of_ble_eq_true rfl) dX10_may_10 (fun r3 S4 eS4 => ?_)
    exact bs_iret hC dX10_may_13 rfl
  refine bs_aload_n hC 0 dX10_may_14 rfl rfl ?_
  refine bs_iload_n hC 1 dX10_may_15 rfl rfl ?_
  refine bs_callV_v hC (rm := ({ frames := 4, cells := 0, slots := 0, locals := 94 } : Room)) [.int x1] [] (fun h => c_X10_findMay (bd_l Γ) (bd_D Γ) ε x1 S2 h) mw_753 mw_751 mw_752 mw_82 mw_64 (cM_o0 ε S2) rfl by_X10_findMay ⟨rfl, rfl, by decide, by decide⟩ rfl rfl (Nat.le_of_ble_eq_true rfl) dX10_may_16 (fun r5 S6 eS6 => ?_)
  refine bs_iconst hC (0 : Int32) dX10_may_19 rfl ?_
  refine bs_istore_n hC [(2, .int (0 : Int32)), (0, .ref (bd_a ε 0)), (1, .int x1)] dX10_may_20 rfl (by decide) rfl ?_
  refine bs_iconst hC (0 : Int32) dX10_may_21 rfl ?_
  refine bs_istore_n hC [(3, .int (0 : Int32)), (2, .int (0 : Int32)), (0, .ref (bd_a ε 0)), (1, .int x1)] dX10_may_22 rfl (by decide) rfl ?_
  refine bs_pick [2, 1, 0] rfl ?_
  refine bs_loopK (fun (q : Int32 × Int32 × bd_T) t => bd_S Γ 4 t0 t (cM ε (q.2.2)) 23 [(0, .ref (bd_a ε 0)), (2, .int (q.1)), (3, .int (q.2.1))] []) (fun (q : Int32 × bd_T) t => bd_S Γ 4 t0 t (cM ε (q.2)) 53 [(2, .int (q.1))] []) (fun q => fb_X10_may_23 q.1 q.2.1 q.2.2) (fun _ => bs_none) (fun K hk hx q => lb_X10_may_23 hC    (fun a0 a1 S => hk (a0, a1, S)) (fun b0 S => hx (b0, S))  (q.1) (q.2.1) (q.2.2)) (fun r => ?_) bd_K ((0 : Int32), (0 : Int32), S6)
  obtain ⟨y12, S13⟩ := r
  show bd_S Γ 4 t0 (Option.bind _ _) (cM ε S13) 53 [(2, .int y12)] []
  try dsimp only
  refine bs_iload_n hC 0 dX10_may_53 rfl rfl ?_
  exact bs_iret hC dX10_may_54 rfl
theorem c_X10_may (l : Launch) (D : va_G) (ε : bd_E) (x1 : Int32)  (S : bd_T) (h0 : (f_X10_may x1 S).isSome = true) : bd_Con l yX10_may (Cond.code yX10_may cX10_may 4 (some .int) :: bd_tbl) ({ frames := 5, cells := 0, slots := 0, locals := 116 } : Room) D ε (cM ε) bd_vi [.ref (bd_a ε 0), .int x1] S (f_X10_may x1 S) :=
  bd_con (by decide +kernel) (Nat.le_of_ble_eq_true rfl) ⟨rfl, rfl⟩ h0 (fun Γ _ _ hC => bs_eq bs_bs (b_X10_may hC x1 S))
set_option maxRecDepth 100000 in
set_option maxHeartbeats 4000000 in
theorem lb_X10_run_41 {Γ : bd_G} {ε : bd_E} {t0 : Option (Int32 × bd_T)} (hC : bd_C Γ cX10_run 6 RX10 (some .int) ({ frames := 5, cells := 0, slots := 0, locals := 116 } : Room) ε (cM ε) bd_vi t0) (p2 : Int32) (p3 : Int32) {K : (Int32 × Int32 × bd_T) ⊕ ((Int32 × bd_T) ⊕ (bd_T)) → Option (Int32 × bd_T)} (hk : ∀ (x4 : Int32) (x5 : Int32) (S : bd_T), bd_S Γ 6 t0 (K (.inl (x4, x5, S))) (cM ε S) 41 [(0, .ref (bd_a ε 0)), (2, .int p2), (3, .int p3), (4, .int x4), (5, .int x5)] []) (hx : ∀ (S : bd_T), bd_S Γ 6 t0 (K (.inr (.inr S))) (cM ε S) 121 [] []) (hr : ∀ z, K (.inr (.inl z)) = some z) (x4 : Int32) (x5 : Int32) (S : bd_T) : bd_S Γ 6 t0 ((fb_X10_run_41 p2 p3 x4 x5 S).bind K) (cM ε S) 41 [(0, .ref (bd_a ε 0)), (2, .int p2), (3, .int p3), (4, .int x4), (5, .int x5)] [] := by
  unfold fb_X10_run_41
  refine bs_iload hC 4 dX10_run_41 rfl ?_
  refine bs_sipush hC (300 : Int32) dX10_run_43 rfl ?_
  refine bs_icmp_ge hC 121 dX10_run_46 (by decide) (fun c31 => ?_) (fun c31 => ?_)
  · refine bs_some ?_
    refine bs_pick [] rfl ?_
    exact hx S
  refine bs_aload_n hC 0 dX10_run_49 rfl rfl ?_
  refine bs_get hC (v := .ref (bd_a ε 22)) hin_X10 0 (cM_o0 ε S) rfl 30 (by decide) mw_590 rfl dX10_run_50 ?_
  refine bs_iload hC 4 dX10_run_53 rfl ?_
  refine bs_zald hC _ (cM_gz ε S 1 300 (by decide) rfl) dX10_run_55 (fun z11 ez11 => ?_)
  refine bs_if_ne hC 62 dX10_run_56 (by decide) (fun c30 => ?_) (fun c30 => ?_)
  · refine bs_goto hC 115 dX10_run_59 (by decide) ?_
    refine bs_iinc hC 4 [(5, .int (x5 + 1)), (0, .ref (bd_a ε 0)), (2, .int p2), (3, .int p3), (4, .int x4)] dX10_run_115 rfl rfl (by decide) rfl ?_
    refine bs_goto hC 41 dX10_run_118 (by decide) ?_
    refine bs_some ?_
    refine bs_pick [1, 2, 3, 4, 0] rfl ?_
    exact hk x4 (x5 + 1) S
  refine bs_iload hC 4 dX10_run_62 rfl ?_
  refine bs_if_eq hC 79 dX10_run_64 (by decide) (fun c29 => ?_) (fun c29 => ?_)
  · refine bs_iinc hC 3 [(4, .int (x4 + 1)), (0, .ref (bd_a ε 0)), (2, .int p2), (3, .int p3), (5, .int x5)] dX10_run_79 rfl rfl (by decide) rfl ?_
    refine bs_iload hC 0 dX10_run_82 rfl ?_
    refine bs_iload_n hC 2 dX10_run_84 rfl rfl ?_
    refine bs_icmp_ne hC 115 dX10_run_85 (by decide) (fun c16 => ?_) (fun c16 => ?_)
    · refine bs_iload_n hC 3 dX10_run_88 rfl rfl ?_
      refine bs_if_eq hC 112 dX10_run_89 (by decide) (fun c15 => ?_) (fun c15 => ?_)
      · refine bs_iload hC 4 dX10_run_112 rfl ?_
        exact bs_iret hC dX10_run_114 (hr _)
      refine bs_iload hC 4 dX10_run_92 rfl ?_
      refine bs_sipush hC (299 : Int32) dX10_run_94 rfl ?_
      refine bs_icmp_eq hC 112 dX10_run_97 (by decide) (fun c14 => ?_) (fun c14 => ?_)
      · refine bs_iload hC 4 dX10_run_112 rfl ?_
        exact bs_iret hC dX10_run_114 (hr _)
      refine bs_aload_n hC 1 dX10_run_100 rfl rfl ?_
      refine bs_get hC (v := .ref (bd_a ε 22)) hin_X10 0 (cM_o0 ε S) rfl 30 (by decide) mw_590 rfl dX10_run_101 ?_
      refine bs_iload hC 4 dX10_run_104 rfl ?_
      refine bs_iconst hC (1 : Int32) dX10_run_106 rfl ?_
      refine bs_iadd hC dX10_run_107 ?_
      refine bs_zald hC _ (cM_gz ε S 1 300 (by decide) rfl) dX10_run_108 (fun z12 ez12 => ?_)
      refine bs_if_ne hC 115 dX10_run_109 (by decide) (fun c13 => ?_) (fun c13 => ?_)
      · refine bs_iload hC 4 dX10_run_112 rfl ?_
        exact bs_iret hC dX10_run_114 (hr _)
      refine bs_iinc hC 4 [(5, .int (x5 + 1)), (4, .int (x4 + 1)), (0, .ref (bd_a ε 0)), (2, .int p2), (3, .int p3)] dX10_run_115 rfl rfl (by decide) rfl ?_
      refine bs_goto hC 41 dX10_run_118 (by decide) ?_
      refine bs_some ?_
      refine bs_pick [2, 3, 4, 1, 0] rfl ?_
      exact hk (x4 + 1) (x5 + 1) S
    refine bs_iinc hC 4 [(5, .int (x5 + 1)), (4, .int (x4 + 1)), (0, .ref (bd_a ε 0)), (2, .int p2), (3, .int p3)] dX10_run_115 rfl rfl (by decide) rfl ?_
    refine bs_goto hC 41 dX10_run_118 (by decide) ?_
    refine bs_some ?_
    refine bs_pick [2, 3, 4, 1, 0] rfl ?_
    exact hk (x4 + 1) (x5 + 1) S
  refine bs_aload_n hC 0 dX10_run_67 rfl rfl ?_
  refine bs_get hC (v := .ref (bd_a ε 22)) hin_X10 0 (cM_o0 ε S) rfl 30 (by decide) mw_590 rfl dX10_run_68 ?_
  refine bs_iload hC 4 dX10_run_71 rfl ?_
  refine bs_iconst hC (1 : Int32) dX10_run_73 rfl ?_
  refine bs_isub hC dX10_run_74 ?_
  refine bs_zald hC _ (cM_gz ε S 1 300 (by decide) rfl) dX10_run_75 (fun z17 ez17 => ?_)
  refine bs_if_ne hC 82 dX10_run_76 (by decide) (fun c28 => ?_) (fun c28 => ?_)
  · refine bs_iinc hC 3 [(4, .int (x4 + 1)), (0, .ref (bd_a ε 0)), (2, .int p2), (3, .int p3), (5, .int x5)] dX10_run_79 rfl rfl (by decide) rfl ?_
    refine bs_iload hC 0 dX10_run_82 rfl ?_
    refine bs_iload_n hC 2 dX10_run_84 rfl rfl ?_
    refine bs_icmp_ne hC 115 dX10_run_85 (by decide) (fun c22 => ?_) (fun c22 => ?_)
    · refine bs_iload_n hC 3 dX10_run_88 rfl rfl ?_
      refine bs_if_eq hC 112 dX10_run_89 (by decide) (fun c21 => ?_) (fun c21 => ?_)
      · refine bs_iload hC 4 dX10_run_112 rfl ?_
        exact bs_iret hC dX10_run_114 (hr _)
      refine bs_iload hC 4 dX10_run_92 rfl ?_
      refine bs_sipush hC (299 : Int32) dX10_run_94 rfl ?_
      refine bs_icmp_eq hC 112 dX10_run_97 (by decide) (fun c20 => ?_) (fun c20 => ?_)
      · refine bs_iload hC 4 dX10_run_112 rfl ?_
        exact bs_iret hC dX10_run_114 (hr _)
      refine bs_aload_n hC 1 dX10_run_100 rfl rfl ?_
      refine bs_get hC (v := .ref (bd_a ε 22)) hin_X10 0 (cM_o0 ε S) rfl 30 (by decide) mw_590 rfl dX10_run_101 ?_
      refine bs_iload hC 4 dX10_run_104 rfl ?_
      refine bs_iconst hC (1 : Int32) dX10_run_106 rfl ?_
      refine bs_iadd hC dX10_run_107 ?_
      refine bs_zald hC _ (cM_gz ε S 1 300 (by decide) rfl) dX10_run_108 (fun z18 ez18 => ?_)
      refine bs_if_ne hC 115 dX10_run_109 (by decide) (fun c19 => ?_) (fun c19 => ?_)
      · refine bs_iload hC 4 dX10_run_112 rfl ?_
        exact bs_iret hC dX10_run_114 (hr _)
      refine bs_iinc hC 4 [(5, .int (x5 + 1)), (4, .int (x4 + 1)), (0, .ref (bd_a ε 0)), (2, .int p2), (3, .int p3)] dX10_run_115 rfl rfl (by decide) rfl ?_
      refine bs_goto hC 41 dX10_run_118 (by decide) ?_
      refine bs_some ?_
      refine bs_pick [2, 3, 4, 1, 0] rfl ?_
      exact hk (x4 + 1) (x5 + 1) S
    refine bs_iinc hC 4 [(5, .int (x5 + 1)), (4, .int (x4 + 1)), (0, .ref (bd_a ε 0)), (2, .int p2), (3, .int p3)] dX10_run_115 rfl rfl (by decide) rfl ?_
    refine bs_goto hC 41 dX10_run_118 (by decide) ?_
    refine bs_some ?_
    refine bs_pick [2, 3, 4, 1, 0] rfl ?_
    exact hk (x4 + 1) (x5 + 1) S
  refine bs_iload hC 3 dX10_run_82 rfl ?_
  refine bs_iload_n hC 1 dX10_run_84 rfl rfl ?_
  refine bs_icmp_ne hC 115 dX10_run_85 (by decide) (fun c27 => ?_) (fun c27 => ?_)
  · refine bs_iload_n hC 2 dX10_run_88 rfl rfl ?_
    refine bs_if_eq hC 112 dX10_run_89 (by decide) (fun c26 => ?_) (fun c26 => ?_)
    · refine bs_iload hC 4 dX10_run_112 rfl ?_
      exact bs_iret hC dX10_run_114 (hr _)
    refine bs_iload hC 4 dX10_run_92 rfl ?_
    refine bs_sipush hC (299 : Int32) dX10_run_94 rfl ?_
    refine bs_icmp_eq hC 112 dX10_run_97 (by decide) (fun c25 => ?_) (fun c25 => ?_)
    · refine bs_iload hC 4 dX10_run_112 rfl ?_
      exact bs_iret hC dX10_run_114 (hr _)
    refine bs_aload_n hC 0 dX10_run_100 rfl rfl ?_
    refine bs_get hC (v := .ref (bd_a ε 22)) hin_X10 0 (cM_o0 ε S) rfl 30 (by decide) mw_590 rfl dX10_run_101 ?_
    refine bs_iload hC 4 dX10_run_104 rfl ?_
    refine bs_iconst hC (1 : Int32) dX10_run_106 rfl ?_
    refine bs_iadd hC dX10_run_107 ?_
    refine bs_zald hC _ (cM_gz ε S 1 300 (by decide) rfl) dX10_run_108 (fun z23 ez23 => ?_)
    refine bs_if_ne hC 115 dX10_run_109 (by decide) (fun c24 => ?_) (fun c24 => ?_)
    · refine bs_iload hC 4 dX10_run_112 rfl ?_
      exact bs_iret hC dX10_run_114 (hr _)
    refine bs_iinc hC 4 [(5, .int (x5 + 1)), (0, .ref (bd_a ε 0)), (2, .int p2), (3, .int p3), (4, .int x4)] dX10_run_115 rfl rfl (by decide) rfl ?_
    refine bs_goto hC 41 dX10_run_118 (by decide) ?_
    refine bs_some ?_
    refine bs_pick [1, 2, 3, 4, 0] rfl ?_
    exact hk x4 (x5 + 1) S
  refine bs_iinc hC 4 [(5, .int (x5 + 1)), (0, .ref (bd_a ε 0)), (2, .int p2), (3, .int p3), (4, .int x4)] dX10_run_115 rfl rfl (by decide) rfl ?_
  refine bs_goto hC 41 dX10_run_118 (by decide) ?_
  refine bs_some ?_
  refine bs_pick [1, 2, 3, 4, 0] rfl ?_
  exact hk x4 (x5 + 1) S
set_option maxRecDepth 100000 in
set_option maxHeartbeats 4000000 in
theorem b_X10_run {Γ : bd_G} {ε : bd_E} {t0 : Option (Int32 × bd_T)} (hC : bd_C Γ cX10_run 6 RX10 (some .int) ({ frames := 5, cells := 0, slots := 0, locals := 116 } : Room) ε (cM ε) bd_vi t0) (x1 : Int32) (x2 : Int32) (x3 : Int32)  (S : bd_T) : bd_S Γ 6 t0 ((f_X10_run x1 x2 x3 S).bind some) (cM ε S) 0 [(0, .ref (bd_a ε 0)), (1, .int x1), (2, .int x2), (3, .int x3)] [] := by
  unfold f_X10_run
  refine bs_aload_n hC 0 dX10_run_0 rfl rfl ?_
  refine bs_iload_n hC 1 dX10_run_1 rfl rfl ?_
  refine bs_callV_i hC (rm := ({ frames := 0, cells := 0, slots := 0, locals := 0 } : Room)) [.int x1] [] (fun h => c_X10_isThing (bd_l Γ) (bd_D Γ) ε x1 S h) mw_670 mw_668 mw_669 mw_82 mw_52 (cM_o0 ε S) rfl by_X10_isThing ⟨rfl, rfl, by decide, by decide⟩ rfl rfl (Nat.le_of_ble_eq_true rfl) dX10_run_2 (fun r1 S2 eS2 => ?_)
  refine bs_if_ne hC 14 dX10_run_5 (by decide) (fun c34 => ?_) (fun c34 => ?_)
  · refine bs_aload_n hC 0 dX10_run_8 rfl rfl ?_
    refine bs_iconst hC (-1 : Int32) dX10_run_9 rfl ?_
    refine bs_callV_i hC (rm := ({ frames := 0, cells := 0, slots := 0, locals := 0 } : Room)) [.int (-1 : Int32)] [] (fun h => c_X10_no (bd_l Γ) (bd_D Γ) ε (-1 : Int32) S2 h) mw_646 mw_644 mw_645 mw_82 mw_48 (cM_o0 ε S2) rfl by_X10_no ⟨rfl, rfl, by decide, by decide⟩ rfl rfl (Nat.le_of_ble_eq_true rfl) dX10_run_10 (fun r3 S4 eS4 => ?_)
    exact bs_iret hC dX10_run_13 rfl
  refine bs_iload_n hC 3 dX10_run_14 rfl rfl ?_
  refine bs_iconst hC (0 : Int32) dX10_run_15 rfl ?_
  refine bs_iconst hC (1 : Int32) dX10_run_16 rfl ?_
  refine bs_callS_i hC (rm := ({ frames := 0, cells := 0, slots := 0, locals := 0 } : Room)) [.int x3, .int (0 : Int32), .int (1 : Int32)] [] (fun h => c_X10_isIn (bd_l Γ) (bd_D Γ) ε x3 (0 : Int32) (1 : Int32) S2 h) mw_663 mw_661 mw_662 mw_82 by_X10_isIn ⟨rfl, rfl, by decide, by decide⟩ rfl rfl (Nat.le_of_ble_eq_true rfl) dX10_run_17 (fun r5 S6 eS6 => ?_)
  refine bs_if_ne hC 30 dX10_run_20 (by decide) (fun c33 => ?_) (fun c33 => ?_)
  · refine bs_aload_n hC 0 dX10_run_23 rfl rfl ?_
    refine bs_bipush hC (-2 : Int32) dX10_run_24 rfl ?_
    refine bs_callV_i hC (rm := ({ frames := 0, cells := 0, slots := 0, locals := 0 } : Room)) [.int (-2 : Int32)] [] (fun h => c_X10_no (bd_l Γ) (bd_D Γ) ε (-2 : Int32) S6 h) mw_646 mw_644 mw_645 mw_82 mw_48 (cM_o0 ε S6) rfl by_X10_no ⟨rfl, rfl, by decide, by decide⟩ rfl rfl (Nat.le_of_ble_eq_true rfl) dX10_run_26 (fun r7 S8 eS8 => ?_)
    exact bs_iret hC dX10_run_29 rfl
  refine bs_aload_n hC 0 dX10_run_30 rfl rfl ?_
  refine bs_iload_n hC 1 dX10_run_31 rfl rfl ?_
  refine bs_callV_v hC (rm := ({ frames := 4, cells := 0, slots := 0, locals := 94 } : Room)) [.int x1] [] (fun h => c_X10_findMay (bd_l Γ) (bd_D Γ) ε x1 S6 h) mw_753 mw_751 mw_752 mw_82 mw_64 (cM_o0 ε S6) rfl by_X10_findMay ⟨rfl, rfl, by decide, by decide⟩ rfl rfl (Nat.le_of_ble_eq_true rfl) dX10_run_32 (fun r9 S10 eS10 => ?_)
  refine bs_iconst hC (-1 : Int32) dX10_run_35 rfl ?_
  refine bs_istore hC [(4, .int (-1 : Int32)), (0, .ref (bd_a ε 0)), (1, .int x1), (2, .int x2), (3, .int x3)] dX10_run_36 (by decide) rfl ?_
  refine bs_iconst hC (0 : Int32) dX10_run_38 rfl ?_
  refine bs_istore hC [(5, .int (0 : Int32)), (4, .int (-1 : Int32)), (0, .ref (bd_a ε 0)), (1, .int x1), (2, .int x2), (3, .int x3)] dX10_run_39 (by decide) rfl ?_
  refine bs_pick [2, 4, 5, 1, 0] rfl ?_
  refine bs_loopK (fun (q : Int32 × Int32 × bd_T) t => bd_S Γ 6 t0 t (cM ε (q.2.2)) 41 [(0, .ref (bd_a ε 0)), (2, .int x2), (3, .int x3), (4, .int (q.1)), (5, .int (q.2.1))] []) (fun (q : (Int32 × bd_T) ⊕ (bd_T)) t => Sum.elim (fun (z : Int32 × bd_T) => t = some z) (fun (q : bd_T) => bd_S Γ 6 t0 t (cM ε (q)) 121 [] []) q) (fun q => fb_X10_run_41 x2 x3 q.1 q.2.1 q.2.2) (fun _ => bs_none) (fun K hk hx q => lb_X10_run_41 hC   x2 x3 (fun a0 a1 S => hk (a0, a1, S)) (fun  S => hx (.inr (S))) (fun z => hx (.inl z)) (q.1) (q.2.1) (q.2.2)) (fun r => ?_) bd_K ((-1 : Int32), (0 : Int32), S10)
  rcases r with r | r
  · exact rfl
  obtain ⟨S32, rfl⟩ : ∃ z, z = r := ⟨_, rfl⟩
  show bd_S Γ 6 t0 (Option.bind _ _) (cM ε S32) 121 [] []
  try dsimp only [Sum.elim_inr]
  refine bs_bipush hC (-9 : Int32) dX10_run_121 rfl ?_
  exact bs_iret hC dX10_run_123 rfl
theorem c_X10_run (l : Launch) (D : va_G) (ε : bd_E) (x1 : Int32) (x2 : Int32) (x3 : Int32)  (S : bd_T) (h0 : (f_X10_run x1 x2 x3 S).isSome = true) : bd_Con l yX10_run (Cond.code yX10_run cX10_run 6 (some .int) :: bd_tbl) ({ frames := 5, cells := 0, slots := 0, locals := 116 } : Room) D ε (cM ε) bd_vi [.ref (bd_a ε 0), .int x1, .int x2, .int x3] S (f_X10_run x1 x2 x3 S) :=
  bd_con (by decide +kernel) (Nat.le_of_ble_eq_true rfl) ⟨rfl, rfl⟩ h0 (fun Γ _ _ hC => bs_eq bs_bs (b_X10_run hC x1 x2 x3 S))
set_option maxRecDepth 100000 in
set_option maxHeartbeats 4000000 in
theorem lb_X10_divisor_6 {Γ : bd_G} {ε : bd_E} {t0 : Option (Int64 × bd_T)} (hC : bd_C Γ cX10_divisor 10 RX10 (some .long) ({ frames := 0, cells := 0, slots := 0, locals := 0 } : Room) ε (cM ε) bd_vl t0)  {K : (Int64 × Int64 × bd_T) ⊕ (Int64 × bd_T) → Option (Int64 × bd_T)} (hk : ∀ (x4 : Int64) (x6 : Int64) (S : bd_T), bd_S Γ 10 t0 (K (.inl (x4, x6, S))) (cM ε S) 6 [(4, .long x4), (6, .long x6)] []) (hx : ∀ (y4 : Int64) (S : bd_T), bd_S Γ 10 t0 (K (.inr (y4, S))) (cM ε S) 31 [(4, .long y4)] []) (x4 : Int64) (x6 : Int64) (S : bd_T) : bd_S Γ 10 t0 ((fb_X10_divisor_6 x4 x6 S).bind K) (cM ε S) 6 [(4, .long x4), (6, .long x6)] [] := by
  unfold fb_X10_divisor_6
  refine bs_lload hC 1 dX10_divisor_6 rfl ?_
  refine bs_lconst hC (0 : Int64) dX10_divisor_8 rfl ?_
  refine bs_lif_eq hC 31 dX10_divisor_9 dX10_divisor_10 (by decide) (fun c2 => ?_) (fun c2 => ?_)
  · refine bs_some ?_
    refine bs_pick [0] rfl ?_
    exact hx x4 S
  refine bs_lload hC 0 dX10_divisor_13 rfl ?_
  refine bs_lload hC 1 dX10_divisor_15 rfl ?_
  refine bs_lrem hC dX10_divisor_17 (fun z1 ez1 => ?_)
  refine bs_lstore hC [(8, .long z1), (4, .long x4), (6, .long x6)] dX10_divisor_18 (by decide) rfl ?_
  refine bs_lload hC 2 dX10_divisor_20 rfl ?_
  refine bs_lstore hC [(4, .long x6), (8, .long z1), (6, .long x6)] dX10_divisor_22 (by decide) rfl ?_
  refine bs_lload hC 1 dX10_divisor_24 rfl ?_
  refine bs_lstore hC [(6, .long z1), (4, .long x6), (8, .long z1)] dX10_divisor_26 (by decide) rfl ?_
  refine bs_goto hC 6 dX10_divisor_28 (by decide) ?_
  refine bs_some ?_
  refine bs_pick [1, 0] rfl ?_
  exact hk x6 z1 S
set_option maxRecDepth 100000 in
set_option maxHeartbeats 4000000 in
theorem b_X10_divisor {Γ : bd_G} {ε : bd_E} {t0 : Option (Int64 × bd_T)} (hC : bd_C Γ cX10_divisor 10 RX10 (some .long) ({ frames := 0, cells := 0, slots := 0, locals := 0 } : Room) ε (cM ε) bd_vl t0) (x0 : Int64) (x2 : Int64)  (S : bd_T) : bd_S Γ 10 t0 ((f_X10_divisor x0 x2 S).bind some) (cM ε S) 0 [(0, .long x0), (2, .long x2)] [] := by
  unfold f_X10_divisor
  refine bs_lload_n hC 0 dX10_divisor_0 rfl rfl ?_
  refine bs_lstore hC [(4, .long x0), (0, .long x0), (2, .long x2)] dX10_divisor_1 (by decide) rfl ?_
  refine bs_lload_n hC 2 dX10_divisor_3 rfl rfl ?_
  refine bs_lstore hC [(6, .long x2), (4, .long x0), (0, .long x0), (2, .long x2)] dX10_divisor_4 (by decide) rfl ?_
  refine bs_pick [1, 0] rfl ?_
  refine bs_loopK (fun (q : Int64 × Int64 × bd_T) t => bd_S Γ 10 t0 t (cM ε (q.2.2)) 6 [(4, .long (q.1)), (6, .long (q.2.1))] []) (fun (q : Int64 × bd_T) t => bd_S Γ 10 t0 t (cM ε (q.2)) 31 [(4, .long (q.1))] []) (fun q => fb_X10_divisor_6 q.1 q.2.1 q.2.2) (fun _ => bs_none) (fun K hk hx q => lb_X10_divisor_6 hC    (fun a0 a1 S => hk (a0, a1, S)) (fun b0 S => hx (b0, S))  (q.1) (q.2.1) (q.2.2)) (fun r => ?_) bd_K (x0, x2, S)
  obtain ⟨y3, S4⟩ := r
  show bd_S Γ 10 t0 (Option.bind _ _) (cM ε S4) 31 [(4, .long y3)] []
  try dsimp only
  refine bs_lload hC 0 dX10_divisor_31 rfl ?_
  exact bs_lret hC dX10_divisor_33 rfl
theorem c_X10_divisor (l : Launch) (D : va_G) (ε : bd_E) (x0 : Int64) (x2 : Int64)  (S : bd_T) (h0 : (f_X10_divisor x0 x2 S).isSome = true) : bd_Con l yX10_divisor (Cond.code yX10_divisor cX10_divisor 10 (some .long) :: bd_tbl) ({ frames := 0, cells := 0, slots := 0, locals := 0 } : Room) D ε (cM ε) bd_vl [.long x0, .long x2] S (f_X10_divisor x0 x2 S) :=
  bd_con (by decide +kernel) (Nat.le_of_ble_eq_true rfl) ⟨rfl, rfl⟩ h0 (fun Γ _ _ hC => bs_eq bs_bs (b_X10_divisor hC x0 x2 S))
set_option maxRecDepth 100000 in
set_option maxHeartbeats 4000000 in
theorem b_X10_chance {Γ : bd_G} {ε : bd_E} {t0 : Option (Int64 × bd_T)} (hC : bd_C Γ cX10_chance 9 RX10 (some .long) ({ frames := 4, cells := 0, slots := 0, locals := 94 } : Room) ε (cM ε) bd_vl t0) (x1 : Int32) (x2 : Int32) (x3 : Int32)  (S : bd_T) : bd_S Γ 9 t0 ((f_X10_chance x1 x2 x3 S).bind some) (cM ε S) 0 [(0, .ref (bd_a ε 0)), (1, .int x1), (2, .int x2), (3, .int x3)] [] := by
  unfold f_X10_chance
  refine bs_aload_n hC 0 dX10_chance_0 rfl rfl ?_
  refine bs_iload_n hC 1 dX10_chance_1 rfl rfl ?_
  refine bs_callV_i hC (rm := ({ frames := 0, cells := 0, slots := 0, locals := 0 } : Room)) [.int x1] [] (fun h => c_X10_isThing (bd_l Γ) (bd_D Γ) ε x1 S h) mw_670 mw_668 mw_669 mw_82 mw_52 (cM_o0 ε S) rfl by_X10_isThing ⟨rfl, rfl, by decide, by decide⟩ rfl rfl (Nat.le_of_ble_eq_true rfl) dX10_chance_2 (fun r1 S2 eS2 => ?_)
  refine bs_if_ne hC 15 dX10_chance_5 (by decide) (fun c31 => ?_) (fun c31 => ?_)
  · refine bs_aload_n hC 0 dX10_chance_8 rfl rfl ?_
    refine bs_iconst hC (-1 : Int32) dX10_chance_9 rfl ?_
    refine bs_callV_i hC (rm := ({ frames := 0, cells := 0, slots := 0, locals := 0 } : Room)) [.int (-1 : Int32)] [] (fun h => c_X10_no (bd_l Γ) (bd_D Γ) ε (-1 : Int32) S2 h) mw_646 mw_644 mw_645 mw_82 mw_48 (cM_o0 ε S2) rfl by_X10_no ⟨rfl, rfl, by decide, by decide⟩ rfl rfl (Nat.le_of_ble_eq_true rfl) dX10_chance_10 (fun r3 S4 eS4 => ?_)
    refine bs_i2l hC dX10_chance_13 ?_
    exact bs_lret hC dX10_chance_14 rfl
  refine bs_iload_n hC 3 dX10_chance_15 rfl rfl ?_
  refine bs_iconst hC (0 : Int32) dX10_chance_16 rfl ?_
  refine bs_iconst hC (1 : Int32) dX10_chance_17 rfl ?_
  refine bs_callS_i hC (rm := ({ frames := 0, cells := 0, slots := 0, locals := 0 } : Room)) [.int x3, .int (0 : Int32), .int (1 : Int32)] [] (fun h => c_X10_isIn (bd_l Γ) (bd_D Γ) ε x3 (0 : Int32) (1 : Int32) S2 h) mw_663 mw_661 mw_662 mw_82 by_X10_isIn ⟨rfl, rfl, by decide, by decide⟩ rfl rfl (Nat.le_of_ble_eq_true rfl) dX10_chance_18 (fun r5 S6 eS6 => ?_)
  refine bs_if_ne hC 32 dX10_chance_21 (by decide) (fun c30 => ?_) (fun c30 => ?_)
  · refine bs_aload_n hC 0 dX10_chance_24 rfl rfl ?_
    refine bs_bipush hC (-2 : Int32) dX10_chance_25 rfl ?_
    refine bs_callV_i hC (rm := ({ frames := 0, cells := 0, slots := 0, locals := 0 } : Room)) [.int (-2 : Int32)] [] (fun h => c_X10_no (bd_l Γ) (bd_D Γ) ε (-2 : Int32) S6 h) mw_646 mw_644 mw_645 mw_82 mw_48 (cM_o0 ε S6) rfl by_X10_no ⟨rfl, rfl, by decide, by decide⟩ rfl rfl (Nat.le_of_ble_eq_true rfl) dX10_chance_27 (fun r7 S8 eS8 => ?_)
    refine bs_i2l hC dX10_chance_30 ?_
    exact bs_lret hC dX10_chance_31 rfl
  refine bs_iload_n hC 2 dX10_chance_32 rfl rfl ?_
  refine bs_iconst hC (0 : Int32) dX10_chance_33 rfl ?_
  refine bs_sipush hC (299 : Int32) dX10_chance_34 rfl ?_
  refine bs_callS_i hC (rm := ({ frames := 0, cells := 0, slots := 0, locals := 0 } : Room)) [.int x2, .int (0 : Int32), .int (299 : Int32)] [] (fun h => c_X10_out (bd_l Γ) (bd_D Γ) ε x2 (0 : Int32) (299 : Int32) S6 h) mw_643 mw_641 mw_642 mw_82 by_X10_out ⟨rfl, rfl, by decide, by decide⟩ rfl rfl (Nat.le_of_ble_eq_true rfl) dX10_chance_37 (fun r9 S10 eS10 => ?_)
  refine bs_istore hC [(4, .int r9), (0, .ref (bd_a ε 0)), (1, .int x1), (2, .int x2), (3, .int x3)] dX10_chance_40 (by decide) rfl ?_
  refine bs_iload hC 0 dX10_chance_42 rfl ?_
  refine bs_if_eq hC 55 dX10_chance_44 (by decide) (fun c29 => ?_) (fun c29 => ?_)
  · refine bs_aload_n hC 1 dX10_chance_55 rfl rfl ?_
    refine bs_callV_v hC (rm := ({ frames := 3, cells := 0, slots := 0, locals := 72 } : Room)) [] [] (fun h => c_X10_finds (bd_l Γ) (bd_D Γ) ε S10 h) mw_717 mw_715 mw_716 mw_82 mw_56 (cM_o0 ε S10) rfl by_X10_finds ⟨rfl, rfl, by decide, by decide⟩ rfl rfl (Nat.le_of_ble_eq_true rfl) dX10_chance_56 (fun r11 S12 eS12 => ?_)
    refine bs_aload_n hC 1 dX10_chance_59 rfl rfl ?_
    refine bs_iload_n hC 2 dX10_chance_60 rfl rfl ?_
    refine bs_iload_n hC 3 dX10_chance_61 rfl rfl ?_
    refine bs_callV_l hC (rm := ({ frames := 3, cells := 0, slots := 0, locals := 71 } : Room)) [.int x1, .int x2] [] (fun h => c_X10_waysWith (bd_l Γ) (bd_D Γ) ε x1 x2 S12 h) mw_756 mw_754 mw_755 mw_82 mw_65 (cM_o0 ε S12) rfl by_X10_waysWith ⟨rfl, rfl, by decide, by decide⟩ rfl rfl (Nat.le_of_ble_eq_true rfl) dX10_chance_62 (fun r13 S14 eS14 => ?_)
    refine bs_lstore hC [(5, .long r13), (4, .int r9), (0, .ref (bd_a ε 0)), (1, .int x1), (2, .int x2), (3, .int x3)] dX10_chance_65 (by decide) rfl ?_
    refine bs_lload hC 0 dX10_chance_67 rfl ?_
    refine bs_lconst hC (0 : Int64) dX10_chance_69 rfl ?_
    refine bs_lif_ne hC 77 dX10_chance_70 dX10_chance_71 (by decide) (fun c26 => ?_) (fun c26 => ?_)
    · refine bs_iload_n hC 5 dX10_chance_74 rfl rfl ?_
      refine bs_i2l hC dX10_chance_75 ?_
      exact bs_lret hC dX10_chance_76 rfl
    refine bs_aload_n hC 2 dX10_chance_77 rfl rfl ?_
    refine bs_callV_v hC (rm := ({ frames := 0, cells := 0, slots := 0, locals := 0 } : Room)) [] [] (fun h => c_X10_frees (bd_l Γ) (bd_D Γ) ε S14 h) mw_723 mw_721 mw_722 mw_82 mw_58 (cM_o0 ε S14) rfl by_X10_frees ⟨rfl, rfl, by decide, by decide⟩ rfl rfl (Nat.le_of_ble_eq_true rfl) dX10_chance_78 (fun r15 S16 eS16 => ?_)
    refine bs_aload_n hC 2 dX10_chance_81 rfl rfl ?_
    refine bs_callV_l hC (rm := ({ frames := 2, cells := 0, slots := 0, locals := 47 } : Room)) [] [] (fun h => c_X10_waysOf (bd_l Γ) (bd_D Γ) ε S16 h) mw_740 mw_738 mw_739 mw_82 mw_61 (cM_o0 ε S16) rfl by_X10_waysOf ⟨rfl, rfl, by decide, by decide⟩ rfl rfl (Nat.le_of_ble_eq_true rfl) dX10_chance_82 (fun r17 S18 eS18 => ?_)
    refine bs_lstore hC [(7, .long r17), (5, .long r13), (4, .int r9), (0, .ref (bd_a ε 0)), (1, .int x1), (2, .int x2), (3, .int x3)] dX10_chance_85 (by decide) rfl ?_
    refine bs_iload_n hC 6 dX10_chance_87 rfl rfl ?_
    refine bs_if_ne hC 96 dX10_chance_88 (by decide) (fun c25 => ?_) (fun c25 => ?_)
    · refine bs_lload hC 1 dX10_chance_91 rfl ?_
      refine bs_goto hC 98 dX10_chance_93 (by decide) ?_
      refine bs_lload hC 1 dX10_chance_98 rfl ?_
      refine bs_lload hC 0 dX10_chance_100 rfl ?_
      refine bs_callS_l hC (rm := ({ frames := 0, cells := 0, slots := 0, locals := 0 } : Room)) [.long r13, .long r17] [.long r13] (fun h => c_X10_divisor (bd_l Γ) (bd_D Γ) ε r13 r17 S18 h) mw_767 mw_765 mw_766 mw_82 by_X10_divisor ⟨rfl, rfl, by decide, by decide⟩ rfl rfl (Nat.le_of_ble_eq_true rfl) dX10_chance_102 (fun r19 S20 eS20 => ?_)
      refine bs_ldiv hC dX10_chance_105 (fun z21 ez21 => ?_)
      exact bs_lret hC dX10_chance_106 rfl
    refine bs_lload hC 0 dX10_chance_96 rfl ?_
    refine bs_lload hC 1 dX10_chance_98 rfl ?_
    refine bs_lload hC 0 dX10_chance_100 rfl ?_
    refine bs_callS_l hC (rm := ({ frames := 0, cells := 0, slots := 0, locals := 0 } : Room)) [.long r13, .long r17] [.long r17] (fun h => c_X10_divisor (bd_l Γ) (bd_D Γ) ε r13 r17 S18 h) mw_767 mw_765 mw_766 mw_82 by_X10_divisor ⟨rfl, rfl, by decide, by decide⟩ rfl rfl (Nat.le_of_ble_eq_true rfl) dX10_chance_102 (fun r22 S23 eS23 => ?_)
    refine bs_ldiv hC dX10_chance_105 (fun z24 ez24 => ?_)
    exact bs_lret hC dX10_chance_106 rfl
  refine bs_aload_n hC 1 dX10_chance_47 rfl rfl ?_
  refine bs_iload hC 0 dX10_chance_48 rfl ?_
  refine bs_callV_i hC (rm := ({ frames := 0, cells := 0, slots := 0, locals := 0 } : Room)) [.int r9] [] (fun h => c_X10_no (bd_l Γ) (bd_D Γ) ε r9 S10 h) mw_646 mw_644 mw_645 mw_82 mw_48 (cM_o0 ε S10) rfl by_X10_no ⟨rfl, rfl, by decide, by decide⟩ rfl rfl (Nat.le_of_ble_eq_true rfl) dX10_chance_50 (fun r27 S28 eS28 => ?_)
  refine bs_i2l hC dX10_chance_53 ?_
  exact bs_lret hC dX10_chance_54 rfl
theorem c_X10_chance (l : Launch) (D : va_G) (ε : bd_E) (x1 : Int32) (x2 : Int32) (x3 : Int32)  (S : bd_T) (h0 : (f_X10_chance x1 x2 x3 S).isSome = true) : bd_Con l yX10_chance (Cond.code yX10_chance cX10_chance 9 (some .long) :: bd_tbl) ({ frames := 4, cells := 0, slots := 0, locals := 94 } : Room) D ε (cM ε) bd_vl [.ref (bd_a ε 0), .int x1, .int x2, .int x3] S (f_X10_chance x1 x2 x3 S) :=
  bd_con (by decide +kernel) (Nat.le_of_ble_eq_true rfl) ⟨rfl, rfl⟩ h0 (fun Γ _ _ hC => bs_eq bs_bs (b_X10_chance hC x1 x2 x3 S))
set_option maxRecDepth 100000 in
set_option maxHeartbeats 4000000 in
theorem b_X10_put {Γ : bd_G} {ε : bd_E} {t0 : Option (Int32 × bd_T)} (hC : bd_C Γ cX10_put 3 RX10 (some .int) ({ frames := 1, cells := 0, slots := 0, locals := 22 } : Room) ε (cM ε) bd_vi t0) (x1 : Int32)  (S : bd_T) : bd_S Γ 3 t0 ((f_X10_put x1 S).bind some) (cM ε S) 0 [(0, .ref (bd_a ε 0)), (1, .int x1)] [] := by
  unfold f_X10_put
  refine bs_iload_n hC 1 dX10_put_0 rfl rfl ?_
  refine bs_iconst hC (0 : Int32) dX10_put_1 rfl ?_
  refine bs_sipush hC (299 : Int32) dX10_put_2 rfl ?_
  refine bs_callS_i hC (rm := ({ frames := 0, cells := 0, slots := 0, locals := 0 } : Room)) [.int x1, .int (0 : Int32), .int (299 : Int32)] [] (fun h => c_X10_out (bd_l Γ) (bd_D Γ) ε x1 (0 : Int32) (299 : Int32) S h) mw_643 mw_641 mw_642 mw_82 by_X10_out ⟨rfl, rfl, by decide, by decide⟩ rfl rfl (Nat.le_of_ble_eq_true rfl) dX10_put_5 (fun r1 S2 eS2 => ?_)
  refine bs_istore_n hC [(2, .int r1), (0, .ref (bd_a ε 0)), (1, .int x1)] dX10_put_8 rfl (by decide) rfl ?_
  refine bs_iload_n hC 0 dX10_put_9 rfl rfl ?_
  refine bs_if_ne hC 25 dX10_put_10 (by decide) (fun c16 => ?_) (fun c16 => ?_)
  · refine bs_aload_n hC 1 dX10_put_13 rfl rfl ?_
    refine bs_get hC (v := .int (bd_I S2 10)) hin_X10 0 (cM_o0 ε S2) rfl 32 (by decide) mw_592 rfl dX10_put_14 ?_
    refine bs_bipush hC (6 : Int32) dX10_put_17 rfl ?_
    refine bs_icmp_ne hC 25 dX10_put_19 (by decide) (fun c10 => ?_) (fun c10 => ?_)
    · refine bs_bipush hC (-6 : Int32) dX10_put_22 rfl ?_
      refine bs_istore_n hC [(2, .int (-6 : Int32)), (0, .ref (bd_a ε 0)), (1, .int x1)] dX10_put_24 rfl (by decide) rfl ?_
      refine bs_iload_n hC 0 dX10_put_25 rfl rfl ?_
      refine bs_if_eqF hC 35 dX10_put_26 (by decide) (by decide) ?_
      refine bs_aload_n hC 1 dX10_put_29 rfl rfl ?_
      refine bs_iload_n hC 0 dX10_put_30 rfl rfl ?_
      refine bs_callV_i hC (rm := ({ frames := 0, cells := 0, slots := 0, locals := 0 } : Room)) [.int (-6 : Int32)] [] (fun h => c_X10_no (bd_l Γ) (bd_D Γ) ε (-6 : Int32) S2 h) mw_646 mw_644 mw_645 mw_82 mw_48 (cM_o0 ε S2) rfl by_X10_no ⟨rfl, rfl, by decide, by decide⟩ rfl rfl (Nat.le_of_ble_eq_true rfl) dX10_put_31 (fun r3 S4 eS4 => ?_)
      exact bs_iret hC dX10_put_34 rfl
    refine bs_iload_n hC 0 dX10_put_25 rfl rfl ?_
    refine bs_if_eq hC 35 dX10_put_26 (by decide) (fun c9 => ?_) (fun c9 => ?_)
    · refine bs_aload_n hC 1 dX10_put_35 rfl rfl ?_
      refine bs_get hC (v := .ref (bd_a ε (1 + 17))) hin_X10 0 (cM_o0 ε S2) rfl 31 (by decide) mw_591 rfl dX10_put_36 ?_
      refine bs_aload_n hC 1 dX10_put_39 rfl rfl ?_
      refine bs_get hC (v := .int (bd_I S2 10)) hin_X10 0 (cM_o0 ε S2) rfl 32 (by decide) mw_592 rfl dX10_put_40 ?_
      refine bs_iload_n hC 2 dX10_put_43 rfl rfl ?_
      refine bs_iast hC _ (cM_gi ε S2 17 6 (by decide) rfl) (cM_si ε S2 17 6 (by decide) rfl _) dX10_put_44 (fun S5 eS5 => ?_)
      refine bs_aload_n hC 1 dX10_put_45 rfl rfl ?_
      refine bs_dup hC dX10_put_46 rfl ?_
      refine bs_get hC (v := .int (bd_I S5 10)) hin_X10 0 (cM_o0 ε S5) rfl 32 (by decide) mw_592 rfl dX10_put_47 ?_
      refine bs_iconst hC (1 : Int32) dX10_put_50 rfl ?_
      refine bs_iadd hC dX10_put_51 ?_
      refine bs_put hC (kk := 10) hin_X10 tyX10 tyX10_ok nmX10 0 (cM_o0 ε S5) rfl 32 (by decide) mw_592 rfl rfl rfl (Nat.le_of_ble_eq_true rfl) (cM_p10 ε S5 _) dX10_put_52 (fun S6 eS6 => ?_)
      refine bs_aload_n hC 1 dX10_put_55 rfl rfl ?_
      refine bs_get hC (v := .int (bd_I S6 10)) hin_X10 0 (cM_o0 ε S6) rfl 32 (by decide) mw_592 rfl dX10_put_56 ?_
      exact bs_iret hC dX10_put_59 rfl
    refine bs_aload_n hC 1 dX10_put_29 rfl rfl ?_
    refine bs_iload_n hC 0 dX10_put_30 rfl rfl ?_
    refine bs_callV_i hC (rm := ({ frames := 0, cells := 0, slots := 0, locals := 0 } : Room)) [.int r1] [] (fun h => c_X10_no (bd_l Γ) (bd_D Γ) ε r1 S2 h) mw_646 mw_644 mw_645 mw_82 mw_48 (cM_o0 ε S2) rfl by_X10_no ⟨rfl, rfl, by decide, by decide⟩ rfl rfl (Nat.le_of_ble_eq_true rfl) dX10_put_31 (fun r7 S8 eS8 => ?_)
    exact bs_iret hC dX10_put_34 rfl
  refine bs_iload_n hC 0 dX10_put_25 rfl rfl ?_
  refine bs_if_eq hC 35 dX10_put_26 (by decide) (fun c15 => ?_) (fun c15 => ?_)
  · refine bs_aload_n hC 1 dX10_put_35 rfl rfl ?_
    refine bs_get hC (v := .ref (bd_a ε (1 + 17))) hin_X10 0 (cM_o0 ε S2) rfl 31 (by decide) mw_591 rfl dX10_put_36 ?_
    refine bs_aload_n hC 1 dX10_put_39 rfl rfl ?_
    refine bs_get hC (v := .int (bd_I S2 10)) hin_X10 0 (cM_o0 ε S2) rfl 32 (by decide) mw_592 rfl dX10_put_40 ?_
    refine bs_iload_n hC 2 dX10_put_43 rfl rfl ?_
    refine bs_iast hC _ (cM_gi ε S2 17 6 (by decide) rfl) (cM_si ε S2 17 6 (by decide) rfl _) dX10_put_44 (fun S11 eS11 => ?_)
    refine bs_aload_n hC 1 dX10_put_45 rfl rfl ?_
    refine bs_dup hC dX10_put_46 rfl ?_
    refine bs_get hC (v := .int (bd_I S11 10)) hin_X10 0 (cM_o0 ε S11) rfl 32 (by decide) mw_592 rfl dX10_put_47 ?_
    refine bs_iconst hC (1 : Int32) dX10_put_50 rfl ?_
    refine bs_iadd hC dX10_put_51 ?_
    refine bs_put hC (kk := 10) hin_X10 tyX10 tyX10_ok nmX10 0 (cM_o0 ε S11) rfl 32 (by decide) mw_592 rfl rfl rfl (Nat.le_of_ble_eq_true rfl) (cM_p10 ε S11 _) dX10_put_52 (fun S12 eS12 => ?_)
    refine bs_aload_n hC 1 dX10_put_55 rfl rfl ?_
    refine bs_get hC (v := .int (bd_I S12 10)) hin_X10 0 (cM_o0 ε S12) rfl 32 (by decide) mw_592 rfl dX10_put_56 ?_
    exact bs_iret hC dX10_put_59 rfl
  refine bs_aload_n hC 1 dX10_put_29 rfl rfl ?_
  refine bs_iload_n hC 0 dX10_put_30 rfl rfl ?_
  refine bs_callV_i hC (rm := ({ frames := 0, cells := 0, slots := 0, locals := 0 } : Room)) [.int r1] [] (fun h => c_X10_no (bd_l Γ) (bd_D Γ) ε r1 S2 h) mw_646 mw_644 mw_645 mw_82 mw_48 (cM_o0 ε S2) rfl by_X10_no ⟨rfl, rfl, by decide, by decide⟩ rfl rfl (Nat.le_of_ble_eq_true rfl) dX10_put_31 (fun r13 S14 eS14 => ?_)
  exact bs_iret hC dX10_put_34 rfl
theorem c_X10_put (l : Launch) (D : va_G) (ε : bd_E) (x1 : Int32)  (S : bd_T) (h0 : (f_X10_put x1 S).isSome = true) : bd_Con l yX10_put (Cond.code yX10_put cX10_put 3 (some .int) :: bd_tbl) ({ frames := 1, cells := 0, slots := 0, locals := 22 } : Room) D ε (cM ε) bd_vi [.ref (bd_a ε 0), .int x1] S (f_X10_put x1 S) :=
  bd_con (by decide +kernel) (Nat.le_of_ble_eq_true rfl) ⟨rfl, rfl⟩ h0 (fun Γ _ _ hC => bs_eq bs_bs (b_X10_put hC x1 S))
set_option maxRecDepth 100000 in
set_option maxHeartbeats 4000000 in
theorem b_X10_isJoined {Γ : bd_G} {ε : bd_E} {t0 : Option (Int32 × bd_T)} (hC : bd_C Γ cX10_isJoined 4 RX10 (some .boolean) ({ frames := 0, cells := 0, slots := 0, locals := 0 } : Room) ε (cM ε) bd_vi t0) (x1 : Int32)  (S : bd_T) : bd_S Γ 4 t0 ((f_X10_isJoined x1 S).bind some) (cM ε S) 0 [(0, .ref (bd_a ε 0)), (1, .int x1)] [] := by
  unfold f_X10_isJoined
  refine bs_aload_n hC 0 dX10_isJoined_0 rfl rfl ?_
  refine bs_get hC (v := .ref (bd_a ε (1 + 17))) hin_X10 0 (cM_o0 ε S) rfl 31 (by decide) mw_591 rfl dX10_isJoined_1 ?_
  refine bs_iload_n hC 1 dX10_isJoined_4 rfl rfl ?_
  refine bs_iald hC _ (cM_gi ε S 17 6 (by decide) rfl) dX10_isJoined_5 (fun z1 ez1 => ?_)
  refine bs_aload_n hC 0 dX10_isJoined_6 rfl rfl ?_
  refine bs_get hC (v := .ref (bd_a ε (1 + 17))) hin_X10 0 (cM_o0 ε S) rfl 31 (by decide) mw_591 rfl dX10_isJoined_7 ?_
  refine bs_aload_n hC 0 dX10_isJoined_10 rfl rfl ?_
  refine bs_get hC (v := .ref (bd_a ε (1 + 12))) hin_X10 0 (cM_o0 ε S) rfl 21 (by decide) mw_581 rfl dX10_isJoined_11 ?_
  refine bs_iload_n hC 1 dX10_isJoined_14 rfl rfl ?_
  refine bs_iald hC _ (cM_gi ε S 12 6 (by decide) rfl) dX10_isJoined_15 (fun z2 ez2 => ?_)
  refine bs_iald hC _ (cM_gi ε S 17 6 (by decide) rfl) dX10_isJoined_16 (fun z3 ez3 => ?_)
  refine bs_isub hC dX10_isJoined_17 ?_
  refine bs_leti (fun z4 ez4 => ?_)
  refine bs_istore_n hC [(2, .int z4), (0, .ref (bd_a ε 0)), (1, .int x1)] dX10_isJoined_18 rfl (by decide) rfl ?_
  refine bs_aload_n hC 1 dX10_isJoined_19 rfl rfl ?_
  refine bs_get hC (v := .ref (bd_a ε (1 + 14))) hin_X10 0 (cM_o0 ε S) rfl 23 (by decide) mw_583 rfl dX10_isJoined_20 ?_
  refine bs_iload_n hC 2 dX10_isJoined_23 rfl rfl ?_
  refine bs_iald hC _ (cM_gi ε S 14 6 (by decide) rfl) dX10_isJoined_24 (fun z5 ez5 => ?_)
  refine bs_istore_n hC [(3, .int z5), (2, .int z4), (0, .ref (bd_a ε 0)), (1, .int x1)] dX10_isJoined_25 rfl (by decide) rfl ?_
  refine bs_aload_n hC 2 dX10_isJoined_26 rfl rfl ?_
  refine bs_get hC (v := .ref (bd_a ε (1 + 13))) hin_X10 0 (cM_o0 ε S) rfl 22 (by decide) mw_582 rfl dX10_isJoined_27 ?_
  refine bs_iload_n hC 3 dX10_isJoined_30 rfl rfl ?_
  refine bs_iald hC _ (cM_gi ε S 13 6 (by decide) rfl) dX10_isJoined_31 (fun z6 ez6 => ?_)
  refine bs_if_ne hC 48 dX10_isJoined_32 (by decide) (fun c16 => ?_) (fun c16 => ?_)
  · refine bs_iload_n hC 1 dX10_isJoined_35 rfl rfl ?_
    refine bs_iload_n hC 0 dX10_isJoined_36 rfl rfl ?_
    refine bs_icmp_ne hC 44 dX10_isJoined_37 (by decide) (fun c7 => ?_) (fun c7 => ?_)
    · refine bs_iconst hC (1 : Int32) dX10_isJoined_40 rfl ?_
      refine bs_goto hC 111 dX10_isJoined_41 (by decide) ?_
      exact bs_zret hC dX10_isJoined_111 rfl rfl
    refine bs_iconst hC (0 : Int32) dX10_isJoined_44 rfl ?_
    refine bs_goto hC 111 dX10_isJoined_45 (by decide) ?_
    exact bs_zret hC dX10_isJoined_111 rfl rfl
  refine bs_aload_n hC 2 dX10_isJoined_48 rfl rfl ?_
  refine bs_get hC (v := .ref (bd_a ε (1 + 13))) hin_X10 0 (cM_o0 ε S) rfl 22 (by decide) mw_582 rfl dX10_isJoined_49 ?_
  refine bs_iload_n hC 3 dX10_isJoined_52 rfl rfl ?_
  refine bs_iald hC _ (cM_gi ε S 13 6 (by decide) rfl) dX10_isJoined_53 (fun z8 ez8 => ?_)
  refine bs_iconst hC (1 : Int32) dX10_isJoined_54 rfl ?_
  refine bs_icmp_ne hC 71 dX10_isJoined_55 (by decide) (fun c15 => ?_) (fun c15 => ?_)
  · refine bs_iload_n hC 1 dX10_isJoined_58 rfl rfl ?_
    refine bs_iload_n hC 0 dX10_isJoined_59 rfl rfl ?_
    refine bs_icmp_lt hC 67 dX10_isJoined_60 (by decide) (fun c9 => ?_) (fun c9 => ?_)
    · refine bs_iconst hC (0 : Int32) dX10_isJoined_67 rfl ?_
      refine bs_goto hC 111 dX10_isJoined_68 (by decide) ?_
      exact bs_zret hC dX10_isJoined_111 rfl rfl
    refine bs_iconst hC (1 : Int32) dX10_isJoined_63 rfl ?_
    refine bs_goto hC 111 dX10_isJoined_64 (by decide) ?_
    exact bs_zret hC dX10_isJoined_111 rfl rfl
  refine bs_aload_n hC 2 dX10_isJoined_71 rfl rfl ?_
  refine bs_get hC (v := .ref (bd_a ε (1 + 13))) hin_X10 0 (cM_o0 ε S) rfl 22 (by decide) mw_582 rfl dX10_isJoined_72 ?_
  refine bs_iload_n hC 3 dX10_isJoined_75 rfl rfl ?_
  refine bs_iald hC _ (cM_gi ε S 13 6 (by decide) rfl) dX10_isJoined_76 (fun z10 ez10 => ?_)
  refine bs_iconst hC (2 : Int32) dX10_isJoined_77 rfl ?_
  refine bs_icmp_ne hC 95 dX10_isJoined_78 (by decide) (fun c14 => ?_) (fun c14 => ?_)
  · refine bs_iload_n hC 1 dX10_isJoined_81 rfl rfl ?_
    refine bs_iload_n hC 0 dX10_isJoined_82 rfl rfl ?_
    refine bs_ineg hC dX10_isJoined_83 ?_
    refine bs_icmp_gt hC 91 dX10_isJoined_84 (by decide) (fun c11 => ?_) (fun c11 => ?_)
    · refine bs_iconst hC (0 : Int32) dX10_isJoined_91 rfl ?_
      refine bs_goto hC 111 dX10_isJoined_92 (by decide) ?_
      exact bs_zret hC dX10_isJoined_111 rfl rfl
    refine bs_iconst hC (1 : Int32) dX10_isJoined_87 rfl ?_
    refine bs_goto hC 111 dX10_isJoined_88 (by decide) ?_
    exact bs_zret hC dX10_isJoined_111 rfl rfl
  refine bs_iload_n hC 1 dX10_isJoined_95 rfl rfl ?_
  refine bs_iload_n hC 0 dX10_isJoined_96 rfl rfl ?_
  refine bs_icmp_gt hC 110 dX10_isJoined_97 (by decide) (fun c13 => ?_) (fun c13 => ?_)
  · refine bs_iconst hC (0 : Int32) dX10_isJoined_110 rfl ?_
    exact bs_zret hC dX10_isJoined_111 rfl rfl
  refine bs_iload_n hC 1 dX10_isJoined_100 rfl rfl ?_
  refine bs_iload_n hC 0 dX10_isJoined_101 rfl rfl ?_
  refine bs_ineg hC dX10_isJoined_102 ?_
  refine bs_icmp_lt hC 110 dX10_isJoined_103 (by decide) (fun c12 => ?_) (fun c12 => ?_)
  · refine bs_iconst hC (0 : Int32) dX10_isJoined_110 rfl ?_
    exact bs_zret hC dX10_isJoined_111 rfl rfl
  refine bs_iconst hC (1 : Int32) dX10_isJoined_106 rfl ?_
  refine bs_goto hC 111 dX10_isJoined_107 (by decide) ?_
  exact bs_zret hC dX10_isJoined_111 rfl rfl
theorem c_X10_isJoined (l : Launch) (D : va_G) (ε : bd_E) (x1 : Int32)  (S : bd_T) (h0 : (f_X10_isJoined x1 S).isSome = true) : bd_Con l yX10_isJoined (Cond.code yX10_isJoined cX10_isJoined 4 (some .boolean) :: bd_tbl) ({ frames := 0, cells := 0, slots := 0, locals := 0 } : Room) D ε (cM ε) bd_vi [.ref (bd_a ε 0), .int x1] S (f_X10_isJoined x1 S) :=
  bd_con (by decide +kernel) (Nat.le_of_ble_eq_true rfl) ⟨rfl, rfl⟩ h0 (fun Γ _ _ hC => bs_eq bs_bs (b_X10_isJoined hC x1 S))
set_option maxRecDepth 100000 in
set_option maxHeartbeats 4000000 in
theorem lb_X10_judge_52 {Γ : bd_G} {ε : bd_E} {t0 : Option (Int32 × bd_T)} (hC : bd_C Γ cX10_judge 4 RX10 (some .int) ({ frames := 4, cells := 0, slots := 0, locals := 94 } : Room) ε (cM ε) bd_vi t0) (p2 : Int32) {K : (Int32 × bd_T) ⊕ ((Int32 × bd_T) ⊕ (bd_T)) → Option (Int32 × bd_T)} (hk : ∀ (x3 : Int32) (S : bd_T), bd_S Γ 4 t0 (K (.inl (x3, S))) (cM ε S) 52 [(0, .ref (bd_a ε 0)), (2, .int p2), (3, .int x3)] []) (hx : ∀ (S : bd_T), bd_S Γ 4 t0 (K (.inr (.inr S))) (cM ε S) 110 [(0, .ref (bd_a ε 0)), (2, .int p2)] []) (hr : ∀ z, K (.inr (.inl z)) = some z) (x3 : Int32) (S : bd_T) : bd_S Γ 4 t0 ((fb_X10_judge_52 p2 x3 S).bind K) (cM ε S) 52 [(0, .ref (bd_a ε 0)), (2, .int p2), (3, .int x3)] [] := by
  unfold fb_X10_judge_52
  refine bs_iload_n hC 2 dX10_judge_52 rfl rfl ?_
  refine bs_aload_n hC 0 dX10_judge_53 rfl rfl ?_
  refine bs_get hC (v := .int (bd_I S 8)) hin_X10 0 (cM_o0 ε S) rfl 20 (by decide) mw_580 rfl dX10_judge_54 ?_
  refine bs_icmp_ge hC 110 dX10_judge_57 (by decide) (fun c12 => ?_) (fun c12 => ?_)
  · refine bs_some ?_
    refine bs_pick [0, 1] rfl ?_
    exact hx S
  refine bs_aload_n hC 0 dX10_judge_60 rfl rfl ?_
  refine bs_get hC (v := .ref (bd_a ε (1 + 7))) hin_X10 0 (cM_o0 ε S) rfl 15 (by decide) mw_575 rfl dX10_judge_61 ?_
  refine bs_iload_n hC 2 dX10_judge_64 rfl rfl ?_
  refine bs_iald hC _ (cM_gi ε S 7 10 (by decide) rfl) dX10_judge_65 (fun z5 ez5 => ?_)
  refine bs_iload_n hC 1 dX10_judge_66 rfl rfl ?_
  refine bs_icmp_ne hC 104 dX10_judge_67 (by decide) (fun c11 => ?_) (fun c11 => ?_)
  · refine bs_aload_n hC 0 dX10_judge_70 rfl rfl ?_
    refine bs_get hC (v := .ref (bd_a ε (1 + 11))) hin_X10 0 (cM_o0 ε S) rfl 19 (by decide) mw_579 rfl dX10_judge_71 ?_
    refine bs_iload_n hC 2 dX10_judge_74 rfl rfl ?_
    refine bs_iald hC _ (cM_gi ε S 11 10 (by decide) rfl) dX10_judge_75 (fun z6 ez6 => ?_)
    refine bs_if_ne hC 104 dX10_judge_76 (by decide) (fun c10 => ?_) (fun c10 => ?_)
    · refine bs_aload_n hC 0 dX10_judge_79 rfl rfl ?_
      refine bs_get hC (v := .ref (bd_a ε 21)) hin_X10 0 (cM_o0 ε S) rfl 24 (by decide) mw_584 rfl dX10_judge_80 ?_
      refine bs_sipush hC (300 : Int32) dX10_judge_83 rfl ?_
      refine bs_iload_n hC 2 dX10_judge_86 rfl rfl ?_
      refine bs_imul hC dX10_judge_87 ?_
      refine bs_aload_n hC 0 dX10_judge_88 rfl rfl ?_
      refine bs_get hC (v := .ref (bd_a ε (1 + 17))) hin_X10 0 (cM_o0 ε S) rfl 31 (by decide) mw_591 rfl dX10_judge_89 ?_
      refine bs_iload_n hC 1 dX10_judge_92 rfl rfl ?_
      refine bs_iald hC _ (cM_gi ε S 17 6 (by decide) rfl) dX10_judge_93 (fun z7 ez7 => ?_)
      refine bs_iadd hC dX10_judge_94 ?_
      refine bs_zald hC _ (cM_gz ε S 0 3000 (by decide) rfl) dX10_judge_95 (fun z8 ez8 => ?_)
      refine bs_if_ne hC 104 dX10_judge_96 (by decide) (fun c9 => ?_) (fun c9 => ?_)
      · refine bs_bipush hC (100 : Int32) dX10_judge_99 rfl ?_
        refine bs_iload_n hC 2 dX10_judge_101 rfl rfl ?_
        refine bs_iadd hC dX10_judge_102 ?_
        exact bs_iret hC dX10_judge_103 (hr _)
      refine bs_iinc hC 2 [(3, .int (x3 + 1)), (0, .ref (bd_a ε 0)), (2, .int p2)] dX10_judge_104 rfl rfl (by decide) rfl ?_
      refine bs_goto hC 52 dX10_judge_107 (by decide) ?_
      refine bs_some ?_
      refine bs_pick [1, 2, 0] rfl ?_
      exact hk (x3 + 1) S
    refine bs_iinc hC 2 [(3, .int (x3 + 1)), (0, .ref (bd_a ε 0)), (2, .int p2)] dX10_judge_104 rfl rfl (by decide) rfl ?_
    refine bs_goto hC 52 dX10_judge_107 (by decide) ?_
    refine bs_some ?_
    refine bs_pick [1, 2, 0] rfl ?_
    exact hk (x3 + 1) S
  refine bs_iinc hC 2 [(3, .int (x3 + 1)), (0, .ref (bd_a ε 0)), (2, .int p2)] dX10_judge_104 rfl rfl (by decide) rfl ?_
  refine bs_goto hC 52 dX10_judge_107 (by decide) ?_
  refine bs_some ?_
  refine bs_pick [1, 2, 0] rfl ?_
  exact hk (x3 + 1) S
set_option maxRecDepth 100000 in
set_option maxHeartbeats 4000000 in
theorem lb_X10_judge_42 {Γ : bd_G} {ε : bd_E} {t0 : Option (Int32 × bd_T)} (hC : bd_C Γ cX10_judge 4 RX10 (some .int) ({ frames := 4, cells := 0, slots := 0, locals := 94 } : Room) ε (cM ε) bd_vi t0)  {K : (Int32 × bd_T) ⊕ ((Int32 × bd_T) ⊕ (bd_T)) → Option (Int32 × bd_T)} (hk : ∀ (x2 : Int32) (S : bd_T), bd_S Γ 4 t0 (K (.inl (x2, S))) (cM ε S) 42 [(0, .ref (bd_a ε 0)), (2, .int x2)] []) (hx : ∀ (S : bd_T), bd_S Γ 4 t0 (K (.inr (.inr S))) (cM ε S) 135 [] []) (hr : ∀ z, K (.inr (.inl z)) = some z) (x2 : Int32) (S : bd_T) : bd_S Γ 4 t0 ((fb_X10_judge_42 x2 S).bind K) (cM ε S) 42 [(0, .ref (bd_a ε 0)), (2, .int x2)] [] := by
  unfold fb_X10_judge_42
  refine bs_iload_n hC 1 dX10_judge_42 rfl rfl ?_
  refine bs_aload_n hC 0 dX10_judge_43 rfl rfl ?_
  refine bs_get hC (v := .int (bd_I S 2)) hin_X10 0 (cM_o0 ε S) rfl 7 (by decide) mw_567 rfl dX10_judge_44 ?_
  refine bs_icmp_ge hC 135 dX10_judge_47 (by decide) (fun c19 => ?_) (fun c19 => ?_)
  · refine bs_some ?_
    refine bs_pick [] rfl ?_
    exact hx S
  refine bs_iconst hC (0 : Int32) dX10_judge_50 rfl ?_
  refine bs_istore_n hC [(3, .int (0 : Int32)), (0, .ref (bd_a ε 0)), (2, .int x2)] dX10_judge_51 rfl (by decide) rfl ?_
  refine bs_pick [1, 2, 0] rfl ?_
  refine bs_loopK (fun (q : Int32 × bd_T) t => bd_S Γ 4 t0 t (cM ε (q.2)) 52 [(0, .ref (bd_a ε 0)), (2, .int x2), (3, .int (q.1))] []) (fun (q : (Int32 × bd_T) ⊕ (bd_T)) t => Sum.elim (fun (z : Int32 × bd_T) => t = some z) (fun (q : bd_T) => bd_S Γ 4 t0 t (cM ε (q)) 110 [(0, .ref (bd_a ε 0)), (2, .int x2)] []) q) (fun q => fb_X10_judge_52 x2 q.1 q.2) (fun _ => bs_none) (fun K hk hx q => lb_X10_judge_52 hC   x2 (fun a0 S => hk (a0, S)) (fun  S => hx (.inr (S))) (fun z => hx (.inl z)) (q.1) (q.2)) (fun r => ?_) bd_K ((0 : Int32), S)
  rcases r with r | r
  · exact hr r
  obtain ⟨S13, rfl⟩ : ∃ z, z = r := ⟨_, rfl⟩
  show bd_S Γ 4 t0 (Option.bind _ _) (cM ε S13) 110 [(0, .ref (bd_a ε 0)), (2, .int x2)] []
  try dsimp only [Sum.elim_inr]
  refine bs_aload_n hC 0 dX10_judge_110 rfl rfl ?_
  refine bs_get hC (v := .ref (bd_a ε (1 + 12))) hin_X10 0 (cM_o0 ε S13) rfl 21 (by decide) mw_581 rfl dX10_judge_111 ?_
  refine bs_iload_n hC 1 dX10_judge_114 rfl rfl ?_
  refine bs_iald hC _ (cM_gi ε S13 12 6 (by decide) rfl) dX10_judge_115 (fun z14 ez14 => ?_)
  refine bs_if_lt hC 129 dX10_judge_116 (by decide) (fun c18 => ?_) (fun c18 => ?_)
  · refine bs_iinc hC 1 [(2, .int (x2 + 1)), (0, .ref (bd_a ε 0))] dX10_judge_129 rfl rfl (by decide) rfl ?_
    refine bs_goto hC 42 dX10_judge_132 (by decide) ?_
    refine bs_some ?_
    refine bs_pick [1, 0] rfl ?_
    exact hk (x2 + 1) S13
  refine bs_aload_n hC 0 dX10_judge_119 rfl rfl ?_
  refine bs_iload_n hC 1 dX10_judge_120 rfl rfl ?_
  refine bs_callV_i hC (rm := ({ frames := 0, cells := 0, slots := 0, locals := 0 } : Room)) [.int x2] [] (fun h => c_X10_isJoined (bd_l Γ) (bd_D Γ) ε x2 S13 h) mw_778 mw_776 mw_777 mw_82 mw_66 (cM_o0 ε S13) rfl by_X10_isJoined ⟨rfl, rfl, by decide, by decide⟩ rfl rfl (Nat.le_of_ble_eq_true rfl) dX10_judge_121 (fun r15 S16 eS16 => ?_)
  refine bs_if_ne hC 129 dX10_judge_124 (by decide) (fun c17 => ?_) (fun c17 => ?_)
  · refine bs_iload_n hC 1 dX10_judge_127 rfl rfl ?_
    exact bs_iret hC dX10_judge_128 (hr _)
  refine bs_iinc hC 1 [(2, .int (x2 + 1)), (0, .ref (bd_a ε 0))] dX10_judge_129 rfl rfl (by decide) rfl ?_
  refine bs_goto hC 42 dX10_judge_132 (by decide) ?_
  refine bs_some ?_
  refine bs_pick [1, 0] rfl ?_
  exact hk (x2 + 1) S16
set_option maxRecDepth 100000 in
set_option maxHeartbeats 4000000 in
theorem b_X10_judge {Γ : bd_G} {ε : bd_E} {t0 : Option (Int32 × bd_T)} (hC : bd_C Γ cX10_judge 4 RX10 (some .int) ({ frames := 4, cells := 0, slots := 0, locals := 94 } : Room) ε (cM ε) bd_vi t0)  (S : bd_T) : bd_S Γ 4 t0 ((f_X10_judge S).bind some) (cM ε S) 0 [(0, .ref (bd_a ε 0))] [] := by
  unfold f_X10_judge
  refine bs_aload_n hC 0 dX10_judge_0 rfl rfl ?_
  refine bs_get hC (v := .int (bd_I S 10)) hin_X10 0 (cM_o0 ε S) rfl 32 (by decide) mw_592 rfl dX10_judge_1 ?_
  refine bs_leti (fun z1 ez1 => ?_)
  refine bs_istore_n hC [(1, .int z1), (0, .ref (bd_a ε 0))] dX10_judge_4 rfl (by decide) rfl ?_
  refine bs_aload_n hC 1 dX10_judge_5 rfl rfl ?_
  refine bs_iconst hC (0 : Int32) dX10_judge_6 rfl ?_
  refine bs_put hC (kk := 10) hin_X10 tyX10 tyX10_ok nmX10 0 (cM_o0 ε S) rfl 32 (by decide) mw_592 rfl rfl rfl (Nat.le_of_ble_eq_true rfl) (cM_p10 ε S _) dX10_judge_7 (fun S2 eS2 => ?_)
  refine bs_iload_n hC 0 dX10_judge_10 rfl rfl ?_
  refine bs_aload_n hC 1 dX10_judge_11 rfl rfl ?_
  refine bs_get hC (v := .int (bd_I S2 2)) hin_X10 0 (cM_o0 ε S2) rfl 7 (by decide) mw_567 rfl dX10_judge_12 ?_
  refine bs_icmp_eq hC 36 dX10_judge_15 (by decide) (fun c22 => ?_) (fun c22 => ?_)
  · refine bs_aload_n hC 1 dX10_judge_36 rfl rfl ?_
    refine bs_callV_v hC (rm := ({ frames := 3, cells := 0, slots := 0, locals := 72 } : Room)) [] [] (fun h => c_X10_finds (bd_l Γ) (bd_D Γ) ε S2 h) mw_717 mw_715 mw_716 mw_82 mw_56 (cM_o0 ε S2) rfl by_X10_finds ⟨rfl, rfl, by decide, by decide⟩ rfl rfl (Nat.le_of_ble_eq_true rfl) dX10_judge_37 (fun r3 S4 eS4 => ?_)
    refine bs_iconst hC (0 : Int32) dX10_judge_40 rfl ?_
    refine bs_istore_n hC [(2, .int (0 : Int32)), (1, .int z1), (0, .ref (bd_a ε 0))] dX10_judge_41 rfl (by decide) rfl ?_
    refine bs_pick [2, 0] rfl ?_
    refine bs_loopK (fun (q : Int32 × bd_T) t => bd_S Γ 4 t0 t (cM ε (q.2)) 42 [(0, .ref (bd_a ε 0)), (2, .int (q.1))] []) (fun (q : (Int32 × bd_T) ⊕ (bd_T)) t => Sum.elim (fun (z : Int32 × bd_T) => t = some z) (fun (q : bd_T) => bd_S Γ 4 t0 t (cM ε (q)) 135 [] []) q) (fun q => fb_X10_judge_42 q.1 q.2) (fun _ => bs_none) (fun K hk hx q => lb_X10_judge_42 hC    (fun a0 S => hk (a0, S)) (fun  S => hx (.inr (S))) (fun z => hx (.inl z)) (q.1) (q.2)) (fun r => ?_) bd_K ((0 : Int32), S4)
    rcases r with r | r
    · exact rfl
    obtain ⟨S20, rfl⟩ : ∃ z, z = r := ⟨_, rfl⟩
    show bd_S Γ 4 t0 (Option.bind _ _) (cM ε S20) 135 [] []
    try dsimp only [Sum.elim_inr]
    refine bs_bipush hC (-9 : Int32) dX10_judge_135 rfl ?_
    exact bs_iret hC dX10_judge_137 rfl
  refine bs_iload_n hC 0 dX10_judge_18 rfl rfl ?_
  refine bs_aload_n hC 1 dX10_judge_19 rfl rfl ?_
  refine bs_get hC (v := .int (bd_I S2 2)) hin_X10 0 (cM_o0 ε S2) rfl 7 (by decide) mw_567 rfl dX10_judge_20 ?_
  refine bs_icmp_ge hC 32 dX10_judge_23 (by decide) (fun c21 => ?_) (fun c21 => ?_)
  · refine bs_sipush hC (1001 : Int32) dX10_judge_32 rfl ?_
    exact bs_iret hC dX10_judge_35 rfl
  refine bs_sipush hC (1000 : Int32) dX10_judge_26 rfl ?_
  refine bs_goto hC 35 dX10_judge_29 (by decide) ?_
  exact bs_iret hC dX10_judge_35 rfl
theorem c_X10_judge (l : Launch) (D : va_G) (ε : bd_E)  (S : bd_T) (h0 : (f_X10_judge S).isSome = true) : bd_Con l yX10_judge (Cond.code yX10_judge cX10_judge 4 (some .int) :: bd_tbl) ({ frames := 4, cells := 0, slots := 0, locals := 94 } : Room) D ε (cM ε) bd_vi [.ref (bd_a ε 0)] S (f_X10_judge S) :=
  bd_con (by decide +kernel) (Nat.le_of_ble_eq_true rfl) ⟨rfl, rfl⟩ h0 (fun Γ _ _ hC => bs_eq bs_bs (b_X10_judge hC S))
set_option maxRecDepth 100000 in
set_option maxHeartbeats 4000000 in
theorem lb_X10_bits_4 {Γ : bd_G} {ε : bd_E} {t0 : Option (Int32 × bd_T)} (hC : bd_C Γ cX10_bits 3 RX10 (some .int) ({ frames := 0, cells := 0, slots := 0, locals := 0 } : Room) ε (cM ε) bd_vi t0) (p0 : Int32) {K : (Int32 × Int32 × bd_T) ⊕ (Int32 × bd_T) → Option (Int32 × bd_T)} (hk : ∀ (x1 : Int32) (x2 : Int32) (S : bd_T), bd_S Γ 3 t0 (K (.inl (x1, x2, S))) (cM ε S) 4 [(0, .int p0), (1, .int x1), (2, .int x2)] []) (hx : ∀ (y1 : Int32) (S : bd_T), bd_S Γ 3 t0 (K (.inr (y1, S))) (cM ε S) 24 [(1, .int y1)] []) (x1 : Int32) (x2 : Int32) (S : bd_T) : bd_S Γ 3 t0 ((fb_X10_bits_4 p0 x1 x2 S).bind K) (cM ε S) 4 [(0, .int p0), (1, .int x1), (2, .int x2)] [] := by
  unfold fb_X10_bits_4
  refine bs_iload_n hC 2 dX10_bits_4 rfl rfl ?_
  refine bs_bipush hC (31 : Int32) dX10_bits_5 rfl ?_
  refine bs_icmp_ge hC 24 dX10_bits_7 (by decide) (fun c2 => ?_) (fun c2 => ?_)
  · refine bs_some ?_
    refine bs_pick [1] rfl ?_
    exact hx x1 S
  refine bs_iload_n hC 1 dX10_bits_10 rfl rfl ?_
  refine bs_iload_n hC 0 dX10_bits_11 rfl rfl ?_
  refine bs_iload_n hC 2 dX10_bits_12 rfl rfl ?_
  refine bs_ishr hC dX10_bits_13 ?_
  refine bs_iconst hC (1 : Int32) dX10_bits_14 rfl ?_
  refine bs_iand hC dX10_bits_15 ?_
  refine bs_iadd hC dX10_bits_16 ?_
  refine bs_leti (fun z1 ez1 => ?_)
  refine bs_istore_n hC [(1, .int z1), (0, .int p0), (2, .int x2)] dX10_bits_17 rfl (by decide) rfl ?_
  refine bs_iinc hC 2 [(2, .int (x2 + 1)), (1, .int z1), (0, .int p0)] dX10_bits_18 rfl rfl (by decide) rfl ?_
  refine bs_goto hC 4 dX10_bits_21 (by decide) ?_
  refine bs_some ?_
  refine bs_pick [2, 1, 0] rfl ?_
  exact hk z1 (x2 + 1) S
set_option maxRecDepth 100000 in
set_option maxHeartbeats 4000000 in
theorem b_X10_bits {Γ : bd_G} {ε : bd_E} {t0 : Option (Int32 × bd_T)} (hC : bd_C Γ cX10_bits 3 RX10 (some .int) ({ frames := 0, cells := 0, slots := 0, locals := 0 } : Room) ε (cM ε) bd_vi t0) (x0 : Int32)  (S : bd_T) : bd_S Γ 3 t0 ((f_X10_bits x0 S).bind some) (cM ε S) 0 [(0, .int x0)] [] := by
  unfold f_X10_bits
  refine bs_iconst hC (0 : Int32) dX10_bits_0 rfl ?_
  refine bs_istore_n hC [(1, .int (0 : Int32)), (0, .int x0)] dX10_bits_1 rfl (by decide) rfl ?_
  refine bs_iconst hC (0 : Int32) dX10_bits_2 rfl ?_
  refine bs_istore_n hC [(2, .int (0 : Int32)), (1, .int (0 : Int32)), (0, .int x0)] dX10_bits_3 rfl (by decide) rfl ?_
  refine bs_pick [2, 1, 0] rfl ?_
  refine bs_loopK (fun (q : Int32 × Int32 × bd_T) t => bd_S Γ 3 t0 t (cM ε (q.2.2)) 4 [(0, .int x0), (1, .int (q.1)), (2, .int (q.2.1))] []) (fun (q : Int32 × bd_T) t => bd_S Γ 3 t0 t (cM ε (q.2)) 24 [(1, .int (q.1))] []) (fun q => fb_X10_bits_4 x0 q.1 q.2.1 q.2.2) (fun _ => bs_none) (fun K hk hx q => lb_X10_bits_4 hC   x0 (fun a0 a1 S => hk (a0, a1, S)) (fun b0 S => hx (b0, S))  (q.1) (q.2.1) (q.2.2)) (fun r => ?_) bd_K ((0 : Int32), (0 : Int32), S)
  obtain ⟨y3, S4⟩ := r
  show bd_S Γ 3 t0 (Option.bind _ _) (cM ε S4) 24 [(1, .int y3)] []
  try dsimp only
  refine bs_iload_n hC 0 dX10_bits_24 rfl rfl ?_
  exact bs_iret hC dX10_bits_25 rfl
theorem c_X10_bits (l : Launch) (D : va_G) (ε : bd_E) (x0 : Int32)  (S : bd_T) (h0 : (f_X10_bits x0 S).isSome = true) : bd_Con l yX10_bits (Cond.code yX10_bits cX10_bits 3 (some .int) :: bd_tbl) ({ frames := 0, cells := 0, slots := 0, locals := 0 } : Room) D ε (cM ε) bd_vi [.int x0] S (f_X10_bits x0 S) :=
  bd_con (by decide +kernel) (Nat.le_of_ble_eq_true rfl) ⟨rfl, rfl⟩ h0 (fun Γ _ _ hC => bs_eq bs_bs (b_X10_bits hC x0 S))
set_option maxRecDepth 100000 in
set_option maxHeartbeats 4000000 in
theorem lb_X10_doubts_12 {Γ : bd_G} {ε : bd_E} {t0 : Option (Int32 × bd_T)} (hC : bd_C Γ cX10_doubts 4 RX10 (some .int) ({ frames := 4, cells := 0, slots := 0, locals := 94 } : Room) ε (cM ε) bd_vi t0)  {K : (Int32 × Int32 × bd_T) ⊕ (Int32 × bd_T) → Option (Int32 × bd_T)} (hk : ∀ (x1 : Int32) (x2 : Int32) (S : bd_T), bd_S Γ 4 t0 (K (.inl (x1, x2, S))) (cM ε S) 12 [(0, .ref (bd_a ε 0)), (1, .int x1), (2, .int x2)] []) (hx : ∀ (y1 : Int32) (S : bd_T), bd_S Γ 4 t0 (K (.inr (y1, S))) (cM ε S) 37 [(0, .ref (bd_a ε 0)), (1, .int y1)] []) (x1 : Int32) (x2 : Int32) (S : bd_T) : bd_S Γ 4 t0 ((fb_X10_doubts_12 x1 x2 S).bind K) (cM ε S) 12 [(0, .ref (bd_a ε 0)), (1, .int x1), (2, .int x2)] [] := by
  unfold fb_X10_doubts_12
  refine bs_iload_n hC 2 dX10_doubts_12 rfl rfl ?_
  refine bs_aload_n hC 0 dX10_doubts_13 rfl rfl ?_
  refine bs_get hC (v := .int (bd_I S 8)) hin_X10 0 (cM_o0 ε S) rfl 20 (by decide) mw_580 rfl dX10_doubts_14 ?_
  refine bs_icmp_ge hC 37 dX10_doubts_17 (by decide) (fun c7 => ?_) (fun c7 => ?_)
  · refine bs_some ?_
    refine bs_pick [0, 1] rfl ?_
    exact hx x1 S
  refine bs_iload_n hC 1 dX10_doubts_20 rfl rfl ?_
  refine bs_aload_n hC 0 dX10_doubts_21 rfl rfl ?_
  refine bs_get hC (v := .ref (bd_a ε (1 + 11))) hin_X10 0 (cM_o0 ε S) rfl 19 (by decide) mw_579 rfl dX10_doubts_22 ?_
  refine bs_iload_n hC 2 dX10_doubts_25 rfl rfl ?_
  refine bs_iald hC _ (cM_gi ε S 11 10 (by decide) rfl) dX10_doubts_26 (fun z5 ez5 => ?_)
  refine bs_iload_n hC 2 dX10_doubts_27 rfl rfl ?_
  refine bs_ishl hC dX10_doubts_28 ?_
  refine bs_ior hC dX10_doubts_29 ?_
  refine bs_leti (fun z6 ez6 => ?_)
  refine bs_istore_n hC [(1, .int z6), (0, .ref (bd_a ε 0)), (2, .int x2)] dX10_doubts_30 rfl (by decide) rfl ?_
  refine bs_iinc hC 2 [(2, .int (x2 + 1)), (1, .int z6), (0, .ref (bd_a ε 0))] dX10_doubts_31 rfl rfl (by decide) rfl ?_
  refine bs_goto hC 12 dX10_doubts_34 (by decide) ?_
  refine bs_some ?_
  refine bs_pick [2, 1, 0] rfl ?_
  exact hk z6 (x2 + 1) S
set_option maxRecDepth 100000 in
set_option maxHeartbeats 4000000 in
theorem lb_X10_doubts_42 {Γ : bd_G} {ε : bd_E} {t0 : Option (Int32 × bd_T)} (hC : bd_C Γ cX10_doubts 4 RX10 (some .int) ({ frames := 4, cells := 0, slots := 0, locals := 94 } : Room) ε (cM ε) bd_vi t0) (p1 : Int32) {K : (Int32 × Int32 × bd_T) ⊕ (Int32 × bd_T) → Option (Int32 × bd_T)} (hk : ∀ (x2 : Int32) (x3 : Int32) (S : bd_T), bd_S Γ 4 t0 (K (.inl (x2, x3, S))) (cM ε S) 42 [(0, .ref (bd_a ε 0)), (1, .int p1), (2, .int x2), (3, .int x3)] []) (hx : ∀ (y2 : Int32) (S : bd_T), bd_S Γ 4 t0 (K (.inr (y2, S))) (cM ε S) 98 [(2, .int y2)] []) (x2 : Int32) (x3 : Int32) (S : bd_T) : bd_S Γ 4 t0 ((fb_X10_doubts_42 p1 x2 x3 S).bind K) (cM ε S) 42 [(0, .ref (bd_a ε 0)), (1, .int p1), (2, .int x2), (3, .int x3)] [] := by
  unfold fb_X10_doubts_42
  refine bs_iload_n hC 3 dX10_doubts_42 rfl rfl ?_
  refine bs_iconst hC (1 : Int32) dX10_doubts_43 rfl ?_
  refine bs_aload_n hC 0 dX10_doubts_44 rfl rfl ?_
  refine bs_get hC (v := .int (bd_I S 8)) hin_X10 0 (cM_o0 ε S) rfl 20 (by decide) mw_580 rfl dX10_doubts_45 ?_
  refine bs_ishl hC dX10_doubts_48 ?_
  refine bs_icmp_ge hC 98 dX10_doubts_49 (by decide) (fun c25 => ?_) (fun c25 => ?_)
  · refine bs_some ?_
    refine bs_pick [2] rfl ?_
    exact hx x2 S
  refine bs_iload_n hC 3 dX10_doubts_52 rfl rfl ?_
  refine bs_iload_n hC 1 dX10_doubts_53 rfl rfl ?_
  refine bs_iand hC dX10_doubts_54 ?_
  refine bs_if_ne hC 92 dX10_doubts_55 (by decide) (fun c24 => ?_) (fun c24 => ?_)
  · refine bs_iload_n hC 2 dX10_doubts_58 rfl rfl ?_
    refine bs_if_lt hC 76 dX10_doubts_59 (by decide) (fun c23 => ?_) (fun c23 => ?_)
    · refine bs_aload_n hC 0 dX10_doubts_76 rfl rfl ?_
      refine bs_iload_n hC 3 dX10_doubts_77 rfl rfl ?_
      refine bs_put hC (kk := 9) hin_X10 tyX10 tyX10_ok nmX10 0 (cM_o0 ε S) rfl 29 (by decide) mw_589 rfl rfl rfl (Nat.le_of_ble_eq_true rfl) (cM_p9 ε S _) dX10_doubts_78 (fun S10 eS10 => ?_)
      refine bs_aload_n hC 0 dX10_doubts_81 rfl rfl ?_
      refine bs_callV_l hC (rm := ({ frames := 2, cells := 0, slots := 0, locals := 47 } : Room)) [] [] (fun h => c_X10_waysOf (bd_l Γ) (bd_D Γ) ε S10 h) mw_740 mw_738 mw_739 mw_82 mw_61 (cM_o0 ε S10) rfl by_X10_waysOf ⟨rfl, rfl, by decide, by decide⟩ rfl rfl (Nat.le_of_ble_eq_true rfl) dX10_doubts_82 (fun r11 S12 eS12 => ?_)
      refine bs_lconst hC (0 : Int64) dX10_doubts_85 rfl ?_
      refine bs_lif_le hC 92 dX10_doubts_86 dX10_doubts_87 (by decide) (fun c13 => ?_) (fun c13 => ?_)
      · refine bs_iinc hC 3 [(3, .int (x3 + 1)), (0, .ref (bd_a ε 0)), (1, .int p1), (2, .int x2)] dX10_doubts_92 rfl rfl (by decide) rfl ?_
        refine bs_goto hC 42 dX10_doubts_95 (by decide) ?_
        refine bs_some ?_
        refine bs_pick [1, 2, 3, 0] rfl ?_
        exact hk x2 (x3 + 1) S12
      refine bs_iload_n hC 3 dX10_doubts_90 rfl rfl ?_
      refine bs_istore_n hC [(2, .int x3), (0, .ref (bd_a ε 0)), (1, .int p1), (3, .int x3)] dX10_doubts_91 rfl (by decide) rfl ?_
      refine bs_iinc hC 3 [(3, .int (x3 + 1)), (2, .int x3), (0, .ref (bd_a ε 0)), (1, .int p1)] dX10_doubts_92 rfl rfl (by decide) rfl ?_
      refine bs_goto hC 42 dX10_doubts_95 (by decide) ?_
      refine bs_some ?_
      refine bs_pick [2, 3, 1, 0] rfl ?_
      exact hk x3 (x3 + 1) S12
    refine bs_iload_n hC 3 dX10_doubts_62 rfl rfl ?_
    refine bs_callS_i hC (rm := ({ frames := 0, cells := 0, slots := 0, locals := 0 } : Room)) [.int x3] [] (fun h => c_X10_bits (bd_l Γ) (bd_D Γ) ε x3 S h) mw_785 mw_783 mw_784 mw_82 by_X10_bits ⟨rfl, rfl, by decide, by decide⟩ rfl rfl (Nat.le_of_ble_eq_true rfl) dX10_doubts_63 (fun r14 S15 eS15 => ?_)
    refine bs_iload_n hC 2 dX10_doubts_66 rfl rfl ?_
    refine bs_callS_i hC (rm := ({ frames := 0, cells := 0, slots := 0, locals := 0 } : Room)) [.int x2] [.int r14] (fun h => c_X10_bits (bd_l Γ) (bd_D Γ) ε x2 S15 h) mw_785 mw_783 mw_784 mw_82 by_X10_bits ⟨rfl, rfl, by decide, by decide⟩ rfl rfl (Nat.le_of_ble_eq_true rfl) dX10_doubts_67 (fun r16 S17 eS17 => ?_)
    refine bs_icmp_lt hC 76 dX10_doubts_70 (by decide) (fun c22 => ?_) (fun c22 => ?_)
    · refine bs_aload_n hC 0 dX10_doubts_76 rfl rfl ?_
      refine bs_iload_n hC 3 dX10_doubts_77 rfl rfl ?_
      refine bs_put hC (kk := 9) hin_X10 tyX10 tyX10_ok nmX10 0 (cM_o0 ε S17) rfl 29 (by decide) mw_589 rfl rfl rfl (Nat.le_of_ble_eq_true rfl) (cM_p9 ε S17 _) dX10_doubts_78 (fun S18 eS18 => ?_)
      refine bs_aload_n hC 0 dX10_doubts_81 rfl rfl ?_
      refine bs_callV_l hC (rm := ({ frames := 2, cells := 0, slots := 0, locals := 47 } : Room)) [] [] (fun h => c_X10_waysOf (bd_l Γ) (bd_D Γ) ε S18 h) mw_740 mw_738 mw_739 mw_82 mw_61 (cM_o0 ε S18) rfl by_X10_waysOf ⟨rfl, rfl, by decide, by decide⟩ rfl rfl (Nat.le_of_ble_eq_true rfl) dX10_doubts_82 (fun r19 S20 eS20 => ?_)
      refine bs_lconst hC (0 : Int64) dX10_doubts_85 rfl ?_
      refine bs_lif_le hC 92 dX10_doubts_86 dX10_doubts_87 (by decide) (fun c21 => ?_) (fun c21 => ?_)
      · refine bs_iinc hC 3 [(3, .int (x3 + 1)), (0, .ref (bd_a ε 0)), (1, .int p1), (2, .int x2)] dX10_doubts_92 rfl rfl (by decide) rfl ?_
        refine bs_goto hC 42 dX10_doubts_95 (by decide) ?_
        refine bs_some ?_
        refine bs_pick [1, 2, 3, 0] rfl ?_
        exact hk x2 (x3 + 1) S20
      refine bs_iload_n hC 3 dX10_doubts_90 rfl rfl ?_
      refine bs_istore_n hC [(2, .int x3), (0, .ref (bd_a ε 0)), (1, .int p1), (3, .int x3)] dX10_doubts_91 rfl (by decide) rfl ?_
      refine bs_iinc hC 3 [(3, .int (x3 + 1)), (2, .int x3), (0, .ref (bd_a ε 0)), (1, .int p1)] dX10_doubts_92 rfl rfl (by decide) rfl ?_
      refine bs_goto hC 42 dX10_doubts_95 (by decide) ?_
      refine bs_some ?_
      refine bs_pick [2, 3, 1, 0] rfl ?_
      exact hk x3 (x3 + 1) S20
    refine bs_goto hC 92 dX10_doubts_73 (by decide) ?_
    refine bs_iinc hC 3 [(3, .int (x3 + 1)), (0, .ref (bd_a ε 0)), (1, .int p1), (2, .int x2)] dX10_doubts_92 rfl rfl (by decide) rfl ?_
    refine bs_goto hC 42 dX10_doubts_95 (by decide) ?_
    refine bs_some ?_
    refine bs_pick [1, 2, 3, 0] rfl ?_
    exact hk x2 (x3 + 1) S17
  refine bs_iinc hC 3 [(3, .int (x3 + 1)), (0, .ref (bd_a ε 0)), (1, .int p1), (2, .int x2)] dX10_doubts_92 rfl rfl (by decide) rfl ?_
  refine bs_goto hC 42 dX10_doubts_95 (by decide) ?_
  refine bs_some ?_
  refine bs_pick [1, 2, 3, 0] rfl ?_
  exact hk x2 (x3 + 1) S
set_option maxRecDepth 100000 in
set_option maxHeartbeats 4000000 in
theorem b_X10_doubts {Γ : bd_G} {ε : bd_E} {t0 : Option (Int32 × bd_T)} (hC : bd_C Γ cX10_doubts 4 RX10 (some .int) ({ frames := 4, cells := 0, slots := 0, locals := 94 } : Room) ε (cM ε) bd_vi t0)  (S : bd_T) : bd_S Γ 4 t0 ((f_X10_doubts S).bind some) (cM ε S) 0 [(0, .ref (bd_a ε 0))] [] := by
  unfold f_X10_doubts
  refine bs_aload_n hC 0 dX10_doubts_0 rfl rfl ?_
  refine bs_callV_v hC (rm := ({ frames := 3, cells := 0, slots := 0, locals := 72 } : Room)) [] [] (fun h => c_X10_finds (bd_l Γ) (bd_D Γ) ε S h) mw_717 mw_715 mw_716 mw_82 mw_56 (cM_o0 ε S) rfl by_X10_finds ⟨rfl, rfl, by decide, by decide⟩ rfl rfl (Nat.le_of_ble_eq_true rfl) dX10_doubts_1 (fun r1 S2 eS2 => ?_)
  refine bs_aload_n hC 0 dX10_doubts_4 rfl rfl ?_
  refine bs_callV_v hC (rm := ({ frames := 0, cells := 0, slots := 0, locals := 0 } : Room)) [] [] (fun h => c_X10_frees (bd_l Γ) (bd_D Γ) ε S2 h) mw_723 mw_721 mw_722 mw_82 mw_58 (cM_o0 ε S2) rfl by_X10_frees ⟨rfl, rfl, by decide, by decide⟩ rfl rfl (Nat.le_of_ble_eq_true rfl) dX10_doubts_5 (fun r3 S4 eS4 => ?_)
  refine bs_iconst hC (0 : Int32) dX10_doubts_8 rfl ?_
  refine bs_istore_n hC [(1, .int (0 : Int32)), (0, .ref (bd_a ε 0))] dX10_doubts_9 rfl (by decide) rfl ?_
  refine bs_iconst hC (0 : Int32) dX10_doubts_10 rfl ?_
  refine bs_istore_n hC [(2, .int (0 : Int32)), (1, .int (0 : Int32)), (0, .ref (bd_a ε 0))] dX10_doubts_11 rfl (by decide) rfl ?_
  refine bs_pick [2, 1, 0] rfl ?_
  refine bs_loopK (fun (q : Int32 × Int32 × bd_T) t => bd_S Γ 4 t0 t (cM ε (q.2.2)) 12 [(0, .ref (bd_a ε 0)), (1, .int (q.1)), (2, .int (q.2.1))] []) (fun (q : Int32 × bd_T) t => bd_S Γ 4 t0 t (cM ε (q.2)) 37 [(0, .ref (bd_a ε 0)), (1, .int (q.1))] []) (fun q => fb_X10_doubts_12 q.1 q.2.1 q.2.2) (fun _ => bs_none) (fun K hk hx q => lb_X10_doubts_12 hC    (fun a0 a1 S => hk (a0, a1, S)) (fun b0 S => hx (b0, S))  (q.1) (q.2.1) (q.2.2)) (fun r => ?_) bd_K ((0 : Int32), (0 : Int32), S4)
  obtain ⟨y8, S9⟩ := r
  show bd_S Γ 4 t0 (Option.bind _ _) (cM ε S9) 37 [(0, .ref (bd_a ε 0)), (1, .int y8)] []
  try dsimp only
  refine bs_bipush hC (-9 : Int32) dX10_doubts_37 rfl ?_
  refine bs_istore_n hC [(2, .int (-9 : Int32)), (0, .ref (bd_a ε 0)), (1, .int y8)] dX10_doubts_39 rfl (by decide) rfl ?_
  refine bs_iconst hC (0 : Int32) dX10_doubts_40 rfl ?_
  refine bs_istore_n hC [(3, .int (0 : Int32)), (2, .int (-9 : Int32)), (0, .ref (bd_a ε 0)), (1, .int y8)] dX10_doubts_41 rfl (by decide) rfl ?_
  refine bs_pick [2, 3, 1, 0] rfl ?_
  refine bs_loopK (fun (q : Int32 × Int32 × bd_T) t => bd_S Γ 4 t0 t (cM ε (q.2.2)) 42 [(0, .ref (bd_a ε 0)), (1, .int y8), (2, .int (q.1)), (3, .int (q.2.1))] []) (fun (q : Int32 × bd_T) t => bd_S Γ 4 t0 t (cM ε (q.2)) 98 [(2, .int (q.1))] []) (fun q => fb_X10_doubts_42 y8 q.1 q.2.1 q.2.2) (fun _ => bs_none) (fun K hk hx q => lb_X10_doubts_42 hC   y8 (fun a0 a1 S => hk (a0, a1, S)) (fun b0 S => hx (b0, S))  (q.1) (q.2.1) (q.2.2)) (fun r => ?_) bd_K ((-9 : Int32), (0 : Int32), S9)
  obtain ⟨y26, S27⟩ := r
  show bd_S Γ 4 t0 (Option.bind _ _) (cM ε S27) 98 [(2, .int y26)] []
  try dsimp only
  refine bs_iload_n hC 0 dX10_doubts_98 rfl rfl ?_
  exact bs_iret hC dX10_doubts_99 rfl
theorem c_X10_doubts (l : Launch) (D : va_G) (ε : bd_E)  (S : bd_T) (h0 : (f_X10_doubts S).isSome = true) : bd_Con l yX10_doubts (Cond.code yX10_doubts cX10_doubts 4 (some .int) :: bd_tbl) ({ frames := 4, cells := 0, slots := 0, locals := 94 } : Room) D ε (cM ε) bd_vi [.ref (bd_a ε 0)] S (f_X10_doubts S) :=
  bd_con (by decide +kernel) (Nat.le_of_ble_eq_true rfl) ⟨rfl, rfl⟩ h0 (fun Γ _ _ hC => bs_eq bs_bs (b_X10_doubts hC S))
set_option maxRecDepth 100000 in
set_option maxHeartbeats 4000000 in
theorem lb_X10_opened_16 {Γ : bd_G} {ε : bd_E} {t0 : Option (Int32 × bd_T)} (hC : bd_C Γ cX10_opened 5 RX10 (some .int) ({ frames := 4, cells := 0, slots := 0, locals := 94 } : Room) ε (cM ε) bd_vi t0) (p1 : Int32) (p2 : Int32) {K : (Int32 × Int32 × bd_T) ⊕ (Int32 × bd_T) → Option (Int32 × bd_T)} (hk : ∀ (x3 : Int32) (x4 : Int32) (S : bd_T), bd_S Γ 5 t0 (K (.inl (x3, x4, S))) (cM ε S) 16 [(0, .ref (bd_a ε 0)), (1, .int p1), (2, .int p2), (3, .int x3), (4, .int x4)] []) (hx : ∀ (y3 : Int32) (S : bd_T), bd_S Γ 5 t0 (K (.inr (y3, S))) (cM ε S) 84 [(0, .ref (bd_a ε 0)), (1, .int p1), (2, .int p2), (3, .int y3)] []) (x3 : Int32) (x4 : Int32) (S : bd_T) : bd_S Γ 5 t0 ((fb_X10_opened_16 p1 p2 x3 x4 S).bind K) (cM ε S) 16 [(0, .ref (bd_a ε 0)), (1, .int p1), (2, .int p2), (3, .int x3), (4, .int x4)] [] := by
  unfold fb_X10_opened_16
  refine bs_iload hC 4 dX10_opened_16 rfl ?_
  refine bs_aload_n hC 0 dX10_opened_18 rfl rfl ?_
  refine bs_get hC (v := .int (bd_I S 6)) hin_X10 0 (cM_o0 ε S) rfl 13 (by decide) mw_573 rfl dX10_opened_19 ?_
  refine bs_icmp_ge hC 84 dX10_opened_22 (by decide) (fun c16 => ?_) (fun c16 => ?_)
  · refine bs_some ?_
    refine bs_pick [0, 1, 2, 3] rfl ?_
    exact hx x3 S
  refine bs_iload_n hC 3 dX10_opened_25 rfl rfl ?_
  refine bs_bipush hC (-9 : Int32) dX10_opened_26 rfl ?_
  refine bs_icmp_ne hC 84 dX10_opened_28 (by decide) (fun c15 => ?_) (fun c15 => ?_)
  · refine bs_aload_n hC 0 dX10_opened_31 rfl rfl ?_
    refine bs_aload_n hC 0 dX10_opened_32 rfl rfl ?_
    refine bs_get hC (v := .ref (bd_a ε (1 + 5))) hin_X10 0 (cM_o0 ε S) rfl 8 (by decide) mw_568 rfl dX10_opened_33 ?_
    refine bs_iload hC 4 dX10_opened_36 rfl ?_
    refine bs_iald hC _ (cM_gi ε S 5 4 (by decide) rfl) dX10_opened_38 (fun z3 ez3 => ?_)
    refine bs_put hC (kk := 4) hin_X10 tyX10 tyX10_ok nmX10 0 (cM_o0 ε S) rfl 11 (by decide) mw_571 rfl rfl rfl (Nat.le_of_ble_eq_true rfl) (cM_p4 ε S _) dX10_opened_39 (fun S4 eS4 => ?_)
    refine bs_aload_n hC 0 dX10_opened_42 rfl rfl ?_
    refine bs_aload_n hC 0 dX10_opened_43 rfl rfl ?_
    refine bs_get hC (v := .ref (bd_a ε (1 + 6))) hin_X10 0 (cM_o0 ε S4) rfl 9 (by decide) mw_569 rfl dX10_opened_44 ?_
    refine bs_iload hC 4 dX10_opened_47 rfl ?_
    refine bs_iald hC _ (cM_gi ε S4 6 4 (by decide) rfl) dX10_opened_49 (fun z5 ez5 => ?_)
    refine bs_put hC (kk := 5) hin_X10 tyX10 tyX10_ok nmX10 0 (cM_o0 ε S4) rfl 12 (by decide) mw_572 rfl rfl rfl (Nat.le_of_ble_eq_true rfl) (cM_p5 ε S4 _) dX10_opened_50 (fun S6 eS6 => ?_)
    refine bs_aload_n hC 0 dX10_opened_53 rfl rfl ?_
    refine bs_iconst hC (1 : Int32) dX10_opened_54 rfl ?_
    refine bs_put hC (kk := 7) hin_X10 tyX10 tyX10_ok nmX10 0 (cM_o0 ε S6) rfl 14 (by decide) mw_574 rfl rfl rfl (Nat.le_of_ble_eq_true rfl) (cM_p7 ε S6 _) dX10_opened_55 (fun S7 eS7 => ?_)
    refine bs_aload_n hC 0 dX10_opened_58 rfl rfl ?_
    refine bs_callV_v hC (rm := ({ frames := 3, cells := 0, slots := 0, locals := 72 } : Room)) [] [] (fun h => c_X10_finds (bd_l Γ) (bd_D Γ) ε S7 h) mw_717 mw_715 mw_716 mw_82 mw_56 (cM_o0 ε S7) rfl by_X10_finds ⟨rfl, rfl, by decide, by decide⟩ rfl rfl (Nat.le_of_ble_eq_true rfl) dX10_opened_59 (fun r8 S9 eS9 => ?_)
    refine bs_aload_n hC 0 dX10_opened_62 rfl rfl ?_
    refine bs_callV_v hC (rm := ({ frames := 0, cells := 0, slots := 0, locals := 0 } : Room)) [] [] (fun h => c_X10_frees (bd_l Γ) (bd_D Γ) ε S9 h) mw_723 mw_721 mw_722 mw_82 mw_58 (cM_o0 ε S9) rfl by_X10_frees ⟨rfl, rfl, by decide, by decide⟩ rfl rfl (Nat.le_of_ble_eq_true rfl) dX10_opened_63 (fun r10 S11 eS11 => ?_)
    refine bs_aload_n hC 0 dX10_opened_66 rfl rfl ?_
    refine bs_callV_l hC (rm := ({ frames := 2, cells := 0, slots := 0, locals := 47 } : Room)) [] [] (fun h => c_X10_waysOf (bd_l Γ) (bd_D Γ) ε S11 h) mw_740 mw_738 mw_739 mw_82 mw_61 (cM_o0 ε S11) rfl by_X10_waysOf ⟨rfl, rfl, by decide, by decide⟩ rfl rfl (Nat.le_of_ble_eq_true rfl) dX10_opened_67 (fun r12 S13 eS13 => ?_)
    refine bs_lconst hC (0 : Int64) dX10_opened_70 rfl ?_
    refine bs_lif_le hC 78 dX10_opened_71 dX10_opened_72 (by decide) (fun c14 => ?_) (fun c14 => ?_)
    · refine bs_iinc hC 4 [(4, .int (x4 + 1)), (0, .ref (bd_a ε 0)), (1, .int p1), (2, .int p2), (3, .int x3)] dX10_opened_78 rfl rfl (by decide) rfl ?_
      refine bs_goto hC 16 dX10_opened_81 (by decide) ?_
      refine bs_some ?_
      refine bs_pick [1, 2, 3, 4, 0] rfl ?_
      exact hk x3 (x4 + 1) S13
    refine bs_iload hC 4 dX10_opened_75 rfl ?_
    refine bs_istore_n hC [(3, .int x4), (0, .ref (bd_a ε 0)), (1, .int p1), (2, .int p2), (4, .int x4)] dX10_opened_77 rfl (by decide) rfl ?_
    refine bs_iinc hC 4 [(4, .int (x4 + 1)), (3, .int x4), (0, .ref (bd_a ε 0)), (1, .int p1), (2, .int p2)] dX10_opened_78 rfl rfl (by decide) rfl ?_
    refine bs_goto hC 16 dX10_opened_81 (by decide) ?_
    refine bs_some ?_
    refine bs_pick [2, 3, 4, 1, 0] rfl ?_
    exact hk x4 (x4 + 1) S13
  refine bs_some ?_
  refine bs_pick [0, 1, 2, 3] rfl ?_
  exact hx x3 S
set_option maxRecDepth 100000 in
set_option maxHeartbeats 4000000 in
theorem b_X10_opened {Γ : bd_G} {ε : bd_E} {t0 : Option (Int32 × bd_T)} (hC : bd_C Γ cX10_opened 5 RX10 (some .int) ({ frames := 4, cells := 0, slots := 0, locals := 94 } : Room) ε (cM ε) bd_vi t0)  (S : bd_T) : bd_S Γ 5 t0 ((f_X10_opened S).bind some) (cM ε S) 0 [(0, .ref (bd_a ε 0))] [] := by
  unfold f_X10_opened
  refine bs_aload_n hC 0 dX10_opened_0 rfl rfl ?_
  refine bs_get hC (v := .int (bd_I S 4)) hin_X10 0 (cM_o0 ε S) rfl 11 (by decide) mw_571 rfl dX10_opened_1 ?_
  refine bs_leti (fun z1 ez1 => ?_)
  refine bs_istore_n hC [(1, .int z1), (0, .ref (bd_a ε 0))] dX10_opened_4 rfl (by decide) rfl ?_
  refine bs_aload_n hC 1 dX10_opened_5 rfl rfl ?_
  refine bs_get hC (v := .int (bd_I S 5)) hin_X10 0 (cM_o0 ε S) rfl 12 (by decide) mw_572 rfl dX10_opened_6 ?_
  refine bs_leti (fun z2 ez2 => ?_)
  refine bs_istore_n hC [(2, .int z2), (1, .int z1), (0, .ref (bd_a ε 0))] dX10_opened_9 rfl (by decide) rfl ?_
  refine bs_bipush hC (-9 : Int32) dX10_opened_10 rfl ?_
  refine bs_istore_n hC [(3, .int (-9 : Int32)), (2, .int z2), (1, .int z1), (0, .ref (bd_a ε 0))] dX10_opened_12 rfl (by decide) rfl ?_
  refine bs_iconst hC (0 : Int32) dX10_opened_13 rfl ?_
  refine bs_istore hC [(4, .int (0 : Int32)), (3, .int (-9 : Int32)), (2, .int z2), (1, .int z1), (0, .ref (bd_a ε 0))] dX10_opened_14 (by decide) rfl ?_
  refine bs_pick [4, 3, 2, 1, 0] rfl ?_
  refine bs_loopK (fun (q : Int32 × Int32 × bd_T) t => bd_S Γ 5 t0 t (cM ε (q.2.2)) 16 [(0, .ref (bd_a ε 0)), (1, .int z1), (2, .int z2), (3, .int (q.1)), (4, .int (q.2.1))] []) (fun (q : Int32 × bd_T) t => bd_S Γ 5 t0 t (cM ε (q.2)) 84 [(0, .ref (bd_a ε 0)), (1, .int z1), (2, .int z2), (3, .int (q.1))] []) (fun q => fb_X10_opened_16 z1 z2 q.1 q.2.1 q.2.2) (fun _ => bs_none) (fun K hk hx q => lb_X10_opened_16 hC   z1 z2 (fun a0 a1 S => hk (a0, a1, S)) (fun b0 S => hx (b0, S))  (q.1) (q.2.1) (q.2.2)) (fun r => ?_) bd_K ((-9 : Int32), (0 : Int32), S)
  obtain ⟨y17, S18⟩ := r
  show bd_S Γ 5 t0 (Option.bind _ _) (cM ε S18) 84 [(0, .ref (bd_a ε 0)), (1, .int z1), (2, .int z2), (3, .int y17)] []
  try dsimp only
  refine bs_aload_n hC 0 dX10_opened_84 rfl rfl ?_
  refine bs_iload_n hC 1 dX10_opened_85 rfl rfl ?_
  refine bs_put hC (kk := 4) hin_X10 tyX10 tyX10_ok nmX10 0 (cM_o0 ε S18) rfl 11 (by decide) mw_571 rfl rfl rfl (Nat.le_of_ble_eq_true rfl) (cM_p4 ε S18 _) dX10_opened_86 (fun S19 eS19 => ?_)
  refine bs_aload_n hC 0 dX10_opened_89 rfl rfl ?_
  refine bs_iload_n hC 2 dX10_opened_90 rfl rfl ?_
  refine bs_put hC (kk := 5) hin_X10 tyX10 tyX10_ok nmX10 0 (cM_o0 ε S19) rfl 12 (by decide) mw_572 rfl rfl rfl (Nat.le_of_ble_eq_true rfl) (cM_p5 ε S19 _) dX10_opened_91 (fun S20 eS20 => ?_)
  refine bs_aload_n hC 0 dX10_opened_94 rfl rfl ?_
  refine bs_iconst hC (1 : Int32) dX10_opened_95 rfl ?_
  refine bs_put hC (kk := 7) hin_X10 tyX10 tyX10_ok nmX10 0 (cM_o0 ε S20) rfl 14 (by decide) mw_574 rfl rfl rfl (Nat.le_of_ble_eq_true rfl) (cM_p7 ε S20 _) dX10_opened_96 (fun S21 eS21 => ?_)
  refine bs_iload_n hC 3 dX10_opened_99 rfl rfl ?_
  exact bs_iret hC dX10_opened_100 rfl
theorem c_X10_opened (l : Launch) (D : va_G) (ε : bd_E)  (S : bd_T) (h0 : (f_X10_opened S).isSome = true) : bd_Con l yX10_opened (Cond.code yX10_opened cX10_opened 5 (some .int) :: bd_tbl) ({ frames := 4, cells := 0, slots := 0, locals := 94 } : Room) D ε (cM ε) bd_vi [.ref (bd_a ε 0)] S (f_X10_opened S) :=
  bd_con (by decide +kernel) (Nat.le_of_ble_eq_true rfl) ⟨rfl, rfl⟩ h0 (fun Γ _ _ hC => bs_eq bs_bs (b_X10_opened hC S))
set_option maxRecDepth 100000 in
set_option maxHeartbeats 4000000 in
theorem lb_X10_hangs_36 {Γ : bd_G} {ε : bd_E} {t0 : Option (Int32 × bd_T)} (hC : bd_C Γ cX10_hangs 7 RX10 (some .int) ({ frames := 4, cells := 0, slots := 0, locals := 94 } : Room) ε (cM ε) bd_vi t0) (p1 : Int64) (p3 : Int32) (p4 : Int32) {K : (Int32 × bd_T) ⊕ (bd_T) → Option (Int32 × bd_T)} (hk : ∀ (x5 : Int32) (S : bd_T), bd_S Γ 7 t0 (K (.inl (x5, S))) (cM ε S) 36 [(0, .ref (bd_a ε 0)), (1, .long p1), (3, .int p3), (4, .int p4), (5, .int x5)] []) (hx : ∀ (S : bd_T), bd_S Γ 7 t0 (K (.inr S)) (cM ε S) 80 [(0, .ref (bd_a ε 0)), (1, .long p1), (3, .int p3), (4, .int p4)] []) (x5 : Int32) (S : bd_T) : bd_S Γ 7 t0 ((fb_X10_hangs_36 p1 p3 p4 x5 S).bind K) (cM ε S) 36 [(0, .ref (bd_a ε 0)), (1, .long p1), (3, .int p3), (4, .int p4), (5, .int x5)] [] := by
  unfold fb_X10_hangs_36
  refine bs_iload hC 4 dX10_hangs_36 rfl ?_
  refine bs_aload_n hC 0 dX10_hangs_38 rfl rfl ?_
  refine bs_get hC (v := .int (bd_I S 8)) hin_X10 0 (cM_o0 ε S) rfl 20 (by decide) mw_580 rfl dX10_hangs_39 ?_
  refine bs_icmp_ge hC 80 dX10_hangs_42 (by decide) (fun c12 => ?_) (fun c12 => ?_)
  · refine bs_some ?_
    refine bs_pick [0, 1, 2, 3] rfl ?_
    exact hx S
  refine bs_aload_n hC 0 dX10_hangs_45 rfl rfl ?_
  refine bs_dup hC dX10_hangs_46 rfl ?_
  refine bs_get hC (v := .int (bd_I S 9)) hin_X10 0 (cM_o0 ε S) rfl 29 (by decide) mw_589 rfl dX10_hangs_47 ?_
  refine bs_aload_n hC 0 dX10_hangs_50 rfl rfl ?_
  refine bs_get hC (v := .ref (bd_a ε (1 + 7))) hin_X10 0 (cM_o0 ε S) rfl 15 (by decide) mw_575 rfl dX10_hangs_51 ?_
  refine bs_iload hC 4 dX10_hangs_54 rfl ?_
  refine bs_iald hC _ (cM_gi ε S 7 10 (by decide) rfl) dX10_hangs_56 (fun z8 ez8 => ?_)
  refine bs_iload hC 3 dX10_hangs_57 rfl ?_
  refine bs_icmp_ne hC 69 dX10_hangs_59 (by decide) (fun c11 => ?_) (fun c11 => ?_)
  · refine bs_iconst hC (1 : Int32) dX10_hangs_62 rfl ?_
    refine bs_iload hC 4 dX10_hangs_63 rfl ?_
    refine bs_ishl hC dX10_hangs_65 ?_
    refine bs_goto hC 70 dX10_hangs_66 (by decide) ?_
    refine bs_ior hC dX10_hangs_70 ?_
    refine bs_put hC (kk := 9) hin_X10 tyX10 tyX10_ok nmX10 0 (cM_o0 ε S) rfl 29 (by decide) mw_589 rfl rfl rfl (Nat.le_of_ble_eq_true rfl) (cM_p9 ε S _) dX10_hangs_71 (fun S9 eS9 => ?_)
    refine bs_iinc hC 4 [(5, .int (x5 + 1)), (0, .ref (bd_a ε 0)), (1, .long p1), (3, .int p3), (4, .int p4)] dX10_hangs_74 rfl rfl (by decide) rfl ?_
    refine bs_goto hC 36 dX10_hangs_77 (by decide) ?_
    refine bs_some ?_
    refine bs_pick [1, 2, 3, 4, 0] rfl ?_
    exact hk (x5 + 1) S9
  refine bs_iconst hC (0 : Int32) dX10_hangs_69 rfl ?_
  refine bs_ior hC dX10_hangs_70 ?_
  refine bs_put hC (kk := 9) hin_X10 tyX10 tyX10_ok nmX10 0 (cM_o0 ε S) rfl 29 (by decide) mw_589 rfl rfl rfl (Nat.le_of_ble_eq_true rfl) (cM_p9 ε S _) dX10_hangs_71 (fun S10 eS10 => ?_)
  refine bs_iinc hC 4 [(5, .int (x5 + 1)), (0, .ref (bd_a ε 0)), (1, .long p1), (3, .int p3), (4, .int p4)] dX10_hangs_74 rfl rfl (by decide) rfl ?_
  refine bs_goto hC 36 dX10_hangs_77 (by decide) ?_
  refine bs_some ?_
  refine bs_pick [1, 2, 3, 4, 0] rfl ?_
  exact hk (x5 + 1) S10
set_option maxRecDepth 100000 in
set_option maxHeartbeats 4000000 in
theorem lb_X10_hangs_19 {Γ : bd_G} {ε : bd_E} {t0 : Option (Int32 × bd_T)} (hC : bd_C Γ cX10_hangs 7 RX10 (some .int) ({ frames := 4, cells := 0, slots := 0, locals := 94 } : Room) ε (cM ε) bd_vi t0)  {K : (Int64 × Int32 × Int32 × bd_T) ⊕ (Int32 × bd_T) → Option (Int32 × bd_T)} (hk : ∀ (x1 : Int64) (x3 : Int32) (x4 : Int32) (S : bd_T), bd_S Γ 7 t0 (K (.inl (x1, x3, x4, S))) (cM ε S) 19 [(0, .ref (bd_a ε 0)), (1, .long x1), (3, .int x3), (4, .int x4)] []) (hx : ∀ (y3 : Int32) (S : bd_T), bd_S Γ 7 t0 (K (.inr (y3, S))) (cM ε S) 108 [(3, .int y3)] []) (x1 : Int64) (x3 : Int32) (x4 : Int32) (S : bd_T) : bd_S Γ 7 t0 ((fb_X10_hangs_19 x1 x3 x4 S).bind K) (cM ε S) 19 [(0, .ref (bd_a ε 0)), (1, .long x1), (3, .int x3), (4, .int x4)] [] := by
  unfold fb_X10_hangs_19
  refine bs_iload hC 3 dX10_hangs_19 rfl ?_
  refine bs_aload_n hC 0 dX10_hangs_21 rfl rfl ?_
  refine bs_get hC (v := .int (bd_I S 2)) hin_X10 0 (cM_o0 ε S) rfl 7 (by decide) mw_567 rfl dX10_hangs_22 ?_
  refine bs_icmp_ge hC 108 dX10_hangs_25 (by decide) (fun c17 => ?_) (fun c17 => ?_)
  · refine bs_some ?_
    refine bs_pick [2] rfl ?_
    exact hx x3 S
  refine bs_aload_n hC 0 dX10_hangs_28 rfl rfl ?_
  refine bs_iconst hC (0 : Int32) dX10_hangs_29 rfl ?_
  refine bs_put hC (kk := 9) hin_X10 tyX10 tyX10_ok nmX10 0 (cM_o0 ε S) rfl 29 (by decide) mw_589 rfl rfl rfl (Nat.le_of_ble_eq_true rfl) (cM_p9 ε S _) dX10_hangs_30 (fun S7 eS7 => ?_)
  refine bs_iconst hC (0 : Int32) dX10_hangs_33 rfl ?_
  refine bs_istore hC [(5, .int (0 : Int32)), (0, .ref (bd_a ε 0)), (1, .long x1), (3, .int x3), (4, .int x4)] dX10_hangs_34 (by decide) rfl ?_
  refine bs_pick [1, 2, 3, 4, 0] rfl ?_
  refine bs_loopK (fun (q : Int32 × bd_T) t => bd_S Γ 7 t0 t (cM ε (q.2)) 36 [(0, .ref (bd_a ε 0)), (1, .long x1), (3, .int x3), (4, .int x4), (5, .int (q.1))] []) (fun (q : bd_T) t => bd_S Γ 7 t0 t (cM ε (q)) 80 [(0, .ref (bd_a ε 0)), (1, .long x1), (3, .int x3), (4, .int x4)] []) (fun q => fb_X10_hangs_36 x1 x3 x4 q.1 q.2) (fun _ => bs_none) (fun K hk hx q => lb_X10_hangs_36 hC   x1 x3 x4 (fun a0 S => hk (a0, S)) (fun  S => hx (S))  (q.1) (q.2)) (fun r => ?_) bd_K ((0 : Int32), S7)
  obtain ⟨S13, rfl⟩ : ∃ z, z = r := ⟨_, rfl⟩
  show bd_S Γ 7 t0 (Option.bind _ _) (cM ε S13) 80 [(0, .ref (bd_a ε 0)), (1, .long x1), (3, .int x3), (4, .int x4)] []
  try dsimp only
  refine bs_aload_n hC 0 dX10_hangs_80 rfl rfl ?_
  refine bs_callV_l hC (rm := ({ frames := 2, cells := 0, slots := 0, locals := 47 } : Room)) [] [] (fun h => c_X10_waysOf (bd_l Γ) (bd_D Γ) ε S13 h) mw_740 mw_738 mw_739 mw_82 mw_61 (cM_o0 ε S13) rfl by_X10_waysOf ⟨rfl, rfl, by decide, by decide⟩ rfl rfl (Nat.le_of_ble_eq_true rfl) dX10_hangs_81 (fun r14 S15 eS15 => ?_)
  refine bs_lstore hC [(5, .long r14), (0, .ref (bd_a ε 0)), (1, .long x1), (3, .int x3), (4, .int x4)] dX10_hangs_84 (by decide) rfl ?_
  refine bs_lload hC 0 dX10_hangs_86 rfl ?_
  refine bs_lload_n hC 2 dX10_hangs_88 rfl rfl ?_
  refine bs_lif_gt hC 96 dX10_hangs_89 dX10_hangs_90 (by decide) (fun c16 => ?_) (fun c16 => ?_)
  · refine bs_lload hC 0 dX10_hangs_96 rfl ?_
    refine bs_lstore_n hC [(1, .long r14), (5, .long r14), (0, .ref (bd_a ε 0)), (3, .int x3), (4, .int x4)] dX10_hangs_98 rfl (by decide) rfl ?_
    refine bs_iload hC 4 dX10_hangs_99 rfl ?_
    refine bs_istore_n hC [(3, .int x4), (1, .long r14), (5, .long r14), (0, .ref (bd_a ε 0)), (4, .int x4)] dX10_hangs_101 rfl (by decide) rfl ?_
    refine bs_iinc hC 4 [(4, .int (x4 + 1)), (3, .int x4), (1, .long r14), (5, .long r14), (0, .ref (bd_a ε 0))] dX10_hangs_102 rfl rfl (by decide) rfl ?_
    refine bs_goto hC 19 dX10_hangs_105 (by decide) ?_
    refine bs_some ?_
    refine bs_pick [4, 2, 1, 0] rfl ?_
    exact hk r14 x4 (x4 + 1) S15
  refine bs_goto hC 102 dX10_hangs_93 (by decide) ?_
  refine bs_iinc hC 4 [(4, .int (x4 + 1)), (5, .long r14), (0, .ref (bd_a ε 0)), (1, .long x1), (3, .int x3)] dX10_hangs_102 rfl rfl (by decide) rfl ?_
  refine bs_goto hC 19 dX10_hangs_105 (by decide) ?_
  refine bs_some ?_
  refine bs_pick [2, 3, 4, 0] rfl ?_
  exact hk x1 x3 (x4 + 1) S15
set_option maxRecDepth 100000 in
set_option maxHeartbeats 4000000 in
theorem b_X10_hangs {Γ : bd_G} {ε : bd_E} {t0 : Option (Int32 × bd_T)} (hC : bd_C Γ cX10_hangs 7 RX10 (some .int) ({ frames := 4, cells := 0, slots := 0, locals := 94 } : Room) ε (cM ε) bd_vi t0)  (S : bd_T) : bd_S Γ 7 t0 ((f_X10_hangs S).bind some) (cM ε S) 0 [(0, .ref (bd_a ε 0))] [] := by
  unfold f_X10_hangs
  refine bs_aload_n hC 0 dX10_hangs_0 rfl rfl ?_
  refine bs_callV_v hC (rm := ({ frames := 3, cells := 0, slots := 0, locals := 72 } : Room)) [] [] (fun h => c_X10_finds (bd_l Γ) (bd_D Γ) ε S h) mw_717 mw_715 mw_716 mw_82 mw_56 (cM_o0 ε S) rfl by_X10_finds ⟨rfl, rfl, by decide, by decide⟩ rfl rfl (Nat.le_of_ble_eq_true rfl) dX10_hangs_1 (fun r1 S2 eS2 => ?_)
  refine bs_aload_n hC 0 dX10_hangs_4 rfl rfl ?_
  refine bs_callV_v hC (rm := ({ frames := 0, cells := 0, slots := 0, locals := 0 } : Room)) [] [] (fun h => c_X10_frees (bd_l Γ) (bd_D Γ) ε S2 h) mw_723 mw_721 mw_722 mw_82 mw_58 (cM_o0 ε S2) rfl by_X10_frees ⟨rfl, rfl, by decide, by decide⟩ rfl rfl (Nat.le_of_ble_eq_true rfl) dX10_hangs_5 (fun r3 S4 eS4 => ?_)
  refine bs_aload_n hC 0 dX10_hangs_8 rfl rfl ?_
  refine bs_callV_l hC (rm := ({ frames := 2, cells := 0, slots := 0, locals := 47 } : Room)) [] [] (fun h => c_X10_waysOf (bd_l Γ) (bd_D Γ) ε S4 h) mw_740 mw_738 mw_739 mw_82 mw_61 (cM_o0 ε S4) rfl by_X10_waysOf ⟨rfl, rfl, by decide, by decide⟩ rfl rfl (Nat.le_of_ble_eq_true rfl) dX10_hangs_9 (fun r5 S6 eS6 => ?_)
  refine bs_lstore_n hC [(1, .long r5), (0, .ref (bd_a ε 0))] dX10_hangs_12 rfl (by decide) rfl ?_
  refine bs_bipush hC (-9 : Int32) dX10_hangs_13 rfl ?_
  refine bs_istore_n hC [(3, .int (-9 : Int32)), (1, .long r5), (0, .ref (bd_a ε 0))] dX10_hangs_15 rfl (by decide) rfl ?_
  refine bs_iconst hC (0 : Int32) dX10_hangs_16 rfl ?_
  refine bs_istore hC [(4, .int (0 : Int32)), (3, .int (-9 : Int32)), (1, .long r5), (0, .ref (bd_a ε 0))] dX10_hangs_17 (by decide) rfl ?_
  refine bs_pick [3, 2, 1, 0] rfl ?_
  refine bs_loopK (fun (q : Int64 × Int32 × Int32 × bd_T) t => bd_S Γ 7 t0 t (cM ε (q.2.2.2)) 19 [(0, .ref (bd_a ε 0)), (1, .long (q.1)), (3, .int (q.2.1)), (4, .int (q.2.2.1))] []) (fun (q : Int32 × bd_T) t => bd_S Γ 7 t0 t (cM ε (q.2)) 108 [(3, .int (q.1))] []) (fun q => fb_X10_hangs_19 q.1 q.2.1 q.2.2.1 q.2.2.2) (fun _ => bs_none) (fun K hk hx q => lb_X10_hangs_19 hC    (fun a0 a1 a2 S => hk (a0, a1, a2, S)) (fun b0 S => hx (b0, S))  (q.1) (q.2.1) (q.2.2.1) (q.2.2.2)) (fun r => ?_) bd_K (r5, (-9 : Int32), (0 : Int32), S6)
  obtain ⟨y18, S19⟩ := r
  show bd_S Γ 7 t0 (Option.bind _ _) (cM ε S19) 108 [(3, .int y18)] []
  try dsimp only
  refine bs_iload_n hC 0 dX10_hangs_108 rfl rfl ?_
  exact bs_iret hC dX10_hangs_109 rfl
theorem c_X10_hangs (l : Launch) (D : va_G) (ε : bd_E)  (S : bd_T) (h0 : (f_X10_hangs S).isSome = true) : bd_Con l yX10_hangs (Cond.code yX10_hangs cX10_hangs 7 (some .int) :: bd_tbl) ({ frames := 4, cells := 0, slots := 0, locals := 94 } : Room) D ε (cM ε) bd_vi [.ref (bd_a ε 0)] S (f_X10_hangs S) :=
  bd_con (by decide +kernel) (Nat.le_of_ble_eq_true rfl) ⟨rfl, rfl⟩ h0 (fun Γ _ _ hC => bs_eq bs_bs (b_X10_hangs hC S))
set_option maxRecDepth 100000 in
set_option maxHeartbeats 4000000 in
theorem lb_X10_ahead_55 {Γ : bd_G} {ε : bd_E} {t0 : Option (Int32 × bd_T)} (hC : bd_C Γ cX10_ahead 8 RX10 (some .int) ({ frames := 4, cells := 0, slots := 0, locals := 94 } : Room) ε (cM ε) bd_vi t0) (p1 : Int32) (p2 : Int32) (p3 : Int64) {K : (Int64 × Int32 × bd_T) ⊕ (Int64 × bd_T) → Option (Int32 × bd_T)} (hk : ∀ (x5 : Int64) (x7 : Int32) (S : bd_T), bd_S Γ 8 t0 (K (.inl (x5, x7, S))) (cM ε S) 55 [(0, .ref (bd_a ε 0)), (1, .int p1), (2, .int p2), (3, .long p3), (5, .long x5), (7, .int x7)] []) (hx : ∀ (y5 : Int64) (S : bd_T), bd_S Γ 8 t0 (K (.inr (y5, S))) (cM ε S) 104 [(3, .long p3), (5, .long y5)] []) (x5 : Int64) (x7 : Int32) (S : bd_T) : bd_S Γ 8 t0 ((fb_X10_ahead_55 p1 p2 p3 x5 x7 S).bind K) (cM ε S) 55 [(0, .ref (bd_a ε 0)), (1, .int p1), (2, .int p2), (3, .long p3), (5, .long x5), (7, .int x7)] [] := by
  unfold fb_X10_ahead_55
  refine bs_iload hC 5 dX10_ahead_55 rfl ?_
  refine bs_sipush hC (299 : Int32) dX10_ahead_57 rfl ?_
  refine bs_icmp_ge hC 104 dX10_ahead_60 (by decide) (fun c23 => ?_) (fun c23 => ?_)
  · refine bs_some ?_
    refine bs_pick [3, 4] rfl ?_
    exact hx x5 S
  refine bs_aload_n hC 0 dX10_ahead_63 rfl rfl ?_
  refine bs_get hC (v := .ref (bd_a ε (1 + 15))) hin_X10 0 (cM_o0 ε S) rfl 25 (by decide) mw_585 rfl dX10_ahead_64 ?_
  refine bs_iload_n hC 1 dX10_ahead_67 rfl rfl ?_
  refine bs_iload hC 5 dX10_ahead_68 rfl ?_
  refine bs_iast hC _ (cM_gi ε S 15 6 (by decide) rfl) (cM_si ε S 15 6 (by decide) rfl _) dX10_ahead_70 (fun S17 eS17 => ?_)
  refine bs_aload_n hC 0 dX10_ahead_71 rfl rfl ?_
  refine bs_get hC (v := .ref (bd_a ε (1 + 16))) hin_X10 0 (cM_o0 ε S17) rfl 26 (by decide) mw_586 rfl dX10_ahead_72 ?_
  refine bs_iload_n hC 1 dX10_ahead_75 rfl rfl ?_
  refine bs_iload hC 5 dX10_ahead_76 rfl ?_
  refine bs_iast hC _ (cM_gi ε S17 16 6 (by decide) rfl) (cM_si ε S17 16 6 (by decide) rfl _) dX10_ahead_78 (fun S18 eS18 => ?_)
  refine bs_aload_n hC 0 dX10_ahead_79 rfl rfl ?_
  refine bs_get hC (v := .ref (bd_a ε (1 + 15))) hin_X10 0 (cM_o0 ε S18) rfl 25 (by decide) mw_585 rfl dX10_ahead_80 ?_
  refine bs_iload_n hC 2 dX10_ahead_83 rfl rfl ?_
  refine bs_iload hC 5 dX10_ahead_84 rfl ?_
  refine bs_iconst hC (1 : Int32) dX10_ahead_86 rfl ?_
  refine bs_iadd hC dX10_ahead_87 ?_
  refine bs_iast hC _ (cM_gi ε S18 15 6 (by decide) rfl) (cM_si ε S18 15 6 (by decide) rfl _) dX10_ahead_88 (fun S19 eS19 => ?_)
  refine bs_lload hC 4 dX10_ahead_89 rfl ?_
  refine bs_aload_n hC 0 dX10_ahead_91 rfl rfl ?_
  refine bs_callV_l hC (rm := ({ frames := 2, cells := 0, slots := 0, locals := 47 } : Room)) [] [.long x5] (fun h => c_X10_waysOf (bd_l Γ) (bd_D Γ) ε S19 h) mw_740 mw_738 mw_739 mw_82 mw_61 (cM_o0 ε S19) rfl by_X10_waysOf ⟨rfl, rfl, by decide, by decide⟩ rfl rfl (Nat.le_of_ble_eq_true rfl) dX10_ahead_92 (fun r20 S21 eS21 => ?_)
  refine bs_ladd hC dX10_ahead_95 ?_
  refine bs_letl (fun z22 ez22 => ?_)
  refine bs_lstore hC [(5, .long z22), (0, .ref (bd_a ε 0)), (1, .int p1), (2, .int p2), (3, .long p3), (7, .int x7)] dX10_ahead_96 (by decide) rfl ?_
  refine bs_iinc hC 5 [(7, .int (x7 + 1)), (5, .long z22), (0, .ref (bd_a ε 0)), (1, .int p1), (2, .int p2), (3, .long p3)] dX10_ahead_98 rfl rfl (by decide) rfl ?_
  refine bs_goto hC 55 dX10_ahead_101 (by decide) ?_
  refine bs_some ?_
  refine bs_pick [2, 3, 4, 5, 1, 0] rfl ?_
  exact hk z22 (x7 + 1) S21
set_option maxRecDepth 100000 in
set_option maxHeartbeats 4000000 in
theorem b_X10_ahead {Γ : bd_G} {ε : bd_E} {t0 : Option (Int32 × bd_T)} (hC : bd_C Γ cX10_ahead 8 RX10 (some .int) ({ frames := 4, cells := 0, slots := 0, locals := 94 } : Room) ε (cM ε) bd_vi t0) (x1 : Int32) (x2 : Int32)  (S : bd_T) : bd_S Γ 8 t0 ((f_X10_ahead x1 x2 S).bind some) (cM ε S) 0 [(0, .ref (bd_a ε 0)), (1, .int x1), (2, .int x2)] [] := by
  unfold f_X10_ahead
  refine bs_aload_n hC 0 dX10_ahead_0 rfl rfl ?_
  refine bs_iload_n hC 1 dX10_ahead_1 rfl rfl ?_
  refine bs_callV_i hC (rm := ({ frames := 0, cells := 0, slots := 0, locals := 0 } : Room)) [.int x1] [] (fun h => c_X10_isThing (bd_l Γ) (bd_D Γ) ε x1 S h) mw_670 mw_668 mw_669 mw_82 mw_52 (cM_o0 ε S) rfl by_X10_isThing ⟨rfl, rfl, by decide, by decide⟩ rfl rfl (Nat.le_of_ble_eq_true rfl) dX10_ahead_2 (fun r1 S2 eS2 => ?_)
  refine bs_if_eq hC 21 dX10_ahead_5 (by decide) (fun c31 => ?_) (fun c31 => ?_)
  · refine bs_aload_n hC 0 dX10_ahead_21 rfl rfl ?_
    refine bs_iconst hC (-1 : Int32) dX10_ahead_22 rfl ?_
    refine bs_callV_i hC (rm := ({ frames := 0, cells := 0, slots := 0, locals := 0 } : Room)) [.int (-1 : Int32)] [] (fun h => c_X10_no (bd_l Γ) (bd_D Γ) ε (-1 : Int32) S2 h) mw_646 mw_644 mw_645 mw_82 mw_48 (cM_o0 ε S2) rfl by_X10_no ⟨rfl, rfl, by decide, by decide⟩ rfl rfl (Nat.le_of_ble_eq_true rfl) dX10_ahead_23 (fun r3 S4 eS4 => ?_)
    exact bs_iret hC dX10_ahead_26 rfl
  refine bs_aload_n hC 0 dX10_ahead_8 rfl rfl ?_
  refine bs_iload_n hC 2 dX10_ahead_9 rfl rfl ?_
  refine bs_callV_i hC (rm := ({ frames := 0, cells := 0, slots := 0, locals := 0 } : Room)) [.int x2] [] (fun h => c_X10_isThing (bd_l Γ) (bd_D Γ) ε x2 S2 h) mw_670 mw_668 mw_669 mw_82 mw_52 (cM_o0 ε S2) rfl by_X10_isThing ⟨rfl, rfl, by decide, by decide⟩ rfl rfl (Nat.le_of_ble_eq_true rfl) dX10_ahead_10 (fun r5 S6 eS6 => ?_)
  refine bs_if_eq hC 21 dX10_ahead_13 (by decide) (fun c30 => ?_) (fun c30 => ?_)
  · refine bs_aload_n hC 0 dX10_ahead_21 rfl rfl ?_
    refine bs_iconst hC (-1 : Int32) dX10_ahead_22 rfl ?_
    refine bs_callV_i hC (rm := ({ frames := 0, cells := 0, slots := 0, locals := 0 } : Room)) [.int (-1 : Int32)] [] (fun h => c_X10_no (bd_l Γ) (bd_D Γ) ε (-1 : Int32) S6 h) mw_646 mw_644 mw_645 mw_82 mw_48 (cM_o0 ε S6) rfl by_X10_no ⟨rfl, rfl, by decide, by decide⟩ rfl rfl (Nat.le_of_ble_eq_true rfl) dX10_ahead_23 (fun r7 S8 eS8 => ?_)
    exact bs_iret hC dX10_ahead_26 rfl
  refine bs_iload_n hC 1 dX10_ahead_16 rfl rfl ?_
  refine bs_iload_n hC 2 dX10_ahead_17 rfl rfl ?_
  refine bs_icmp_ne hC 27 dX10_ahead_18 (by decide) (fun c29 => ?_) (fun c29 => ?_)
  · refine bs_aload_n hC 0 dX10_ahead_21 rfl rfl ?_
    refine bs_iconst hC (-1 : Int32) dX10_ahead_22 rfl ?_
    refine bs_callV_i hC (rm := ({ frames := 0, cells := 0, slots := 0, locals := 0 } : Room)) [.int (-1 : Int32)] [] (fun h => c_X10_no (bd_l Γ) (bd_D Γ) ε (-1 : Int32) S6 h) mw_646 mw_644 mw_645 mw_82 mw_48 (cM_o0 ε S6) rfl by_X10_no ⟨rfl, rfl, by decide, by decide⟩ rfl rfl (Nat.le_of_ble_eq_true rfl) dX10_ahead_23 (fun r9 S10 eS10 => ?_)
    exact bs_iret hC dX10_ahead_26 rfl
  refine bs_aload_n hC 0 dX10_ahead_27 rfl rfl ?_
  refine bs_callV_v hC (rm := ({ frames := 3, cells := 0, slots := 0, locals := 72 } : Room)) [] [] (fun h => c_X10_finds (bd_l Γ) (bd_D Γ) ε S6 h) mw_717 mw_715 mw_716 mw_82 mw_56 (cM_o0 ε S6) rfl by_X10_finds ⟨rfl, rfl, by decide, by decide⟩ rfl rfl (Nat.le_of_ble_eq_true rfl) dX10_ahead_28 (fun r11 S12 eS12 => ?_)
  refine bs_aload_n hC 0 dX10_ahead_31 rfl rfl ?_
  refine bs_callV_v hC (rm := ({ frames := 0, cells := 0, slots := 0, locals := 0 } : Room)) [] [] (fun h => c_X10_frees (bd_l Γ) (bd_D Γ) ε S12 h) mw_723 mw_721 mw_722 mw_82 mw_58 (cM_o0 ε S12) rfl by_X10_frees ⟨rfl, rfl, by decide, by decide⟩ rfl rfl (Nat.le_of_ble_eq_true rfl) dX10_ahead_32 (fun r13 S14 eS14 => ?_)
  refine bs_aload_n hC 0 dX10_ahead_35 rfl rfl ?_
  refine bs_callV_l hC (rm := ({ frames := 2, cells := 0, slots := 0, locals := 47 } : Room)) [] [] (fun h => c_X10_waysOf (bd_l Γ) (bd_D Γ) ε S14 h) mw_740 mw_738 mw_739 mw_82 mw_61 (cM_o0 ε S14) rfl by_X10_waysOf ⟨rfl, rfl, by decide, by decide⟩ rfl rfl (Nat.le_of_ble_eq_true rfl) dX10_ahead_36 (fun r15 S16 eS16 => ?_)
  refine bs_lstore_n hC [(3, .long r15), (0, .ref (bd_a ε 0)), (1, .int x1), (2, .int x2)] dX10_ahead_39 rfl (by decide) rfl ?_
  refine bs_lload_n hC 0 dX10_ahead_40 rfl rfl ?_
  refine bs_lconst hC (0 : Int64) dX10_ahead_41 rfl ?_
  refine bs_lif_ne hC 49 dX10_ahead_42 dX10_ahead_43 (by decide) (fun c28 => ?_) (fun c28 => ?_)
  · refine bs_bipush hC (-9 : Int32) dX10_ahead_46 rfl ?_
    exact bs_iret hC dX10_ahead_48 rfl
  refine bs_lconst hC (0 : Int64) dX10_ahead_49 rfl ?_
  refine bs_lstore hC [(5, .long (0 : Int64)), (3, .long r15), (0, .ref (bd_a ε 0)), (1, .int x1), (2, .int x2)] dX10_ahead_50 (by decide) rfl ?_
  refine bs_iconst hC (0 : Int32) dX10_ahead_52 rfl ?_
  refine bs_istore hC [(7, .int (0 : Int32)), (5, .long (0 : Int64)), (3, .long r15), (0, .ref (bd_a ε 0)), (1, .int x1), (2, .int x2)] dX10_ahead_53 (by decide) rfl ?_
  refine bs_pick [3, 4, 5, 2, 1, 0] rfl ?_
  refine bs_loopK (fun (q : Int64 × Int32 × bd_T) t => bd_S Γ 8 t0 t (cM ε (q.2.2)) 55 [(0, .ref (bd_a ε 0)), (1, .int x1), (2, .int x2), (3, .long r15), (5, .long (q.1)), (7, .int (q.2.1))] []) (fun (q : Int64 × bd_T) t => bd_S Γ 8 t0 t (cM ε (q.2)) 104 [(3, .long r15), (5, .long (q.1))] []) (fun q => fb_X10_ahead_55 x1 x2 r15 q.1 q.2.1 q.2.2) (fun _ => bs_none) (fun K hk hx q => lb_X10_ahead_55 hC   x1 x2 r15 (fun a0 a1 S => hk (a0, a1, S)) (fun b0 S => hx (b0, S))  (q.1) (q.2.1) (q.2.2)) (fun r => ?_) bd_K ((0 : Int64), (0 : Int32), S16)
  obtain ⟨y24, S25⟩ := r
  show bd_S Γ 8 t0 (Option.bind _ _) (cM ε S25) 104 [(3, .long r15), (5, .long y24)] []
  try dsimp only
  refine bs_lload hC 1 dX10_ahead_104 rfl ?_
  refine bs_lload_n hC 0 dX10_ahead_106 rfl rfl ?_
  refine bs_lif_ne hC 115 dX10_ahead_107 dX10_ahead_108 (by decide) (fun c27 => ?_) (fun c27 => ?_)
  · refine bs_iconst hC (1 : Int32) dX10_ahead_111 rfl ?_
    refine bs_goto hC 127 dX10_ahead_112 (by decide) ?_
    exact bs_iret hC dX10_ahead_127 rfl
  refine bs_lload hC 1 dX10_ahead_115 rfl ?_
  refine bs_lconst hC (0 : Int64) dX10_ahead_117 rfl ?_
  refine bs_lif_ne hC 126 dX10_ahead_118 dX10_ahead_119 (by decide) (fun c26 => ?_) (fun c26 => ?_)
  · refine bs_iconst hC (0 : Int32) dX10_ahead_122 rfl ?_
    refine bs_goto hC 127 dX10_ahead_123 (by decide) ?_
    exact bs_iret hC dX10_ahead_127 rfl
  refine bs_iconst hC (2 : Int32) dX10_ahead_126 rfl ?_
  exact bs_iret hC dX10_ahead_127 rfl
theorem c_X10_ahead (l : Launch) (D : va_G) (ε : bd_E) (x1 : Int32) (x2 : Int32)  (S : bd_T) (h0 : (f_X10_ahead x1 x2 S).isSome = true) : bd_Con l yX10_ahead (Cond.code yX10_ahead cX10_ahead 8 (some .int) :: bd_tbl) ({ frames := 4, cells := 0, slots := 0, locals := 94 } : Room) D ε (cM ε) bd_vi [.ref (bd_a ε 0), .int x1, .int x2] S (f_X10_ahead x1 x2 S) :=
  bd_con (by decide +kernel) (Nat.le_of_ble_eq_true rfl) ⟨rfl, rfl⟩ h0 (fun Γ _ _ hC => bs_eq bs_bs (b_X10_ahead hC x1 x2 S))
set_option maxRecDepth 100000 in
set_option maxHeartbeats 4000000 in
theorem lb_X10_narrowOf_7 {Γ : bd_G} {ε : bd_E} {t0 : Option (Int32 × bd_T)} (hC : bd_C Γ cX10_narrowOf 6 RX10 (some .int) ({ frames := 5, cells := 0, slots := 0, locals := 116 } : Room) ε (cM ε) bd_vi t0) (p1 : Int32) (p2 : Int32) {K : (Int32 × bd_T) ⊕ (bd_T) → Option (Int32 × bd_T)} (hk : ∀ (x3 : Int32) (S : bd_T), bd_S Γ 6 t0 (K (.inl (x3, S))) (cM ε S) 7 [(0, .ref (bd_a ε 0)), (1, .int p1), (2, .int p2), (3, .int x3)] []) (hx : ∀ (S : bd_T), bd_S Γ 6 t0 (K (.inr S)) (cM ε S) 27 [(0, .ref (bd_a ε 0)), (1, .int p1), (2, .int p2)] []) (x3 : Int32) (S : bd_T) : bd_S Γ 6 t0 ((fb_X10_narrowOf_7 p1 p2 x3 S).bind K) (cM ε S) 7 [(0, .ref (bd_a ε 0)), (1, .int p1), (2, .int p2), (3, .int x3)] [] := by
  unfold fb_X10_narrowOf_7
  refine bs_iload_n hC 3 dX10_narrowOf_7 rfl rfl ?_
  refine bs_sipush hC (10000 : Int32) dX10_narrowOf_8 rfl ?_
  refine bs_icmp_ge hC 27 dX10_narrowOf_11 (by decide) (fun c4 => ?_) (fun c4 => ?_)
  · refine bs_some ?_
    refine bs_pick [0, 1, 2] rfl ?_
    exact hx S
  refine bs_aload_n hC 0 dX10_narrowOf_14 rfl rfl ?_
  refine bs_get hC (v := .ref (bd_a ε (1 + 18))) hin_X10 0 (cM_o0 ε S) rfl 33 (by decide) mw_593 rfl dX10_narrowOf_15 ?_
  refine bs_iload_n hC 3 dX10_narrowOf_18 rfl rfl ?_
  refine bs_iconst hC (0 : Int32) dX10_narrowOf_19 rfl ?_
  refine bs_iast hC _ (cM_gi ε S 18 10000 (by decide) rfl) (cM_si ε S 18 10000 (by decide) rfl _) dX10_narrowOf_20 (fun S3 eS3 => ?_)
  refine bs_iinc hC 3 [(3, .int (x3 + 1)), (0, .ref (bd_a ε 0)), (1, .int p1), (2, .int p2)] dX10_narrowOf_21 rfl rfl (by decide) rfl ?_
  refine bs_goto hC 7 dX10_narrowOf_24 (by decide) ?_
  refine bs_some ?_
  refine bs_pick [1, 2, 3, 0] rfl ?_
  exact hk (x3 + 1) S3
set_option maxRecDepth 100000 in
set_option maxHeartbeats 4000000 in
theorem lb_X10_narrowOf_33 {Γ : bd_G} {ε : bd_E} {t0 : Option (Int32 × bd_T)} (hC : bd_C Γ cX10_narrowOf 6 RX10 (some .int) ({ frames := 5, cells := 0, slots := 0, locals := 116 } : Room) ε (cM ε) bd_vi t0) (p1 : Int32) (p2 : Int32) {K : (Int32 × Int32 × bd_T) ⊕ (Int32 × bd_T) → Option (Int32 × bd_T)} (hk : ∀ (x3 : Int32) (x4 : Int32) (S : bd_T), bd_S Γ 6 t0 (K (.inl (x3, x4, S))) (cM ε S) 33 [(0, .ref (bd_a ε 0)), (1, .int p1), (2, .int p2), (3, .int x3), (4, .int x4)] []) (hx : ∀ (y3 : Int32) (S : bd_T), bd_S Γ 6 t0 (K (.inr (y3, S))) (cM ε S) 105 [(3, .int y3)] []) (x3 : Int32) (x4 : Int32) (S : bd_T) : bd_S Γ 6 t0 ((fb_X10_narrowOf_33 p1 p2 x3 x4 S).bind K) (cM ε S) 33 [(0, .ref (bd_a ε 0)), (1, .int p1), (2, .int p2), (3, .int x3), (4, .int x4)] [] := by
  unfold fb_X10_narrowOf_33
  refine bs_iload hC 4 dX10_narrowOf_33 rfl ?_
  refine bs_iload_n hC 2 dX10_narrowOf_35 rfl rfl ?_
  refine bs_icmp_gt hC 105 dX10_narrowOf_36 (by decide) (fun c15 => ?_) (fun c15 => ?_)
  · refine bs_some ?_
    refine bs_pick [3] rfl ?_
    exact hx x3 S
  refine bs_aload_n hC 0 dX10_narrowOf_39 rfl rfl ?_
  refine bs_get hC (v := .ref (bd_a ε 22)) hin_X10 0 (cM_o0 ε S) rfl 30 (by decide) mw_590 rfl dX10_narrowOf_40 ?_
  refine bs_iload hC 4 dX10_narrowOf_43 rfl ?_
  refine bs_zald hC _ (cM_gz ε S 1 300 (by decide) rfl) dX10_narrowOf_45 (fun z6 ez6 => ?_)
  refine bs_if_ne hC 52 dX10_narrowOf_46 (by decide) (fun c14 => ?_) (fun c14 => ?_)
  · refine bs_goto hC 99 dX10_narrowOf_49 (by decide) ?_
    refine bs_iinc hC 4 [(4, .int (x4 + 1)), (0, .ref (bd_a ε 0)), (1, .int p1), (2, .int p2), (3, .int x3)] dX10_narrowOf_99 rfl rfl (by decide) rfl ?_
    refine bs_goto hC 33 dX10_narrowOf_102 (by decide) ?_
    refine bs_some ?_
    refine bs_pick [1, 2, 3, 4, 0] rfl ?_
    exact hk x3 (x4 + 1) S
  refine bs_aload_n hC 0 dX10_narrowOf_52 rfl rfl ?_
  refine bs_iload_n hC 1 dX10_narrowOf_53 rfl rfl ?_
  refine bs_iload hC 4 dX10_narrowOf_54 rfl ?_
  refine bs_iload_n hC 2 dX10_narrowOf_56 rfl rfl ?_
  refine bs_iload hC 4 dX10_narrowOf_57 rfl ?_
  refine bs_isub hC dX10_narrowOf_59 ?_
  refine bs_callV_i hC (rm := ({ frames := 1, cells := 0, slots := 0, locals := 24 } : Room)) [.int p1, .int x4, .int (p2 - x4)] [] (fun h => c_X10_leftOf (bd_l Γ) (bd_D Γ) ε p1 x4 (p2 - x4) S h) mw_692 mw_690 mw_691 mw_82 mw_53 (cM_o0 ε S) rfl by_X10_leftOf ⟨rfl, rfl, by decide, by decide⟩ rfl rfl (Nat.le_of_ble_eq_true rfl) dX10_narrowOf_60 (fun r7 S8 eS8 => ?_)
  refine bs_istore hC [(5, .int r7), (0, .ref (bd_a ε 0)), (1, .int p1), (2, .int p2), (3, .int x3), (4, .int x4)] dX10_narrowOf_63 (by decide) rfl ?_
  refine bs_aload_n hC 1 dX10_narrowOf_65 rfl rfl ?_
  refine bs_get hC (v := .ref (bd_a ε (1 + 18))) hin_X10 0 (cM_o0 ε S8) rfl 33 (by decide) mw_593 rfl dX10_narrowOf_66 ?_
  refine bs_iload hC 0 dX10_narrowOf_69 rfl ?_
  refine bs_dup2 hC dX10_narrowOf_71 rfl rfl ?_
  refine bs_iald hC _ (cM_gi ε S8 18 10000 (by decide) rfl) dX10_narrowOf_72 (fun z9 ez9 => ?_)
  refine bs_iconst hC (1 : Int32) dX10_narrowOf_73 rfl ?_
  refine bs_iadd hC dX10_narrowOf_74 ?_
  refine bs_iast hC _ (cM_gi ε S8 18 10000 (by decide) rfl) (cM_si ε S8 18 10000 (by decide) rfl _) dX10_narrowOf_75 (fun S10 eS10 => ?_)
  refine bs_aload_n hC 1 dX10_narrowOf_76 rfl rfl ?_
  refine bs_get hC (v := .ref (bd_a ε (1 + 18))) hin_X10 0 (cM_o0 ε S10) rfl 33 (by decide) mw_593 rfl dX10_narrowOf_77 ?_
  refine bs_iload hC 0 dX10_narrowOf_80 rfl ?_
  refine bs_iald hC _ (cM_gi ε S10 18 10000 (by decide) rfl) dX10_narrowOf_82 (fun z11 ez11 => ?_)
  refine bs_iload_n hC 4 dX10_narrowOf_83 rfl rfl ?_
  refine bs_icmp_le hC 97 dX10_narrowOf_84 (by decide) (fun c13 => ?_) (fun c13 => ?_)
  · refine bs_iload_n hC 4 dX10_narrowOf_97 rfl rfl ?_
    refine bs_istore_n hC [(3, .int x3), (5, .int r7), (0, .ref (bd_a ε 0)), (1, .int p1), (2, .int p2), (4, .int x4)] dX10_narrowOf_98 rfl (by decide) rfl ?_
    refine bs_iinc hC 5 [(4, .int (x4 + 1)), (3, .int x3), (5, .int r7), (0, .ref (bd_a ε 0)), (1, .int p1), (2, .int p2)] dX10_narrowOf_99 rfl rfl (by decide) rfl ?_
    refine bs_goto hC 33 dX10_narrowOf_102 (by decide) ?_
    refine bs_some ?_
    refine bs_pick [3, 4, 5, 1, 0] rfl ?_
    exact hk x3 (x4 + 1) S10
  refine bs_aload_n hC 1 dX10_narrowOf_87 rfl rfl ?_
  refine bs_get hC (v := .ref (bd_a ε (1 + 18))) hin_X10 0 (cM_o0 ε S10) rfl 33 (by decide) mw_593 rfl dX10_narrowOf_88 ?_
  refine bs_iload hC 0 dX10_narrowOf_91 rfl ?_
  refine bs_iald hC _ (cM_gi ε S10 18 10000 (by decide) rfl) dX10_narrowOf_93 (fun z12 ez12 => ?_)
  refine bs_goto hC 98 dX10_narrowOf_94 (by decide) ?_
  refine bs_istore_n hC [(3, .int z12), (5, .int r7), (0, .ref (bd_a ε 0)), (1, .int p1), (2, .int p2), (4, .int x4)] dX10_narrowOf_98 rfl (by decide) rfl ?_
  refine bs_iinc hC 5 [(4, .int (x4 + 1)), (3, .int z12), (5, .int r7), (0, .ref (bd_a ε 0)), (1, .int p1), (2, .int p2)] dX10_narrowOf_99 rfl rfl (by decide) rfl ?_
  refine bs_goto hC 33 dX10_narrowOf_102 (by decide) ?_
  refine bs_some ?_
  refine bs_pick [3, 4, 5, 1, 0] rfl ?_
  exact hk z12 (x4 + 1) S10
set_option maxRecDepth 100000 in
set_option maxHeartbeats 4000000 in
theorem b_X10_narrowOf {Γ : bd_G} {ε : bd_E} {t0 : Option (Int32 × bd_T)} (hC : bd_C Γ cX10_narrowOf 6 RX10 (some .int) ({ frames := 5, cells := 0, slots := 0, locals := 116 } : Room) ε (cM ε) bd_vi t0) (x1 : Int32) (x2 : Int32)  (S : bd_T) : bd_S Γ 6 t0 ((f_X10_narrowOf x1 x2 S).bind some) (cM ε S) 0 [(0, .ref (bd_a ε 0)), (1, .int x1), (2, .int x2)] [] := by
  unfold f_X10_narrowOf
  refine bs_aload_n hC 0 dX10_narrowOf_0 rfl rfl ?_
  refine bs_iload_n hC 1 dX10_narrowOf_1 rfl rfl ?_
  refine bs_callV_v hC (rm := ({ frames := 4, cells := 0, slots := 0, locals := 94 } : Room)) [.int x1] [] (fun h => c_X10_findMay (bd_l Γ) (bd_D Γ) ε x1 S h) mw_753 mw_751 mw_752 mw_82 mw_64 (cM_o0 ε S) rfl by_X10_findMay ⟨rfl, rfl, by decide, by decide⟩ rfl rfl (Nat.le_of_ble_eq_true rfl) dX10_narrowOf_2 (fun r1 S2 eS2 => ?_)
  refine bs_iconst hC (0 : Int32) dX10_narrowOf_5 rfl ?_
  refine bs_istore_n hC [(3, .int (0 : Int32)), (0, .ref (bd_a ε 0)), (1, .int x1), (2, .int x2)] dX10_narrowOf_6 rfl (by decide) rfl ?_
  refine bs_pick [1, 2, 3, 0] rfl ?_
  refine bs_loopK (fun (q : Int32 × bd_T) t => bd_S Γ 6 t0 t (cM ε (q.2)) 7 [(0, .ref (bd_a ε 0)), (1, .int x1), (2, .int x2), (3, .int (q.1))] []) (fun (q : bd_T) t => bd_S Γ 6 t0 t (cM ε (q)) 27 [(0, .ref (bd_a ε 0)), (1, .int x1), (2, .int x2)] []) (fun q => fb_X10_narrowOf_7 x1 x2 q.1 q.2) (fun _ => bs_none) (fun K hk hx q => lb_X10_narrowOf_7 hC   x1 x2 (fun a0 S => hk (a0, S)) (fun  S => hx (S))  (q.1) (q.2)) (fun r => ?_) bd_K ((0 : Int32), S2)
  obtain ⟨S5, rfl⟩ : ∃ z, z = r := ⟨_, rfl⟩
  show bd_S Γ 6 t0 (Option.bind _ _) (cM ε S5) 27 [(0, .ref (bd_a ε 0)), (1, .int x1), (2, .int x2)] []
  try dsimp only
  refine bs_bipush hC (-9 : Int32) dX10_narrowOf_27 rfl ?_
  refine bs_istore_n hC [(3, .int (-9 : Int32)), (0, .ref (bd_a ε 0)), (1, .int x1), (2, .int x2)] dX10_narrowOf_29 rfl (by decide) rfl ?_
  refine bs_iconst hC (0 : Int32) dX10_narrowOf_30 rfl ?_
  refine bs_istore hC [(4, .int (0 : Int32)), (3, .int (-9 : Int32)), (0, .ref (bd_a ε 0)), (1, .int x1), (2, .int x2)] dX10_narrowOf_31 (by decide) rfl ?_
  refine bs_pick [2, 3, 4, 1, 0] rfl ?_
  refine bs_loopK (fun (q : Int32 × Int32 × bd_T) t => bd_S Γ 6 t0 t (cM ε (q.2.2)) 33 [(0, .ref (bd_a ε 0)), (1, .int x1), (2, .int x2), (3, .int (q.1)), (4, .int (q.2.1))] []) (fun (q : Int32 × bd_T) t => bd_S Γ 6 t0 t (cM ε (q.2)) 105 [(3, .int (q.1))] []) (fun q => fb_X10_narrowOf_33 x1 x2 q.1 q.2.1 q.2.2) (fun _ => bs_none) (fun K hk hx q => lb_X10_narrowOf_33 hC   x1 x2 (fun a0 a1 S => hk (a0, a1, S)) (fun b0 S => hx (b0, S))  (q.1) (q.2.1) (q.2.2)) (fun r => ?_) bd_K ((-9 : Int32), (0 : Int32), S5)
  obtain ⟨y16, S17⟩ := r
  show bd_S Γ 6 t0 (Option.bind _ _) (cM ε S17) 105 [(3, .int y16)] []
  try dsimp only
  refine bs_iload_n hC 0 dX10_narrowOf_105 rfl rfl ?_
  exact bs_iret hC dX10_narrowOf_106 rfl
theorem c_X10_narrowOf (l : Launch) (D : va_G) (ε : bd_E) (x1 : Int32) (x2 : Int32)  (S : bd_T) (h0 : (f_X10_narrowOf x1 x2 S).isSome = true) : bd_Con l yX10_narrowOf (Cond.code yX10_narrowOf cX10_narrowOf 6 (some .int) :: bd_tbl) ({ frames := 5, cells := 0, slots := 0, locals := 116 } : Room) D ε (cM ε) bd_vi [.ref (bd_a ε 0), .int x1, .int x2] S (f_X10_narrowOf x1 x2 S) :=
  bd_con (by decide +kernel) (Nat.le_of_ble_eq_true rfl) ⟨rfl, rfl⟩ h0 (fun Γ _ _ hC => bs_eq bs_bs (b_X10_narrowOf hC x1 x2 S))
set_option maxRecDepth 100000 in
set_option maxHeartbeats 4000000 in
theorem b_X10_narrow {Γ : bd_G} {ε : bd_E} {t0 : Option (Int32 × bd_T)} (hC : bd_C Γ cX10_narrow 4 RX10 (some .int) ({ frames := 6, cells := 0, slots := 0, locals := 141 } : Room) ε (cM ε) bd_vi t0) (x1 : Int32) (x2 : Int32)  (S : bd_T) : bd_S Γ 4 t0 ((f_X10_narrow x1 x2 S).bind some) (cM ε S) 0 [(0, .ref (bd_a ε 0)), (1, .int x1), (2, .int x2)] [] := by
  unfold f_X10_narrow
  refine bs_aload_n hC 0 dX10_narrow_0 rfl rfl ?_
  refine bs_iload_n hC 1 dX10_narrow_1 rfl rfl ?_
  refine bs_callV_i hC (rm := ({ frames := 0, cells := 0, slots := 0, locals := 0 } : Room)) [.int x1] [] (fun h => c_X10_isThing (bd_l Γ) (bd_D Γ) ε x1 S h) mw_670 mw_668 mw_669 mw_82 mw_52 (cM_o0 ε S) rfl by_X10_isThing ⟨rfl, rfl, by decide, by decide⟩ rfl rfl (Nat.le_of_ble_eq_true rfl) dX10_narrow_2 (fun r1 S2 eS2 => ?_)
  refine bs_if_ne hC 14 dX10_narrow_5 (by decide) (fun c12 => ?_) (fun c12 => ?_)
  · refine bs_aload_n hC 0 dX10_narrow_8 rfl rfl ?_
    refine bs_iconst hC (-1 : Int32) dX10_narrow_9 rfl ?_
    refine bs_callV_i hC (rm := ({ frames := 0, cells := 0, slots := 0, locals := 0 } : Room)) [.int (-1 : Int32)] [] (fun h => c_X10_no (bd_l Γ) (bd_D Γ) ε (-1 : Int32) S2 h) mw_646 mw_644 mw_645 mw_82 mw_48 (cM_o0 ε S2) rfl by_X10_no ⟨rfl, rfl, by decide, by decide⟩ rfl rfl (Nat.le_of_ble_eq_true rfl) dX10_narrow_10 (fun r3 S4 eS4 => ?_)
    exact bs_iret hC dX10_narrow_13 rfl
  refine bs_iload_n hC 2 dX10_narrow_14 rfl rfl ?_
  refine bs_iconst hC (0 : Int32) dX10_narrow_15 rfl ?_
  refine bs_sipush hC (299 : Int32) dX10_narrow_16 rfl ?_
  refine bs_callS_i hC (rm := ({ frames := 0, cells := 0, slots := 0, locals := 0 } : Room)) [.int x2, .int (0 : Int32), .int (299 : Int32)] [] (fun h => c_X10_out (bd_l Γ) (bd_D Γ) ε x2 (0 : Int32) (299 : Int32) S2 h) mw_643 mw_641 mw_642 mw_82 by_X10_out ⟨rfl, rfl, by decide, by decide⟩ rfl rfl (Nat.le_of_ble_eq_true rfl) dX10_narrow_19 (fun r5 S6 eS6 => ?_)
  refine bs_istore_n hC [(3, .int r5), (0, .ref (bd_a ε 0)), (1, .int x1), (2, .int x2)] dX10_narrow_22 rfl (by decide) rfl ?_
  refine bs_iload_n hC 0 dX10_narrow_23 rfl rfl ?_
  refine bs_if_eq hC 35 dX10_narrow_24 (by decide) (fun c11 => ?_) (fun c11 => ?_)
  · refine bs_aload_n hC 1 dX10_narrow_35 rfl rfl ?_
    refine bs_iload_n hC 2 dX10_narrow_36 rfl rfl ?_
    refine bs_iload_n hC 3 dX10_narrow_37 rfl rfl ?_
    refine bs_callV_i hC (rm := ({ frames := 5, cells := 0, slots := 0, locals := 116 } : Room)) [.int x1, .int x2] [] (fun h => c_X10_narrowOf (bd_l Γ) (bd_D Γ) ε x1 x2 S6 h) mw_804 mw_802 mw_803 mw_82 mw_67 (cM_o0 ε S6) rfl by_X10_narrowOf ⟨rfl, rfl, by decide, by decide⟩ rfl rfl (Nat.le_of_ble_eq_true rfl) dX10_narrow_38 (fun r7 S8 eS8 => ?_)
    exact bs_iret hC dX10_narrow_41 rfl
  refine bs_aload_n hC 1 dX10_narrow_27 rfl rfl ?_
  refine bs_iload_n hC 0 dX10_narrow_28 rfl rfl ?_
  refine bs_callV_i hC (rm := ({ frames := 0, cells := 0, slots := 0, locals := 0 } : Room)) [.int r5] [] (fun h => c_X10_no (bd_l Γ) (bd_D Γ) ε r5 S6 h) mw_646 mw_644 mw_645 mw_82 mw_48 (cM_o0 ε S6) rfl by_X10_no ⟨rfl, rfl, by decide, by decide⟩ rfl rfl (Nat.le_of_ble_eq_true rfl) dX10_narrow_29 (fun r9 S10 eS10 => ?_)
  refine bs_goto hC 41 dX10_narrow_32 (by decide) ?_
  exact bs_iret hC dX10_narrow_41 rfl
theorem c_X10_narrow (l : Launch) (D : va_G) (ε : bd_E) (x1 : Int32) (x2 : Int32)  (S : bd_T) (h0 : (f_X10_narrow x1 x2 S).isSome = true) : bd_Con l yX10_narrow (Cond.code yX10_narrow cX10_narrow 4 (some .int) :: bd_tbl) ({ frames := 6, cells := 0, slots := 0, locals := 141 } : Room) D ε (cM ε) bd_vi [.ref (bd_a ε 0), .int x1, .int x2] S (f_X10_narrow x1 x2 S) :=
  bd_con (by decide +kernel) (Nat.le_of_ble_eq_true rfl) ⟨rfl, rfl⟩ h0 (fun Γ _ _ hC => bs_eq bs_bs (b_X10_narrow hC x1 x2 S))
set_option maxRecDepth 100000 in
set_option maxHeartbeats 4000000 in
theorem lb_X10_next_28 {Γ : bd_G} {ε : bd_E} {t0 : Option (Int32 × bd_T)} (hC : bd_C Γ cX10_next 7 RX10 (some .int) ({ frames := 6, cells := 0, slots := 0, locals := 141 } : Room) ε (cM ε) bd_vi t0) (p1 : Int32) {K : (Int32 × Int32 × Int32 × bd_T) ⊕ (Int32 × bd_T) → Option (Int32 × bd_T)} (hk : ∀ (x3 : Int32) (x4 : Int32) (x5 : Int32) (S : bd_T), bd_S Γ 7 t0 (K (.inl (x3, x4, x5, S))) (cM ε S) 28 [(0, .ref (bd_a ε 0)), (1, .int p1), (3, .int x3), (4, .int x4), (5, .int x5)] []) (hx : ∀ (y3 : Int32) (S : bd_T), bd_S Γ 7 t0 (K (.inr (y3, S))) (cM ε S) 80 [(3, .int y3)] []) (x3 : Int32) (x4 : Int32) (x5 : Int32) (S : bd_T) : bd_S Γ 7 t0 ((fb_X10_next_28 p1 x3 x4 x5 S).bind K) (cM ε S) 28 [(0, .ref (bd_a ε 0)), (1, .int p1), (3, .int x3), (4, .int x4), (5, .int x5)] [] := by
  unfold fb_X10_next_28
  refine bs_iload hC 4 dX10_next_28 rfl ?_
  refine bs_aload_n hC 0 dX10_next_30 rfl rfl ?_
  refine bs_get hC (v := .int (bd_I S 2)) hin_X10 0 (cM_o0 ε S) rfl 7 (by decide) mw_567 rfl dX10_next_31 ?_
  refine bs_icmp_ge hC 80 dX10_next_34 (by decide) (fun c8 => ?_) (fun c8 => ?_)
  · refine bs_some ?_
    refine bs_pick [2] rfl ?_
    exact hx x3 S
  refine bs_aload_n hC 0 dX10_next_37 rfl rfl ?_
  refine bs_iload hC 4 dX10_next_38 rfl ?_
  refine bs_iload_n hC 1 dX10_next_40 rfl rfl ?_
  refine bs_callV_i hC (rm := ({ frames := 5, cells := 0, slots := 0, locals := 116 } : Room)) [.int x5, .int p1] [] (fun h => c_X10_narrowOf (bd_l Γ) (bd_D Γ) ε x5 p1 S h) mw_804 mw_802 mw_803 mw_82 mw_67 (cM_o0 ε S) rfl by_X10_narrowOf ⟨rfl, rfl, by decide, by decide⟩ rfl rfl (Nat.le_of_ble_eq_true rfl) dX10_next_41 (fun r3 S4 eS4 => ?_)
  refine bs_istore hC [(6, .int r3), (0, .ref (bd_a ε 0)), (1, .int p1), (3, .int x3), (4, .int x4), (5, .int x5)] dX10_next_44 (by decide) rfl ?_
  refine bs_iload hC 0 dX10_next_46 rfl ?_
  refine bs_bipush hC (-9 : Int32) dX10_next_48 rfl ?_
  refine bs_icmp_eq hC 74 dX10_next_50 (by decide) (fun c7 => ?_) (fun c7 => ?_)
  · refine bs_iinc hC 5 [(5, .int (x5 + 1)), (6, .int r3), (0, .ref (bd_a ε 0)), (1, .int p1), (3, .int x3), (4, .int x4)] dX10_next_74 rfl rfl (by decide) rfl ?_
    refine bs_goto hC 28 dX10_next_77 (by decide) ?_
    refine bs_some ?_
    refine bs_pick [2, 3, 4, 5, 0] rfl ?_
    exact hk x3 x4 (x5 + 1) S4
  refine bs_iload_n hC 3 dX10_next_53 rfl rfl ?_
  refine bs_if_lt hC 67 dX10_next_54 (by decide) (fun c6 => ?_) (fun c6 => ?_)
  · refine bs_iload hC 5 dX10_next_67 rfl ?_
    refine bs_istore_n hC [(3, .int x5), (6, .int r3), (0, .ref (bd_a ε 0)), (1, .int p1), (4, .int x4), (5, .int x5)] dX10_next_69 rfl (by decide) rfl ?_
    refine bs_iload hC 1 dX10_next_70 rfl ?_
    refine bs_istore hC [(4, .int r3), (3, .int x5), (6, .int r3), (0, .ref (bd_a ε 0)), (1, .int p1), (5, .int x5)] dX10_next_72 (by decide) rfl ?_
    refine bs_iinc hC 5 [(5, .int (x5 + 1)), (4, .int r3), (3, .int x5), (6, .int r3), (0, .ref (bd_a ε 0)), (1, .int p1)] dX10_next_74 rfl rfl (by decide) rfl ?_
    refine bs_goto hC 28 dX10_next_77 (by decide) ?_
    refine bs_some ?_
    refine bs_pick [4, 5, 2, 1, 0] rfl ?_
    exact hk x5 r3 (x5 + 1) S4
  refine bs_iload hC 0 dX10_next_57 rfl ?_
  refine bs_iload hC 4 dX10_next_59 rfl ?_
  refine bs_icmp_lt hC 67 dX10_next_61 (by decide) (fun c5 => ?_) (fun c5 => ?_)
  · refine bs_iload hC 5 dX10_next_67 rfl ?_
    refine bs_istore_n hC [(3, .int x5), (6, .int r3), (0, .ref (bd_a ε 0)), (1, .int p1), (4, .int x4), (5, .int x5)] dX10_next_69 rfl (by decide) rfl ?_
    refine bs_iload hC 1 dX10_next_70 rfl ?_
    refine bs_istore hC [(4, .int r3), (3, .int x5), (6, .int r3), (0, .ref (bd_a ε 0)), (1, .int p1), (5, .int x5)] dX10_next_72 (by decide) rfl ?_
    refine bs_iinc hC 5 [(5, .int (x5 + 1)), (4, .int r3), (3, .int x5), (6, .int r3), (0, .ref (bd_a ε 0)), (1, .int p1)] dX10_next_74 rfl rfl (by decide) rfl ?_
    refine bs_goto hC 28 dX10_next_77 (by decide) ?_
    refine bs_some ?_
    refine bs_pick [4, 5, 2, 1, 0] rfl ?_
    exact hk x5 r3 (x5 + 1) S4
  refine bs_goto hC 74 dX10_next_64 (by decide) ?_
  refine bs_iinc hC 5 [(5, .int (x5 + 1)), (6, .int r3), (0, .ref (bd_a ε 0)), (1, .int p1), (3, .int x3), (4, .int x4)] dX10_next_74 rfl rfl (by decide) rfl ?_
  refine bs_goto hC 28 dX10_next_77 (by decide) ?_
  refine bs_some ?_
  refine bs_pick [2, 3, 4, 5, 0] rfl ?_
  exact hk x3 x4 (x5 + 1) S4
set_option maxRecDepth 100000 in
set_option maxHeartbeats 4000000 in
theorem b_X10_next {Γ : bd_G} {ε : bd_E} {t0 : Option (Int32 × bd_T)} (hC : bd_C Γ cX10_next 7 RX10 (some .int) ({ frames := 6, cells := 0, slots := 0, locals := 141 } : Room) ε (cM ε) bd_vi t0) (x1 : Int32)  (S : bd_T) : bd_S Γ 7 t0 ((f_X10_next x1 S).bind some) (cM ε S) 0 [(0, .ref (bd_a ε 0)), (1, .int x1)] [] := by
  unfold f_X10_next
  refine bs_iload_n hC 1 dX10_next_0 rfl rfl ?_
  refine bs_iconst hC (0 : Int32) dX10_next_1 rfl ?_
  refine bs_sipush hC (299 : Int32) dX10_next_2 rfl ?_
  refine bs_callS_i hC (rm := ({ frames := 0, cells := 0, slots := 0, locals := 0 } : Room)) [.int x1, .int (0 : Int32), .int (299 : Int32)] [] (fun h => c_X10_out (bd_l Γ) (bd_D Γ) ε x1 (0 : Int32) (299 : Int32) S h) mw_643 mw_641 mw_642 mw_82 by_X10_out ⟨rfl, rfl, by decide, by decide⟩ rfl rfl (Nat.le_of_ble_eq_true rfl) dX10_next_5 (fun r1 S2 eS2 => ?_)
  refine bs_istore_n hC [(2, .int r1), (0, .ref (bd_a ε 0)), (1, .int x1)] dX10_next_8 rfl (by decide) rfl ?_
  refine bs_iload_n hC 0 dX10_next_9 rfl rfl ?_
  refine bs_if_eq hC 19 dX10_next_10 (by decide) (fun c13 => ?_) (fun c13 => ?_)
  · refine bs_bipush hC (-9 : Int32) dX10_next_19 rfl ?_
    refine bs_istore_n hC [(3, .int (-9 : Int32)), (2, .int r1), (0, .ref (bd_a ε 0)), (1, .int x1)] dX10_next_21 rfl (by decide) rfl ?_
    refine bs_iconst hC (0 : Int32) dX10_next_22 rfl ?_
    refine bs_istore hC [(4, .int (0 : Int32)), (3, .int (-9 : Int32)), (2, .int r1), (0, .ref (bd_a ε 0)), (1, .int x1)] dX10_next_23 (by decide) rfl ?_
    refine bs_iconst hC (0 : Int32) dX10_next_25 rfl ?_
    refine bs_istore hC [(5, .int (0 : Int32)), (4, .int (0 : Int32)), (3, .int (-9 : Int32)), (2, .int r1), (0, .ref (bd_a ε 0)), (1, .int x1)] dX10_next_26 (by decide) rfl ?_
    refine bs_pick [4, 5, 2, 1, 0] rfl ?_
    refine bs_loopK (fun (q : Int32 × Int32 × Int32 × bd_T) t => bd_S Γ 7 t0 t (cM ε (q.2.2.2)) 28 [(0, .ref (bd_a ε 0)), (1, .int x1), (3, .int (q.1)), (4, .int (q.2.1)), (5, .int (q.2.2.1))] []) (fun (q : Int32 × bd_T) t => bd_S Γ 7 t0 t (cM ε (q.2)) 80 [(3, .int (q.1))] []) (fun q => fb_X10_next_28 x1 q.1 q.2.1 q.2.2.1 q.2.2.2) (fun _ => bs_none) (fun K hk hx q => lb_X10_next_28 hC   x1 (fun a0 a1 a2 S => hk (a0, a1, a2, S)) (fun b0 S => hx (b0, S))  (q.1) (q.2.1) (q.2.2.1) (q.2.2.2)) (fun r => ?_) bd_K ((-9 : Int32), (0 : Int32), (0 : Int32), S2)
    obtain ⟨y9, S10⟩ := r
    show bd_S Γ 7 t0 (Option.bind _ _) (cM ε S10) 80 [(3, .int y9)] []
    try dsimp only
    refine bs_iload_n hC 0 dX10_next_80 rfl rfl ?_
    exact bs_iret hC dX10_next_81 rfl
  refine bs_aload_n hC 1 dX10_next_13 rfl rfl ?_
  refine bs_iload_n hC 0 dX10_next_14 rfl rfl ?_
  refine bs_callV_i hC (rm := ({ frames := 0, cells := 0, slots := 0, locals := 0 } : Room)) [.int r1] [] (fun h => c_X10_no (bd_l Γ) (bd_D Γ) ε r1 S2 h) mw_646 mw_644 mw_645 mw_82 mw_48 (cM_o0 ε S2) rfl by_X10_no ⟨rfl, rfl, by decide, by decide⟩ rfl rfl (Nat.le_of_ble_eq_true rfl) dX10_next_15 (fun r11 S12 eS12 => ?_)
  exact bs_iret hC dX10_next_18 rfl
theorem c_X10_next (l : Launch) (D : va_G) (ε : bd_E) (x1 : Int32)  (S : bd_T) (h0 : (f_X10_next x1 S).isSome = true) : bd_Con l yX10_next (Cond.code yX10_next cX10_next 7 (some .int) :: bd_tbl) ({ frames := 6, cells := 0, slots := 0, locals := 141 } : Room) D ε (cM ε) bd_vi [.ref (bd_a ε 0), .int x1] S (f_X10_next x1 S) :=
  bd_con (by decide +kernel) (Nat.le_of_ble_eq_true rfl) ⟨rfl, rfl⟩ h0 (fun Γ _ _ hC => bs_eq bs_bs (b_X10_next hC x1 S))
set_option maxRecDepth 100000 in
set_option maxHeartbeats 4000000 in
theorem lb_X10_passes_2 {Γ : bd_G} {ε : bd_E} {t0 : Option (Unit × bd_T)} (hC : bd_C Γ cX10_passes 3 RX10 none ({ frames := 0, cells := 0, slots := 0, locals := 0 } : Room) ε (cM ε) bd_vv t0) (k1 : Nat) (hk1 : k1 < 20) {K : (Int32 × bd_T) ⊕ (bd_T) → Option (Unit × bd_T)} (hk : ∀ (x2 : Int32) (S : bd_T), bd_S Γ 3 t0 (K (.inl (x2, S))) (cM ε S) 2 [(0, .ref (bd_a ε 0)), (1, .ref (bd_a ε (1 + k1))), (2, .int x2)] []) (hx : ∀ (S : bd_T), bd_S Γ 3 t0 (K (.inr S)) (cM ε S) 58 [] []) (x2 : Int32) (S : bd_T) : bd_S Γ 3 t0 ((fb_X10_passes_2 k1 x2 S).bind K) (cM ε S) 2 [(0, .ref (bd_a ε 0)), (1, .ref (bd_a ε (1 + k1))), (2, .int x2)] [] := by
  unfold fb_X10_passes_2
  refine bs_iload_n hC 2 dX10_passes_2 rfl rfl ?_
  refine bs_aload_n hC 1 dX10_passes_3 rfl rfl ?_
  refine bs_alenI hC _ (cM_gi ε S k1 (cM_len k1) hk1 rfl) (v := (Int32.ofNat (cM_len k1))) rfl dX10_passes_4 ?_
  refine bs_icmp_ge hC 58 dX10_passes_5 (by decide) (fun c8 => ?_) (fun c8 => ?_)
  · refine bs_some ?_
    refine bs_pick [] rfl ?_
    exact hx S
  refine bs_aload_n hC 0 dX10_passes_8 rfl rfl ?_
  refine bs_get hC (v := .int (bd_I S 12)) hin_X10 0 (cM_o0 ε S) rfl 36 (by decide) mw_596 rfl dX10_passes_9 ?_
  refine bs_if_eq hC 30 dX10_passes_12 (by decide) (fun c7 => ?_) (fun c7 => ?_)
  · refine bs_aload_n hC 1 dX10_passes_30 rfl rfl ?_
    refine bs_iload_n hC 2 dX10_passes_31 rfl rfl ?_
    refine bs_aload_n hC 0 dX10_passes_32 rfl rfl ?_
    refine bs_get hC (v := .ref (bd_a ε (1 + 19))) hin_X10 0 (cM_o0 ε S) rfl 34 (by decide) mw_594 rfl dX10_passes_33 ?_
    refine bs_aload_n hC 0 dX10_passes_36 rfl rfl ?_
    refine bs_get hC (v := .int (bd_I S 13)) hin_X10 0 (cM_o0 ε S) rfl 37 (by decide) mw_597 rfl dX10_passes_37 ?_
    refine bs_iald hC _ (cM_gi ε S 19 150 (by decide) rfl) dX10_passes_40 (fun z1 ez1 => ?_)
    refine bs_iast hC _ (cM_gi ε S k1 (cM_len k1) hk1 rfl) (cM_si ε S k1 (cM_len k1) hk1 rfl _) dX10_passes_41 (fun S2 eS2 => ?_)
    refine bs_aload_n hC 0 dX10_passes_42 rfl rfl ?_
    refine bs_dup hC dX10_passes_43 rfl ?_
    refine bs_get hC (v := .int (bd_I S2 13)) hin_X10 0 (cM_o0 ε S2) rfl 37 (by decide) mw_597 rfl dX10_passes_44 ?_
    refine bs_iconst hC (1 : Int32) dX10_passes_47 rfl ?_
    refine bs_iadd hC dX10_passes_48 ?_
    refine bs_put hC (kk := 13) hin_X10 tyX10 tyX10_ok nmX10 0 (cM_o0 ε S2) rfl 37 (by decide) mw_597 rfl rfl rfl (Nat.le_of_ble_eq_true rfl) (cM_p13 ε S2 _) dX10_passes_49 (fun S3 eS3 => ?_)
    refine bs_iinc hC 2 [(2, .int (x2 + 1)), (0, .ref (bd_a ε 0)), (1, .ref (bd_a ε (1 + k1)))] dX10_passes_52 rfl rfl (by decide) rfl ?_
    refine bs_goto hC 2 dX10_passes_55 (by decide) ?_
    refine bs_some ?_
    refine bs_pick [1, 2, 0] rfl ?_
    exact hk (x2 + 1) S3
  refine bs_aload_n hC 0 dX10_passes_15 rfl rfl ?_
  refine bs_get hC (v := .ref (bd_a ε (1 + 19))) hin_X10 0 (cM_o0 ε S) rfl 34 (by decide) mw_594 rfl dX10_passes_16 ?_
  refine bs_aload_n hC 0 dX10_passes_19 rfl rfl ?_
  refine bs_get hC (v := .int (bd_I S 13)) hin_X10 0 (cM_o0 ε S) rfl 37 (by decide) mw_597 rfl dX10_passes_20 ?_
  refine bs_aload_n hC 1 dX10_passes_23 rfl rfl ?_
  refine bs_iload_n hC 2 dX10_passes_24 rfl rfl ?_
  refine bs_iald hC _ (cM_gi ε S k1 (cM_len k1) hk1 rfl) dX10_passes_25 (fun z4 ez4 => ?_)
  refine bs_iast hC _ (cM_gi ε S 19 150 (by decide) rfl) (cM_si ε S 19 150 (by decide) rfl _) dX10_passes_26 (fun S5 eS5 => ?_)
  refine bs_goto hC 42 dX10_passes_27 (by decide) ?_
  refine bs_aload_n hC 0 dX10_passes_42 rfl rfl ?_
  refine bs_dup hC dX10_passes_43 rfl ?_
  refine bs_get hC (v := .int (bd_I S5 13)) hin_X10 0 (cM_o0 ε S5) rfl 37 (by decide) mw_597 rfl dX10_passes_44 ?_
  refine bs_iconst hC (1 : Int32) dX10_passes_47 rfl ?_
  refine bs_iadd hC dX10_passes_48 ?_
  refine bs_put hC (kk := 13) hin_X10 tyX10 tyX10_ok nmX10 0 (cM_o0 ε S5) rfl 37 (by decide) mw_597 rfl rfl rfl (Nat.le_of_ble_eq_true rfl) (cM_p13 ε S5 _) dX10_passes_49 (fun S6 eS6 => ?_)
  refine bs_iinc hC 2 [(2, .int (x2 + 1)), (0, .ref (bd_a ε 0)), (1, .ref (bd_a ε (1 + k1)))] dX10_passes_52 rfl rfl (by decide) rfl ?_
  refine bs_goto hC 2 dX10_passes_55 (by decide) ?_
  refine bs_some ?_
  refine bs_pick [1, 2, 0] rfl ?_
  exact hk (x2 + 1) S6
set_option maxRecDepth 100000 in
set_option maxHeartbeats 4000000 in
theorem b_X10_passes {Γ : bd_G} {ε : bd_E} {t0 : Option (Unit × bd_T)} (hC : bd_C Γ cX10_passes 3 RX10 none ({ frames := 0, cells := 0, slots := 0, locals := 0 } : Room) ε (cM ε) bd_vv t0) (k1 : Nat) (hk1 : k1 < 20) (S : bd_T) : bd_S Γ 3 t0 ((f_X10_passes k1 S).bind some) (cM ε S) 0 [(0, .ref (bd_a ε 0)), (1, .ref (bd_a ε (1 + k1)))] [] := by
  unfold f_X10_passes
  refine bs_iconst hC (0 : Int32) dX10_passes_0 rfl ?_
  refine bs_istore_n hC [(2, .int (0 : Int32)), (0, .ref (bd_a ε 0)), (1, .ref (bd_a ε (1 + k1)))] dX10_passes_1 rfl (by decide) rfl ?_
  refine bs_pick [1, 2, 0] rfl ?_
  refine bs_loopK (fun (q : Int32 × bd_T) t => bd_S Γ 3 t0 t (cM ε (q.2)) 2 [(0, .ref (bd_a ε 0)), (1, .ref (bd_a ε (1 + k1))), (2, .int (q.1))] []) (fun (q : bd_T) t => bd_S Γ 3 t0 t (cM ε (q)) 58 [] []) (fun q => fb_X10_passes_2 k1 q.1 q.2) (fun _ => bs_none) (fun K hk hx q => lb_X10_passes_2 hC k1 hk1  (fun a0 S => hk (a0, S)) (fun  S => hx (S))  (q.1) (q.2)) (fun r => ?_) bd_K ((0 : Int32), S)
  obtain ⟨S9, rfl⟩ : ∃ z, z = r := ⟨_, rfl⟩
  show bd_S Γ 3 t0 (Option.bind _ _) (cM ε S9) 58 [] []
  try dsimp only
  exact bs_vret hC dX10_passes_58 rfl
theorem c_X10_passes (l : Launch) (D : va_G) (ε : bd_E) (k1 : Nat) (hk1 : k1 < 20) (S : bd_T) (h0 : (f_X10_passes k1 S).isSome = true) : bd_Con l yX10_passes (Cond.code yX10_passes cX10_passes 3 none :: bd_tbl) ({ frames := 0, cells := 0, slots := 0, locals := 0 } : Room) D ε (cM ε) bd_vv [.ref (bd_a ε 0), .ref (bd_a ε (1 + k1))] S (f_X10_passes k1 S) :=
  bd_con (by decide +kernel) (Nat.le_of_ble_eq_true rfl) ⟨rfl, rfl⟩ h0 (fun Γ _ _ hC => bs_eq bs_bs (b_X10_passes hC k1 hk1 S))
set_option maxRecDepth 100000 in
set_option maxHeartbeats 4000000 in
theorem b_X10_passOne {Γ : bd_G} {ε : bd_E} {t0 : Option (Int32 × bd_T)} (hC : bd_C Γ cX10_passOne 3 RX10 (some .int) ({ frames := 0, cells := 0, slots := 0, locals := 0 } : Room) ε (cM ε) bd_vi t0) (x1 : Int32)  (S : bd_T) : bd_S Γ 3 t0 ((f_X10_passOne x1 S).bind some) (cM ε S) 0 [(0, .ref (bd_a ε 0)), (1, .int x1)] [] := by
  unfold f_X10_passOne
  refine bs_aload_n hC 0 dX10_passOne_0 rfl rfl ?_
  refine bs_get hC (v := .int (bd_I S 12)) hin_X10 0 (cM_o0 ε S) rfl 36 (by decide) mw_596 rfl dX10_passOne_1 ?_
  refine bs_if_eq hC 11 dX10_passOne_4 (by decide) (fun c10 => ?_) (fun c10 => ?_)
  · refine bs_aload_n hC 0 dX10_passOne_11 rfl rfl ?_
    refine bs_get hC (v := .ref (bd_a ε (1 + 19))) hin_X10 0 (cM_o0 ε S) rfl 34 (by decide) mw_594 rfl dX10_passOne_12 ?_
    refine bs_aload_n hC 0 dX10_passOne_15 rfl rfl ?_
    refine bs_get hC (v := .int (bd_I S 13)) hin_X10 0 (cM_o0 ε S) rfl 37 (by decide) mw_597 rfl dX10_passOne_16 ?_
    refine bs_iald hC _ (cM_gi ε S 19 150 (by decide) rfl) dX10_passOne_19 (fun z1 ez1 => ?_)
    refine bs_istore_n hC [(2, .int z1), (0, .ref (bd_a ε 0)), (1, .int x1)] dX10_passOne_20 rfl (by decide) rfl ?_
    refine bs_aload_n hC 1 dX10_passOne_21 rfl rfl ?_
    refine bs_get hC (v := .int (bd_I S 12)) hin_X10 0 (cM_o0 ε S) rfl 36 (by decide) mw_596 rfl dX10_passOne_22 ?_
    refine bs_if_eq hC 38 dX10_passOne_25 (by decide) (fun c5 => ?_) (fun c5 => ?_)
    · refine bs_aload_n hC 1 dX10_passOne_38 rfl rfl ?_
      refine bs_dup hC dX10_passOne_39 rfl ?_
      refine bs_get hC (v := .int (bd_I S 13)) hin_X10 0 (cM_o0 ε S) rfl 37 (by decide) mw_597 rfl dX10_passOne_40 ?_
      refine bs_iconst hC (1 : Int32) dX10_passOne_43 rfl ?_
      refine bs_iadd hC dX10_passOne_44 ?_
      refine bs_put hC (kk := 13) hin_X10 tyX10 tyX10_ok nmX10 0 (cM_o0 ε S) rfl 37 (by decide) mw_597 rfl rfl rfl (Nat.le_of_ble_eq_true rfl) (cM_p13 ε S _) dX10_passOne_45 (fun S2 eS2 => ?_)
      refine bs_iload_n hC 0 dX10_passOne_48 rfl rfl ?_
      exact bs_iret hC dX10_passOne_49 rfl
    refine bs_aload_n hC 1 dX10_passOne_28 rfl rfl ?_
    refine bs_get hC (v := .ref (bd_a ε (1 + 19))) hin_X10 0 (cM_o0 ε S) rfl 34 (by decide) mw_594 rfl dX10_passOne_29 ?_
    refine bs_aload_n hC 1 dX10_passOne_32 rfl rfl ?_
    refine bs_get hC (v := .int (bd_I S 13)) hin_X10 0 (cM_o0 ε S) rfl 37 (by decide) mw_597 rfl dX10_passOne_33 ?_
    refine bs_iload_n hC 2 dX10_passOne_36 rfl rfl ?_
    refine bs_iast hC _ (cM_gi ε S 19 150 (by decide) rfl) (cM_si ε S 19 150 (by decide) rfl _) dX10_passOne_37 (fun S3 eS3 => ?_)
    refine bs_aload_n hC 1 dX10_passOne_38 rfl rfl ?_
    refine bs_dup hC dX10_passOne_39 rfl ?_
    refine bs_get hC (v := .int (bd_I S3 13)) hin_X10 0 (cM_o0 ε S3) rfl 37 (by decide) mw_597 rfl dX10_passOne_40 ?_
    refine bs_iconst hC (1 : Int32) dX10_passOne_43 rfl ?_
    refine bs_iadd hC dX10_passOne_44 ?_
    refine bs_put hC (kk := 13) hin_X10 tyX10 tyX10_ok nmX10 0 (cM_o0 ε S3) rfl 37 (by decide) mw_597 rfl rfl rfl (Nat.le_of_ble_eq_true rfl) (cM_p13 ε S3 _) dX10_passOne_45 (fun S4 eS4 => ?_)
    refine bs_iload_n hC 0 dX10_passOne_48 rfl rfl ?_
    exact bs_iret hC dX10_passOne_49 rfl
  refine bs_iload_n hC 1 dX10_passOne_7 rfl rfl ?_
  refine bs_goto hC 20 dX10_passOne_8 (by decide) ?_
  refine bs_istore_n hC [(2, .int x1), (0, .ref (bd_a ε 0)), (1, .int x1)] dX10_passOne_20 rfl (by decide) rfl ?_
  refine bs_aload_n hC 1 dX10_passOne_21 rfl rfl ?_
  refine bs_get hC (v := .int (bd_I S 12)) hin_X10 0 (cM_o0 ε S) rfl 36 (by decide) mw_596 rfl dX10_passOne_22 ?_
  refine bs_if_eq hC 38 dX10_passOne_25 (by decide) (fun c9 => ?_) (fun c9 => ?_)
  · refine bs_aload_n hC 1 dX10_passOne_38 rfl rfl ?_
    refine bs_dup hC dX10_passOne_39 rfl ?_
    refine bs_get hC (v := .int (bd_I S 13)) hin_X10 0 (cM_o0 ε S) rfl 37 (by decide) mw_597 rfl dX10_passOne_40 ?_
    refine bs_iconst hC (1 : Int32) dX10_passOne_43 rfl ?_
    refine bs_iadd hC dX10_passOne_44 ?_
    refine bs_put hC (kk := 13) hin_X10 tyX10 tyX10_ok nmX10 0 (cM_o0 ε S) rfl 37 (by decide) mw_597 rfl rfl rfl (Nat.le_of_ble_eq_true rfl) (cM_p13 ε S _) dX10_passOne_45 (fun S6 eS6 => ?_)
    refine bs_iload_n hC 0 dX10_passOne_48 rfl rfl ?_
    exact bs_iret hC dX10_passOne_49 rfl
  refine bs_aload_n hC 1 dX10_passOne_28 rfl rfl ?_
  refine bs_get hC (v := .ref (bd_a ε (1 + 19))) hin_X10 0 (cM_o0 ε S) rfl 34 (by decide) mw_594 rfl dX10_passOne_29 ?_
  refine bs_aload_n hC 1 dX10_passOne_32 rfl rfl ?_
  refine bs_get hC (v := .int (bd_I S 13)) hin_X10 0 (cM_o0 ε S) rfl 37 (by decide) mw_597 rfl dX10_passOne_33 ?_
  refine bs_iload_n hC 2 dX10_passOne_36 rfl rfl ?_
  refine bs_iast hC _ (cM_gi ε S 19 150 (by decide) rfl) (cM_si ε S 19 150 (by decide) rfl _) dX10_passOne_37 (fun S7 eS7 => ?_)
  refine bs_aload_n hC 1 dX10_passOne_38 rfl rfl ?_
  refine bs_dup hC dX10_passOne_39 rfl ?_
  refine bs_get hC (v := .int (bd_I S7 13)) hin_X10 0 (cM_o0 ε S7) rfl 37 (by decide) mw_597 rfl dX10_passOne_40 ?_
  refine bs_iconst hC (1 : Int32) dX10_passOne_43 rfl ?_
  refine bs_iadd hC dX10_passOne_44 ?_
  refine bs_put hC (kk := 13) hin_X10 tyX10 tyX10_ok nmX10 0 (cM_o0 ε S7) rfl 37 (by decide) mw_597 rfl rfl rfl (Nat.le_of_ble_eq_true rfl) (cM_p13 ε S7 _) dX10_passOne_45 (fun S8 eS8 => ?_)
  refine bs_iload_n hC 0 dX10_passOne_48 rfl rfl ?_
  exact bs_iret hC dX10_passOne_49 rfl
theorem c_X10_passOne (l : Launch) (D : va_G) (ε : bd_E) (x1 : Int32)  (S : bd_T) (h0 : (f_X10_passOne x1 S).isSome = true) : bd_Con l yX10_passOne (Cond.code yX10_passOne cX10_passOne 3 (some .int) :: bd_tbl) ({ frames := 0, cells := 0, slots := 0, locals := 0 } : Room) D ε (cM ε) bd_vi [.ref (bd_a ε 0), .int x1] S (f_X10_passOne x1 S) :=
  bd_con (by decide +kernel) (Nat.le_of_ble_eq_true rfl) ⟨rfl, rfl⟩ h0 (fun Γ _ _ hC => bs_eq bs_bs (b_X10_passOne hC x1 S))
set_option maxRecDepth 100000 in
set_option maxHeartbeats 4000000 in
theorem b_X10_passesAll {Γ : bd_G} {ε : bd_E} {t0 : Option (Unit × bd_T)} (hC : bd_C Γ cX10_passesAll 1 RX10 none ({ frames := 1, cells := 0, slots := 0, locals := 22 } : Room) ε (cM ε) bd_vv t0)  (S : bd_T) : bd_S Γ 1 t0 ((f_X10_passesAll S).bind some) (cM ε S) 0 [(0, .ref (bd_a ε 0))] [] := by
  unfold f_X10_passesAll
  refine bs_aload_n hC 0 dX10_passesAll_0 rfl rfl ?_
  refine bs_iconst hC (0 : Int32) dX10_passesAll_1 rfl ?_
  refine bs_put hC (kk := 13) hin_X10 tyX10 tyX10_ok nmX10 0 (cM_o0 ε S) rfl 37 (by decide) mw_597 rfl rfl rfl (Nat.le_of_ble_eq_true rfl) (cM_p13 ε S _) dX10_passesAll_2 (fun S1 eS1 => ?_)
  refine bs_aload_n hC 0 dX10_passesAll_5 rfl rfl ?_
  refine bs_aload_n hC 0 dX10_passesAll_6 rfl rfl ?_
  refine bs_get hC (v := .ref (bd_a ε (1 + 2))) hin_X10 0 (cM_o0 ε S1) rfl 2 (by decide) mw_562 rfl dX10_passesAll_7 ?_
  refine bs_callV_v hC (rm := ({ frames := 0, cells := 0, slots := 0, locals := 0 } : Room)) [.ref (bd_a ε (1 + 2))] [] (fun h => c_X10_passes (bd_l Γ) (bd_D Γ) ε 2 (by decide) S1 h) mw_818 mw_816 mw_817 mw_82 mw_69 (cM_o0 ε S1) rfl by_X10_passes ⟨rfl, rfl, by decide, by decide⟩ rfl rfl (Nat.le_of_ble_eq_true rfl) dX10_passesAll_10 (fun r2 S3 eS3 => ?_)
  refine bs_aload_n hC 0 dX10_passesAll_13 rfl rfl ?_
  refine bs_aload_n hC 0 dX10_passesAll_14 rfl rfl ?_
  refine bs_get hC (v := .ref (bd_a ε (1 + 3))) hin_X10 0 (cM_o0 ε S3) rfl 3 (by decide) mw_563 rfl dX10_passesAll_15 ?_
  refine bs_callV_v hC (rm := ({ frames := 0, cells := 0, slots := 0, locals := 0 } : Room)) [.ref (bd_a ε (1 + 3))] [] (fun h => c_X10_passes (bd_l Γ) (bd_D Γ) ε 3 (by decide) S3 h) mw_818 mw_816 mw_817 mw_82 mw_69 (cM_o0 ε S3) rfl by_X10_passes ⟨rfl, rfl, by decide, by decide⟩ rfl rfl (Nat.le_of_ble_eq_true rfl) dX10_passesAll_18 (fun r4 S5 eS5 => ?_)
  refine bs_aload_n hC 0 dX10_passesAll_21 rfl rfl ?_
  refine bs_aload_n hC 0 dX10_passesAll_22 rfl rfl ?_
  refine bs_get hC (v := .ref (bd_a ε (1 + 4))) hin_X10 0 (cM_o0 ε S5) rfl 4 (by decide) mw_564 rfl dX10_passesAll_23 ?_
  refine bs_callV_v hC (rm := ({ frames := 0, cells := 0, slots := 0, locals := 0 } : Room)) [.ref (bd_a ε (1 + 4))] [] (fun h => c_X10_passes (bd_l Γ) (bd_D Γ) ε 4 (by decide) S5 h) mw_818 mw_816 mw_817 mw_82 mw_69 (cM_o0 ε S5) rfl by_X10_passes ⟨rfl, rfl, by decide, by decide⟩ rfl rfl (Nat.le_of_ble_eq_true rfl) dX10_passesAll_26 (fun r6 S7 eS7 => ?_)
  refine bs_aload_n hC 0 dX10_passesAll_29 rfl rfl ?_
  refine bs_aload_n hC 0 dX10_passesAll_30 rfl rfl ?_
  refine bs_get hC (v := .ref (bd_a ε (1 + 5))) hin_X10 0 (cM_o0 ε S7) rfl 8 (by decide) mw_568 rfl dX10_passesAll_31 ?_
  refine bs_callV_v hC (rm := ({ frames := 0, cells := 0, slots := 0, locals := 0 } : Room)) [.ref (bd_a ε (1 + 5))] [] (fun h => c_X10_passes (bd_l Γ) (bd_D Γ) ε 5 (by decide) S7 h) mw_818 mw_816 mw_817 mw_82 mw_69 (cM_o0 ε S7) rfl by_X10_passes ⟨rfl, rfl, by decide, by decide⟩ rfl rfl (Nat.le_of_ble_eq_true rfl) dX10_passesAll_34 (fun r8 S9 eS9 => ?_)
  refine bs_aload_n hC 0 dX10_passesAll_37 rfl rfl ?_
  refine bs_aload_n hC 0 dX10_passesAll_38 rfl rfl ?_
  refine bs_get hC (v := .ref (bd_a ε (1 + 6))) hin_X10 0 (cM_o0 ε S9) rfl 9 (by decide) mw_569 rfl dX10_passesAll_39 ?_
  refine bs_callV_v hC (rm := ({ frames := 0, cells := 0, slots := 0, locals := 0 } : Room)) [.ref (bd_a ε (1 + 6))] [] (fun h => c_X10_passes (bd_l Γ) (bd_D Γ) ε 6 (by decide) S9 h) mw_818 mw_816 mw_817 mw_82 mw_69 (cM_o0 ε S9) rfl by_X10_passes ⟨rfl, rfl, by decide, by decide⟩ rfl rfl (Nat.le_of_ble_eq_true rfl) dX10_passesAll_42 (fun r10 S11 eS11 => ?_)
  refine bs_aload_n hC 0 dX10_passesAll_45 rfl rfl ?_
  refine bs_aload_n hC 0 dX10_passesAll_46 rfl rfl ?_
  refine bs_get hC (v := .ref (bd_a ε (1 + 7))) hin_X10 0 (cM_o0 ε S11) rfl 15 (by decide) mw_575 rfl dX10_passesAll_47 ?_
  refine bs_callV_v hC (rm := ({ frames := 0, cells := 0, slots := 0, locals := 0 } : Room)) [.ref (bd_a ε (1 + 7))] [] (fun h => c_X10_passes (bd_l Γ) (bd_D Γ) ε 7 (by decide) S11 h) mw_818 mw_816 mw_817 mw_82 mw_69 (cM_o0 ε S11) rfl by_X10_passes ⟨rfl, rfl, by decide, by decide⟩ rfl rfl (Nat.le_of_ble_eq_true rfl) dX10_passesAll_50 (fun r12 S13 eS13 => ?_)
  refine bs_aload_n hC 0 dX10_passesAll_53 rfl rfl ?_
  refine bs_aload_n hC 0 dX10_passesAll_54 rfl rfl ?_
  refine bs_get hC (v := .ref (bd_a ε (1 + 8))) hin_X10 0 (cM_o0 ε S13) rfl 16 (by decide) mw_576 rfl dX10_passesAll_55 ?_
  refine bs_callV_v hC (rm := ({ frames := 0, cells := 0, slots := 0, locals := 0 } : Room)) [.ref (bd_a ε (1 + 8))] [] (fun h => c_X10_passes (bd_l Γ) (bd_D Γ) ε 8 (by decide) S13 h) mw_818 mw_816 mw_817 mw_82 mw_69 (cM_o0 ε S13) rfl by_X10_passes ⟨rfl, rfl, by decide, by decide⟩ rfl rfl (Nat.le_of_ble_eq_true rfl) dX10_passesAll_58 (fun r14 S15 eS15 => ?_)
  refine bs_aload_n hC 0 dX10_passesAll_61 rfl rfl ?_
  refine bs_aload_n hC 0 dX10_passesAll_62 rfl rfl ?_
  refine bs_get hC (v := .ref (bd_a ε (1 + 9))) hin_X10 0 (cM_o0 ε S15) rfl 17 (by decide) mw_577 rfl dX10_passesAll_63 ?_
  refine bs_callV_v hC (rm := ({ frames := 0, cells := 0, slots := 0, locals := 0 } : Room)) [.ref (bd_a ε (1 + 9))] [] (fun h => c_X10_passes (bd_l Γ) (bd_D Γ) ε 9 (by decide) S15 h) mw_818 mw_816 mw_817 mw_82 mw_69 (cM_o0 ε S15) rfl by_X10_passes ⟨rfl, rfl, by decide, by decide⟩ rfl rfl (Nat.le_of_ble_eq_true rfl) dX10_passesAll_66 (fun r16 S17 eS17 => ?_)
  refine bs_aload_n hC 0 dX10_passesAll_69 rfl rfl ?_
  refine bs_aload_n hC 0 dX10_passesAll_70 rfl rfl ?_
  refine bs_get hC (v := .ref (bd_a ε (1 + 10))) hin_X10 0 (cM_o0 ε S17) rfl 18 (by decide) mw_578 rfl dX10_passesAll_71 ?_
  refine bs_callV_v hC (rm := ({ frames := 0, cells := 0, slots := 0, locals := 0 } : Room)) [.ref (bd_a ε (1 + 10))] [] (fun h => c_X10_passes (bd_l Γ) (bd_D Γ) ε 10 (by decide) S17 h) mw_818 mw_816 mw_817 mw_82 mw_69 (cM_o0 ε S17) rfl by_X10_passes ⟨rfl, rfl, by decide, by decide⟩ rfl rfl (Nat.le_of_ble_eq_true rfl) dX10_passesAll_74 (fun r18 S19 eS19 => ?_)
  refine bs_aload_n hC 0 dX10_passesAll_77 rfl rfl ?_
  refine bs_aload_n hC 0 dX10_passesAll_78 rfl rfl ?_
  refine bs_get hC (v := .ref (bd_a ε (1 + 11))) hin_X10 0 (cM_o0 ε S19) rfl 19 (by decide) mw_579 rfl dX10_passesAll_79 ?_
  refine bs_callV_v hC (rm := ({ frames := 0, cells := 0, slots := 0, locals := 0 } : Room)) [.ref (bd_a ε (1 + 11))] [] (fun h => c_X10_passes (bd_l Γ) (bd_D Γ) ε 11 (by decide) S19 h) mw_818 mw_816 mw_817 mw_82 mw_69 (cM_o0 ε S19) rfl by_X10_passes ⟨rfl, rfl, by decide, by decide⟩ rfl rfl (Nat.le_of_ble_eq_true rfl) dX10_passesAll_82 (fun r20 S21 eS21 => ?_)
  refine bs_aload_n hC 0 dX10_passesAll_85 rfl rfl ?_
  refine bs_aload_n hC 0 dX10_passesAll_86 rfl rfl ?_
  refine bs_get hC (v := .ref (bd_a ε (1 + 12))) hin_X10 0 (cM_o0 ε S21) rfl 21 (by decide) mw_581 rfl dX10_passesAll_87 ?_
  refine bs_callV_v hC (rm := ({ frames := 0, cells := 0, slots := 0, locals := 0 } : Room)) [.ref (bd_a ε (1 + 12))] [] (fun h => c_X10_passes (bd_l Γ) (bd_D Γ) ε 12 (by decide) S21 h) mw_818 mw_816 mw_817 mw_82 mw_69 (cM_o0 ε S21) rfl by_X10_passes ⟨rfl, rfl, by decide, by decide⟩ rfl rfl (Nat.le_of_ble_eq_true rfl) dX10_passesAll_90 (fun r22 S23 eS23 => ?_)
  refine bs_aload_n hC 0 dX10_passesAll_93 rfl rfl ?_
  refine bs_aload_n hC 0 dX10_passesAll_94 rfl rfl ?_
  refine bs_get hC (v := .ref (bd_a ε (1 + 13))) hin_X10 0 (cM_o0 ε S23) rfl 22 (by decide) mw_582 rfl dX10_passesAll_95 ?_
  refine bs_callV_v hC (rm := ({ frames := 0, cells := 0, slots := 0, locals := 0 } : Room)) [.ref (bd_a ε (1 + 13))] [] (fun h => c_X10_passes (bd_l Γ) (bd_D Γ) ε 13 (by decide) S23 h) mw_818 mw_816 mw_817 mw_82 mw_69 (cM_o0 ε S23) rfl by_X10_passes ⟨rfl, rfl, by decide, by decide⟩ rfl rfl (Nat.le_of_ble_eq_true rfl) dX10_passesAll_98 (fun r24 S25 eS25 => ?_)
  refine bs_aload_n hC 0 dX10_passesAll_101 rfl rfl ?_
  refine bs_aload_n hC 0 dX10_passesAll_102 rfl rfl ?_
  refine bs_get hC (v := .ref (bd_a ε (1 + 14))) hin_X10 0 (cM_o0 ε S25) rfl 23 (by decide) mw_583 rfl dX10_passesAll_103 ?_
  refine bs_callV_v hC (rm := ({ frames := 0, cells := 0, slots := 0, locals := 0 } : Room)) [.ref (bd_a ε (1 + 14))] [] (fun h => c_X10_passes (bd_l Γ) (bd_D Γ) ε 14 (by decide) S25 h) mw_818 mw_816 mw_817 mw_82 mw_69 (cM_o0 ε S25) rfl by_X10_passes ⟨rfl, rfl, by decide, by decide⟩ rfl rfl (Nat.le_of_ble_eq_true rfl) dX10_passesAll_106 (fun r26 S27 eS27 => ?_)
  refine bs_aload_n hC 0 dX10_passesAll_109 rfl rfl ?_
  refine bs_aload_n hC 0 dX10_passesAll_110 rfl rfl ?_
  refine bs_aload_n hC 0 dX10_passesAll_111 rfl rfl ?_
  refine bs_get hC (v := .int (bd_I S27 2)) hin_X10 0 (cM_o0 ε S27) rfl 7 (by decide) mw_567 rfl dX10_passesAll_112 ?_
  refine bs_callV_i hC (rm := ({ frames := 0, cells := 0, slots := 0, locals := 0 } : Room)) [.int (bd_I S27 2)] [.ref (bd_a ε 0)] (fun h => c_X10_passOne (bd_l Γ) (bd_D Γ) ε (bd_I S27 2) S27 h) mw_821 mw_819 mw_820 mw_82 mw_70 (cM_o0 ε S27) rfl by_X10_passOne ⟨rfl, rfl, by decide, by decide⟩ rfl rfl (Nat.le_of_ble_eq_true rfl) dX10_passesAll_115 (fun r28 S29 eS29 => ?_)
  refine bs_put hC (kk := 2) hin_X10 tyX10 tyX10_ok nmX10 0 (cM_o0 ε S29) rfl 7 (by decide) mw_567 rfl rfl rfl (Nat.le_of_ble_eq_true rfl) (cM_p2 ε S29 _) dX10_passesAll_118 (fun S30 eS30 => ?_)
  refine bs_aload_n hC 0 dX10_passesAll_121 rfl rfl ?_
  refine bs_aload_n hC 0 dX10_passesAll_122 rfl rfl ?_
  refine bs_aload_n hC 0 dX10_passesAll_123 rfl rfl ?_
  refine bs_get hC (v := .int (bd_I S30 3)) hin_X10 0 (cM_o0 ε S30) rfl 10 (by decide) mw_570 rfl dX10_passesAll_124 ?_
  refine bs_callV_i hC (rm := ({ frames := 0, cells := 0, slots := 0, locals := 0 } : Room)) [.int (bd_I S30 3)] [.ref (bd_a ε 0)] (fun h => c_X10_passOne (bd_l Γ) (bd_D Γ) ε (bd_I S30 3) S30 h) mw_821 mw_819 mw_820 mw_82 mw_70 (cM_o0 ε S30) rfl by_X10_passOne ⟨rfl, rfl, by decide, by decide⟩ rfl rfl (Nat.le_of_ble_eq_true rfl) dX10_passesAll_127 (fun r31 S32 eS32 => ?_)
  refine bs_put hC (kk := 3) hin_X10 tyX10 tyX10_ok nmX10 0 (cM_o0 ε S32) rfl 10 (by decide) mw_570 rfl rfl rfl (Nat.le_of_ble_eq_true rfl) (cM_p3 ε S32 _) dX10_passesAll_130 (fun S33 eS33 => ?_)
  refine bs_aload_n hC 0 dX10_passesAll_133 rfl rfl ?_
  refine bs_aload_n hC 0 dX10_passesAll_134 rfl rfl ?_
  refine bs_aload_n hC 0 dX10_passesAll_135 rfl rfl ?_
  refine bs_get hC (v := .int (bd_I S33 4)) hin_X10 0 (cM_o0 ε S33) rfl 11 (by decide) mw_571 rfl dX10_passesAll_136 ?_
  refine bs_callV_i hC (rm := ({ frames := 0, cells := 0, slots := 0, locals := 0 } : Room)) [.int (bd_I S33 4)] [.ref (bd_a ε 0)] (fun h => c_X10_passOne (bd_l Γ) (bd_D Γ) ε (bd_I S33 4) S33 h) mw_821 mw_819 mw_820 mw_82 mw_70 (cM_o0 ε S33) rfl by_X10_passOne ⟨rfl, rfl, by decide, by decide⟩ rfl rfl (Nat.le_of_ble_eq_true rfl) dX10_passesAll_139 (fun r34 S35 eS35 => ?_)
  refine bs_put hC (kk := 4) hin_X10 tyX10 tyX10_ok nmX10 0 (cM_o0 ε S35) rfl 11 (by decide) mw_571 rfl rfl rfl (Nat.le_of_ble_eq_true rfl) (cM_p4 ε S35 _) dX10_passesAll_142 (fun S36 eS36 => ?_)
  refine bs_aload_n hC 0 dX10_passesAll_145 rfl rfl ?_
  refine bs_aload_n hC 0 dX10_passesAll_146 rfl rfl ?_
  refine bs_aload_n hC 0 dX10_passesAll_147 rfl rfl ?_
  refine bs_get hC (v := .int (bd_I S36 5)) hin_X10 0 (cM_o0 ε S36) rfl 12 (by decide) mw_572 rfl dX10_passesAll_148 ?_
  refine bs_callV_i hC (rm := ({ frames := 0, cells := 0, slots := 0, locals := 0 } : Room)) [.int (bd_I S36 5)] [.ref (bd_a ε 0)] (fun h => c_X10_passOne (bd_l Γ) (bd_D Γ) ε (bd_I S36 5) S36 h) mw_821 mw_819 mw_820 mw_82 mw_70 (cM_o0 ε S36) rfl by_X10_passOne ⟨rfl, rfl, by decide, by decide⟩ rfl rfl (Nat.le_of_ble_eq_true rfl) dX10_passesAll_151 (fun r37 S38 eS38 => ?_)
  refine bs_put hC (kk := 5) hin_X10 tyX10 tyX10_ok nmX10 0 (cM_o0 ε S38) rfl 12 (by decide) mw_572 rfl rfl rfl (Nat.le_of_ble_eq_true rfl) (cM_p5 ε S38 _) dX10_passesAll_154 (fun S39 eS39 => ?_)
  refine bs_aload_n hC 0 dX10_passesAll_157 rfl rfl ?_
  refine bs_aload_n hC 0 dX10_passesAll_158 rfl rfl ?_
  refine bs_aload_n hC 0 dX10_passesAll_159 rfl rfl ?_
  refine bs_get hC (v := .int (bd_I S39 6)) hin_X10 0 (cM_o0 ε S39) rfl 13 (by decide) mw_573 rfl dX10_passesAll_160 ?_
  refine bs_callV_i hC (rm := ({ frames := 0, cells := 0, slots := 0, locals := 0 } : Room)) [.int (bd_I S39 6)] [.ref (bd_a ε 0)] (fun h => c_X10_passOne (bd_l Γ) (bd_D Γ) ε (bd_I S39 6) S39 h) mw_821 mw_819 mw_820 mw_82 mw_70 (cM_o0 ε S39) rfl by_X10_passOne ⟨rfl, rfl, by decide, by decide⟩ rfl rfl (Nat.le_of_ble_eq_true rfl) dX10_passesAll_163 (fun r40 S41 eS41 => ?_)
  refine bs_put hC (kk := 6) hin_X10 tyX10 tyX10_ok nmX10 0 (cM_o0 ε S41) rfl 13 (by decide) mw_573 rfl rfl rfl (Nat.le_of_ble_eq_true rfl) (cM_p6 ε S41 _) dX10_passesAll_166 (fun S42 eS42 => ?_)
  refine bs_aload_n hC 0 dX10_passesAll_169 rfl rfl ?_
  refine bs_aload_n hC 0 dX10_passesAll_170 rfl rfl ?_
  refine bs_aload_n hC 0 dX10_passesAll_171 rfl rfl ?_
  refine bs_get hC (v := .int (bd_I S42 8)) hin_X10 0 (cM_o0 ε S42) rfl 20 (by decide) mw_580 rfl dX10_passesAll_172 ?_
  refine bs_callV_i hC (rm := ({ frames := 0, cells := 0, slots := 0, locals := 0 } : Room)) [.int (bd_I S42 8)] [.ref (bd_a ε 0)] (fun h => c_X10_passOne (bd_l Γ) (bd_D Γ) ε (bd_I S42 8) S42 h) mw_821 mw_819 mw_820 mw_82 mw_70 (cM_o0 ε S42) rfl by_X10_passOne ⟨rfl, rfl, by decide, by decide⟩ rfl rfl (Nat.le_of_ble_eq_true rfl) dX10_passesAll_175 (fun r43 S44 eS44 => ?_)
  refine bs_put hC (kk := 8) hin_X10 tyX10 tyX10_ok nmX10 0 (cM_o0 ε S44) rfl 20 (by decide) mw_580 rfl rfl rfl (Nat.le_of_ble_eq_true rfl) (cM_p8 ε S44 _) dX10_passesAll_178 (fun S45 eS45 => ?_)
  exact bs_vret hC dX10_passesAll_181 rfl
theorem c_X10_passesAll (l : Launch) (D : va_G) (ε : bd_E)  (S : bd_T) (h0 : (f_X10_passesAll S).isSome = true) : bd_Con l yX10_passesAll (Cond.code yX10_passesAll cX10_passesAll 1 none :: bd_tbl) ({ frames := 1, cells := 0, slots := 0, locals := 22 } : Room) D ε (cM ε) bd_vv [.ref (bd_a ε 0)] S (f_X10_passesAll S) :=
  bd_con (by decide +kernel) (Nat.le_of_ble_eq_true rfl) ⟨rfl, rfl⟩ h0 (fun Γ _ _ hC => bs_eq bs_bs (b_X10_passesAll hC S))
set_option maxRecDepth 100000 in
set_option maxHeartbeats 4000000 in
theorem b_X10_image {Γ : bd_G} {ε : bd_E} {t0 : Option (Int32 × bd_T)} (hC : bd_C Γ cX10_image 1 RX10 (some .int) ({ frames := 2, cells := 0, slots := 0, locals := 42 } : Room) ε (cM ε) bd_vi t0)  (S : bd_T) : bd_S Γ 1 t0 ((f_X10_image S).bind some) (cM ε S) 0 [(0, .ref (bd_a ε 0))] [] := by
  unfold f_X10_image
  refine bs_aload_n hC 0 dX10_image_0 rfl rfl ?_
  refine bs_iconst hC (1 : Int32) dX10_image_1 rfl ?_
  refine bs_put hC (kk := 12) hin_X10 tyX10 tyX10_ok nmX10 0 (cM_o0 ε S) rfl 36 (by decide) mw_596 rfl rfl rfl (Nat.le_of_ble_eq_true rfl) (cM_p12 ε S _) dX10_image_2 (fun S1 eS1 => ?_)
  refine bs_aload_n hC 0 dX10_image_5 rfl rfl ?_
  refine bs_iconst hC (1 : Int32) dX10_image_6 rfl ?_
  refine bs_put hC (kk := 11) hin_X10 tyX10 tyX10_ok nmX10 0 (cM_o0 ε S1) rfl 35 (by decide) mw_595 rfl rfl rfl (Nat.le_of_ble_eq_true rfl) (cM_p11 ε S1 _) dX10_image_7 (fun S2 eS2 => ?_)
  refine bs_aload_n hC 0 dX10_image_10 rfl rfl ?_
  refine bs_callV_v hC (rm := ({ frames := 1, cells := 0, slots := 0, locals := 22 } : Room)) [] [] (fun h => c_X10_passesAll (bd_l Γ) (bd_D Γ) ε S2 h) mw_815 mw_813 mw_814 mw_82 mw_68 (cM_o0 ε S2) rfl by_X10_passesAll ⟨rfl, rfl, by decide, by decide⟩ rfl rfl (Nat.le_of_ble_eq_true rfl) dX10_image_11 (fun r3 S4 eS4 => ?_)
  refine bs_aload_n hC 0 dX10_image_14 rfl rfl ?_
  refine bs_get hC (v := .int (bd_I S4 2)) hin_X10 0 (cM_o0 ε S4) rfl 7 (by decide) mw_567 rfl dX10_image_15 ?_
  exact bs_iret hC dX10_image_18 rfl
theorem c_X10_image (l : Launch) (D : va_G) (ε : bd_E)  (S : bd_T) (h0 : (f_X10_image S).isSome = true) : bd_Con l yX10_image (Cond.code yX10_image cX10_image 1 (some .int) :: bd_tbl) ({ frames := 2, cells := 0, slots := 0, locals := 42 } : Room) D ε (cM ε) bd_vi [.ref (bd_a ε 0)] S (f_X10_image S) :=
  bd_con (by decide +kernel) (Nat.le_of_ble_eq_true rfl) ⟨rfl, rfl⟩ h0 (fun Γ _ _ hC => bs_eq bs_bs (b_X10_image hC S))
set_option maxRecDepth 100000 in
set_option maxHeartbeats 4000000 in
theorem b_X10_on {Γ : bd_G} {ε : bd_E} {t0 : Option (Int32 × bd_T)} (hC : bd_C Γ cX10_on 1 RX10 (some .int) ({ frames := 2, cells := 0, slots := 0, locals := 42 } : Room) ε (cM ε) bd_vi t0)  (S : bd_T) : bd_S Γ 1 t0 ((f_X10_on S).bind some) (cM ε S) 0 [(0, .ref (bd_a ε 0))] [] := by
  unfold f_X10_on
  refine bs_aload_n hC 0 dX10_on_0 rfl rfl ?_
  refine bs_get hC (v := .int (bd_I S 11)) hin_X10 0 (cM_o0 ε S) rfl 35 (by decide) mw_595 rfl dX10_on_1 ?_
  refine bs_if_ne hC 14 dX10_on_4 (by decide) (fun c7 => ?_) (fun c7 => ?_)
  · refine bs_aload_n hC 0 dX10_on_7 rfl rfl ?_
    refine bs_bipush hC (-3 : Int32) dX10_on_8 rfl ?_
    refine bs_callV_i hC (rm := ({ frames := 0, cells := 0, slots := 0, locals := 0 } : Room)) [.int (-3 : Int32)] [] (fun h => c_X10_no (bd_l Γ) (bd_D Γ) ε (-3 : Int32) S h) mw_646 mw_644 mw_645 mw_82 mw_48 (cM_o0 ε S) rfl by_X10_no ⟨rfl, rfl, by decide, by decide⟩ rfl rfl (Nat.le_of_ble_eq_true rfl) dX10_on_10 (fun r1 S2 eS2 => ?_)
    exact bs_iret hC dX10_on_13 rfl
  refine bs_aload_n hC 0 dX10_on_14 rfl rfl ?_
  refine bs_iconst hC (0 : Int32) dX10_on_15 rfl ?_
  refine bs_put hC (kk := 12) hin_X10 tyX10 tyX10_ok nmX10 0 (cM_o0 ε S) rfl 36 (by decide) mw_596 rfl rfl rfl (Nat.le_of_ble_eq_true rfl) (cM_p12 ε S _) dX10_on_16 (fun S3 eS3 => ?_)
  refine bs_aload_n hC 0 dX10_on_19 rfl rfl ?_
  refine bs_callV_v hC (rm := ({ frames := 1, cells := 0, slots := 0, locals := 22 } : Room)) [] [] (fun h => c_X10_passesAll (bd_l Γ) (bd_D Γ) ε S3 h) mw_815 mw_813 mw_814 mw_82 mw_68 (cM_o0 ε S3) rfl by_X10_passesAll ⟨rfl, rfl, by decide, by decide⟩ rfl rfl (Nat.le_of_ble_eq_true rfl) dX10_on_20 (fun r4 S5 eS5 => ?_)
  refine bs_aload_n hC 0 dX10_on_23 rfl rfl ?_
  refine bs_iconst hC (1 : Int32) dX10_on_24 rfl ?_
  refine bs_put hC (kk := 7) hin_X10 tyX10 tyX10_ok nmX10 0 (cM_o0 ε S5) rfl 14 (by decide) mw_574 rfl rfl rfl (Nat.le_of_ble_eq_true rfl) (cM_p7 ε S5 _) dX10_on_25 (fun S6 eS6 => ?_)
  refine bs_aload_n hC 0 dX10_on_28 rfl rfl ?_
  refine bs_get hC (v := .int (bd_I S6 2)) hin_X10 0 (cM_o0 ε S6) rfl 7 (by decide) mw_567 rfl dX10_on_29 ?_
  exact bs_iret hC dX10_on_32 rfl
theorem c_X10_on (l : Launch) (D : va_G) (ε : bd_E)  (S : bd_T) (h0 : (f_X10_on S).isSome = true) : bd_Con l yX10_on (Cond.code yX10_on cX10_on 1 (some .int) :: bd_tbl) ({ frames := 2, cells := 0, slots := 0, locals := 42 } : Room) D ε (cM ε) bd_vi [.ref (bd_a ε 0)] S (f_X10_on S) :=
  bd_con (by decide +kernel) (Nat.le_of_ble_eq_true rfl) ⟨rfl, rfl⟩ h0 (fun Γ _ _ hC => bs_eq bs_bs (b_X10_on hC S))
set_option maxRecDepth 100000 in
set_option maxHeartbeats 4000000 in
theorem lb_X10_count_80 {Γ : bd_G} {ε : bd_E} {t0 : Option (Int32 × bd_T)} (hC : bd_C Γ cX10_count 4 RX10 (some .int) ({ frames := 1, cells := 0, slots := 0, locals := 22 } : Room) ε (cM ε) bd_vi t0)  {K : (Int32 × Int32 × bd_T) ⊕ (Int32 × bd_T) → Option (Int32 × bd_T)} (hk : ∀ (x2 : Int32) (x3 : Int32) (S : bd_T), bd_S Γ 4 t0 (K (.inl (x2, x3, S))) (cM ε S) 80 [(0, .ref (bd_a ε 0)), (2, .int x2), (3, .int x3)] []) (hx : ∀ (y2 : Int32) (S : bd_T), bd_S Γ 4 t0 (K (.inr (y2, S))) (cM ε S) 103 [(2, .int y2)] []) (x2 : Int32) (x3 : Int32) (S : bd_T) : bd_S Γ 4 t0 ((fb_X10_count_80 x2 x3 S).bind K) (cM ε S) 80 [(0, .ref (bd_a ε 0)), (2, .int x2), (3, .int x3)] [] := by
  unfold fb_X10_count_80
  refine bs_iload_n hC 2 dX10_count_80 rfl rfl ?_
  refine bs_aload_n hC 0 dX10_count_81 rfl rfl ?_
  refine bs_get hC (v := .int (bd_I S 8)) hin_X10 0 (cM_o0 ε S) rfl 20 (by decide) mw_580 rfl dX10_count_82 ?_
  refine bs_icmp_ge hC 103 dX10_count_85 (by decide) (fun c8 => ?_) (fun c8 => ?_)
  · refine bs_some ?_
    refine bs_pick [1] rfl ?_
    exact hx x2 S
  refine bs_iload_n hC 1 dX10_count_88 rfl rfl ?_
  refine bs_aload_n hC 0 dX10_count_89 rfl rfl ?_
  refine bs_get hC (v := .ref (bd_a ε (1 + 11))) hin_X10 0 (cM_o0 ε S) rfl 19 (by decide) mw_579 rfl dX10_count_90 ?_
  refine bs_iload_n hC 2 dX10_count_93 rfl rfl ?_
  refine bs_iald hC _ (cM_gi ε S 11 10 (by decide) rfl) dX10_count_94 (fun z6 ez6 => ?_)
  refine bs_iadd hC dX10_count_95 ?_
  refine bs_leti (fun z7 ez7 => ?_)
  refine bs_istore_n hC [(2, .int z7), (0, .ref (bd_a ε 0)), (3, .int x3)] dX10_count_96 rfl (by decide) rfl ?_
  refine bs_iinc hC 2 [(3, .int (x3 + 1)), (2, .int z7), (0, .ref (bd_a ε 0))] dX10_count_97 rfl rfl (by decide) rfl ?_
  refine bs_goto hC 80 dX10_count_100 (by decide) ?_
  refine bs_some ?_
  refine bs_pick [2, 1, 0] rfl ?_
  exact hk z7 (x3 + 1) S
set_option maxRecDepth 100000 in
set_option maxHeartbeats 4000000 in
theorem lb_X10_count_107 {Γ : bd_G} {ε : bd_E} {t0 : Option (Int32 × bd_T)} (hC : bd_C Γ cX10_count 4 RX10 (some .int) ({ frames := 1, cells := 0, slots := 0, locals := 22 } : Room) ε (cM ε) bd_vi t0)  {K : (Int32 × Int32 × bd_T) ⊕ (Int32 × bd_T) → Option (Int32 × bd_T)} (hk : ∀ (x2 : Int32) (x3 : Int32) (S : bd_T), bd_S Γ 4 t0 (K (.inl (x2, x3, S))) (cM ε S) 107 [(0, .ref (bd_a ε 0)), (2, .int x2), (3, .int x3)] []) (hx : ∀ (y2 : Int32) (S : bd_T), bd_S Γ 4 t0 (K (.inr (y2, S))) (cM ε S) 138 [(2, .int y2)] []) (x2 : Int32) (x3 : Int32) (S : bd_T) : bd_S Γ 4 t0 ((fb_X10_count_107 x2 x3 S).bind K) (cM ε S) 107 [(0, .ref (bd_a ε 0)), (2, .int x2), (3, .int x3)] [] := by
  unfold fb_X10_count_107
  refine bs_iload_n hC 2 dX10_count_107 rfl rfl ?_
  refine bs_aload_n hC 0 dX10_count_108 rfl rfl ?_
  refine bs_get hC (v := .int (bd_I S 2)) hin_X10 0 (cM_o0 ε S) rfl 7 (by decide) mw_567 rfl dX10_count_109 ?_
  refine bs_icmp_ge hC 138 dX10_count_112 (by decide) (fun c16 => ?_) (fun c16 => ?_)
  · refine bs_some ?_
    refine bs_pick [1] rfl ?_
    exact hx x2 S
  refine bs_iload_n hC 1 dX10_count_115 rfl rfl ?_
  refine bs_aload_n hC 0 dX10_count_116 rfl rfl ?_
  refine bs_get hC (v := .ref (bd_a ε (1 + 12))) hin_X10 0 (cM_o0 ε S) rfl 21 (by decide) mw_581 rfl dX10_count_117 ?_
  refine bs_iload_n hC 2 dX10_count_120 rfl rfl ?_
  refine bs_iald hC _ (cM_gi ε S 12 6 (by decide) rfl) dX10_count_121 (fun z12 ez12 => ?_)
  refine bs_if_lt hC 129 dX10_count_122 (by decide) (fun c15 => ?_) (fun c15 => ?_)
  · refine bs_iconst hC (0 : Int32) dX10_count_129 rfl ?_
    refine bs_iadd hC dX10_count_130 ?_
    refine bs_leti (fun z13 ez13 => ?_)
    refine bs_istore_n hC [(2, .int z13), (0, .ref (bd_a ε 0)), (3, .int x3)] dX10_count_131 rfl (by decide) rfl ?_
    refine bs_iinc hC 2 [(3, .int (x3 + 1)), (2, .int z13), (0, .ref (bd_a ε 0))] dX10_count_132 rfl rfl (by decide) rfl ?_
    refine bs_goto hC 107 dX10_count_135 (by decide) ?_
    refine bs_some ?_
    refine bs_pick [2, 1, 0] rfl ?_
    exact hk z13 (x3 + 1) S
  refine bs_iconst hC (1 : Int32) dX10_count_125 rfl ?_
  refine bs_goto hC 130 dX10_count_126 (by decide) ?_
  refine bs_iadd hC dX10_count_130 ?_
  refine bs_leti (fun z14 ez14 => ?_)
  refine bs_istore_n hC [(2, .int z14), (0, .ref (bd_a ε 0)), (3, .int x3)] dX10_count_131 rfl (by decide) rfl ?_
  refine bs_iinc hC 2 [(3, .int (x3 + 1)), (2, .int z14), (0, .ref (bd_a ε 0))] dX10_count_132 rfl rfl (by decide) rfl ?_
  refine bs_goto hC 107 dX10_count_135 (by decide) ?_
  refine bs_some ?_
  refine bs_pick [2, 1, 0] rfl ?_
  exact hk z14 (x3 + 1) S
set_option maxRecDepth 100000 in
set_option maxHeartbeats 4000000 in
theorem b_X10_count {Γ : bd_G} {ε : bd_E} {t0 : Option (Int32 × bd_T)} (hC : bd_C Γ cX10_count 4 RX10 (some .int) ({ frames := 1, cells := 0, slots := 0, locals := 22 } : Room) ε (cM ε) bd_vi t0) (x1 : Int32)  (S : bd_T) : bd_S Γ 4 t0 ((f_X10_count x1 S).bind some) (cM ε S) 0 [(0, .ref (bd_a ε 0)), (1, .int x1)] [] := by
  unfold f_X10_count
  refine bs_iload_n hC 1 dX10_count_0 rfl rfl ?_
  refine bs_bipush hC (11 : Int32) dX10_count_1 rfl ?_
  refine bs_bipush hC (16 : Int32) dX10_count_3 rfl ?_
  refine bs_callS_i hC (rm := ({ frames := 0, cells := 0, slots := 0, locals := 0 } : Room)) [.int x1, .int (11 : Int32), .int (16 : Int32)] [] (fun h => c_X10_isIn (bd_l Γ) (bd_D Γ) ε x1 (11 : Int32) (16 : Int32) S h) mw_663 mw_661 mw_662 mw_82 by_X10_isIn ⟨rfl, rfl, by decide, by decide⟩ rfl rfl (Nat.le_of_ble_eq_true rfl) dX10_count_5 (fun r1 S2 eS2 => ?_)
  refine bs_if_eq hC 21 dX10_count_8 (by decide) (fun c23 => ?_) (fun c23 => ?_)
  · refine bs_iconst hC (0 : Int32) dX10_count_21 rfl ?_
    refine bs_istore_n hC [(2, .int (0 : Int32)), (0, .ref (bd_a ε 0)), (1, .int x1)] dX10_count_22 rfl (by decide) rfl ?_
    refine bs_iload_n hC 2 dX10_count_23 rfl rfl ?_
    refine bs_case (c := x1 = 0) (fun c3 => ?_) (fun c3 => ?_)
    · refine bs_tabIn hC (0 : Int32) (44) 68 dX10_count_24 c3 (by decide) (by decide) rfl (by decide) ?_
      refine bs_aload_n hC 1 dX10_count_68 rfl rfl ?_
      refine bs_get hC (v := .int (bd_I S2 2)) hin_X10 0 (cM_o0 ε S2) rfl 7 (by decide) mw_567 rfl dX10_count_69 ?_
      exact bs_iret hC dX10_count_72 rfl
    refine bs_case (c := x1 = 1) (fun c4 => ?_) (fun c4 => ?_)
    · refine bs_tabIn hC (1 : Int32) (49) 73 dX10_count_24 c4 (by decide) (by decide) rfl (by decide) ?_
      refine bs_aload_n hC 1 dX10_count_73 rfl rfl ?_
      refine bs_get hC (v := .int (bd_I S2 8)) hin_X10 0 (cM_o0 ε S2) rfl 20 (by decide) mw_580 rfl dX10_count_74 ?_
      exact bs_iret hC dX10_count_77 rfl
    refine bs_case (c := x1 = 2) (fun c5 => ?_) (fun c5 => ?_)
    · refine bs_tabIn hC (2 : Int32) (54) 78 dX10_count_24 c5 (by decide) (by decide) rfl (by decide) ?_
      refine bs_iconst hC (0 : Int32) dX10_count_78 rfl ?_
      refine bs_istore_n hC [(3, .int (0 : Int32)), (2, .int (0 : Int32)), (0, .ref (bd_a ε 0)), (1, .int x1)] dX10_count_79 rfl (by decide) rfl ?_
      refine bs_pick [2, 1, 0] rfl ?_
      refine bs_loopK (fun (q : Int32 × Int32 × bd_T) t => bd_S Γ 4 t0 t (cM ε (q.2.2)) 80 [(0, .ref (bd_a ε 0)), (2, .int (q.1)), (3, .int (q.2.1))] []) (fun (q : Int32 × bd_T) t => bd_S Γ 4 t0 t (cM ε (q.2)) 103 [(2, .int (q.1))] []) (fun q => fb_X10_count_80 q.1 q.2.1 q.2.2) (fun _ => bs_none) (fun K hk hx q => lb_X10_count_80 hC    (fun a0 a1 S => hk (a0, a1, S)) (fun b0 S => hx (b0, S))  (q.1) (q.2.1) (q.2.2)) (fun r => ?_) bd_K ((0 : Int32), (0 : Int32), S2)
      obtain ⟨y9, S10⟩ := r
      show bd_S Γ 4 t0 (Option.bind _ _) (cM ε S10) 103 [(2, .int y9)] []
      try dsimp only
      refine bs_iload_n hC 0 dX10_count_103 rfl rfl ?_
      exact bs_iret hC dX10_count_104 rfl
    refine bs_case (c := x1 = 3) (fun c11 => ?_) (fun c11 => ?_)
    · refine bs_tabIn hC (3 : Int32) (81) 105 dX10_count_24 c11 (by decide) (by decide) rfl (by decide) ?_
      refine bs_iconst hC (0 : Int32) dX10_count_105 rfl ?_
      refine bs_istore_n hC [(3, .int (0 : Int32)), (2, .int (0 : Int32)), (0, .ref (bd_a ε 0)), (1, .int x1)] dX10_count_106 rfl (by decide) rfl ?_
      refine bs_pick [2, 1, 0] rfl ?_
      refine bs_loopK (fun (q : Int32 × Int32 × bd_T) t => bd_S Γ 4 t0 t (cM ε (q.2.2)) 107 [(0, .ref (bd_a ε 0)), (2, .int (q.1)), (3, .int (q.2.1))] []) (fun (q : Int32 × bd_T) t => bd_S Γ 4 t0 t (cM ε (q.2)) 138 [(2, .int (q.1))] []) (fun q => fb_X10_count_107 q.1 q.2.1 q.2.2) (fun _ => bs_none) (fun K hk hx q => lb_X10_count_107 hC    (fun a0 a1 S => hk (a0, a1, S)) (fun b0 S => hx (b0, S))  (q.1) (q.2.1) (q.2.2)) (fun r => ?_) bd_K ((0 : Int32), (0 : Int32), S2)
      obtain ⟨y17, S18⟩ := r
      show bd_S Γ 4 t0 (Option.bind _ _) (cM ε S18) 138 [(2, .int y17)] []
      try dsimp only
      refine bs_iload_n hC 0 dX10_count_138 rfl rfl ?_
      exact bs_iret hC dX10_count_139 rfl
    refine bs_case (c := x1 = 4) (fun c19 => ?_) (fun c19 => ?_)
    · refine bs_tabIn hC (4 : Int32) (116) 140 dX10_count_24 c19 (by decide) (by decide) rfl (by decide) ?_
      refine bs_aload_n hC 1 dX10_count_140 rfl rfl ?_
      refine bs_get hC (v := .int (bd_I S2 6)) hin_X10 0 (cM_o0 ε S2) rfl 13 (by decide) mw_573 rfl dX10_count_141 ?_
      exact bs_iret hC dX10_count_144 rfl
    refine bs_case (c := x1 = 5) (fun c20 => ?_) (fun c20 => ?_)
    · refine bs_tabIn hC (5 : Int32) (121) 145 dX10_count_24 c20 (by decide) (by decide) rfl (by decide) ?_
      refine bs_aload_n hC 1 dX10_count_145 rfl rfl ?_
      refine bs_get hC (v := .int (bd_I S2 0)) hin_X10 0 (cM_o0 ε S2) rfl 5 (by decide) mw_565 rfl dX10_count_146 ?_
      exact bs_iret hC dX10_count_149 rfl
    refine bs_case (c := x1 = 6) (fun c21 => ?_) (fun c21 => ?_)
    · refine bs_tabIn hC (6 : Int32) (126) 150 dX10_count_24 c21 (by decide) (by decide) rfl (by decide) ?_
      refine bs_aload_n hC 1 dX10_count_150 rfl rfl ?_
      refine bs_get hC (v := .int (bd_I S2 10)) hin_X10 0 (cM_o0 ε S2) rfl 32 (by decide) mw_592 rfl dX10_count_151 ?_
      exact bs_iret hC dX10_count_154 rfl
    refine bs_tabOut hC 155 dX10_count_24 (by have h0 := lv_neT (k := (0 : Int32)) (a := 0) c3 rfl; have h1 := lv_neT (k := (1 : Int32)) (a := 1) c4 rfl; have h2 := lv_neT (k := (2 : Int32)) (a := 2) c5 rfl; have h3 := lv_neT (k := (3 : Int32)) (a := 3) c11 rfl; have h4 := lv_neT (k := (4 : Int32)) (a := 4) c19 rfl; have h5 := lv_neT (k := (5 : Int32)) (a := 5) c20 rfl; have h6 := lv_neT (k := (6 : Int32)) (a := 6) c21 rfl; omega) (by decide) ?_
    refine bs_bipush hC (-9 : Int32) dX10_count_155 rfl ?_
    exact bs_iret hC dX10_count_157 rfl
  refine bs_aload_n hC 0 dX10_count_11 rfl rfl ?_
  refine bs_get hC (v := .ref (bd_a ε (1 + 0))) hin_X10 0 (cM_o0 ε S2) rfl 0 (by decide) mw_560 rfl dX10_count_12 ?_
  refine bs_iload_n hC 1 dX10_count_15 rfl rfl ?_
  refine bs_bipush hC (10 : Int32) dX10_count_16 rfl ?_
  refine bs_isub hC dX10_count_18 ?_
  refine bs_iald hC _ (cM_gi ε S2 0 7 (by decide) rfl) dX10_count_19 (fun z22 ez22 => ?_)
  exact bs_iret hC dX10_count_20 rfl
theorem c_X10_count (l : Launch) (D : va_G) (ε : bd_E) (x1 : Int32)  (S : bd_T) (h0 : (f_X10_count x1 S).isSome = true) : bd_Con l yX10_count (Cond.code yX10_count cX10_count 4 (some .int) :: bd_tbl) ({ frames := 1, cells := 0, slots := 0, locals := 22 } : Room) D ε (cM ε) bd_vi [.ref (bd_a ε 0), .int x1] S (f_X10_count x1 S) :=
  bd_con (by decide +kernel) (Nat.le_of_ble_eq_true rfl) ⟨rfl, rfl⟩ h0 (fun Γ _ _ hC => bs_eq bs_bs (b_X10_count hC x1 S))
