theorem dX0_init_0 : decode cX0_init 0 = .ok (.aload_n 0, 1) := by decide +kernel
theorem dX0_init_1 : decode cX0_init 1 = .ok (.invokespecial 3, 3) := by decide +kernel
theorem dX0_init_4 : decode cX0_init 4 = .ok (.aload_n 0, 1) := by decide +kernel
theorem dX0_init_5 : decode cX0_init 5 = .ok (.bipush 10, 2) := by decide +kernel
theorem dX0_init_7 : decode cX0_init 7 = .ok (.newarray .int, 2) := by decide +kernel
theorem dX0_init_9 : decode cX0_init 9 = .ok (.putfield 9, 3) := by decide +kernel
theorem dX0_init_12 : decode cX0_init 12 = .ok (.aload_n 0, 1) := by decide +kernel
theorem dX0_init_13 : decode cX0_init 13 = .ok (.iconst 4, 1) := by decide +kernel
theorem dX0_init_14 : decode cX0_init 14 = .ok (.putfield 15, 3) := by decide +kernel
theorem dX0_init_17 : decode cX0_init 17 = .ok (.aload_n 0, 1) := by decide +kernel
theorem dX0_init_18 : decode cX0_init 18 = .ok (.iconst 0, 1) := by decide +kernel
theorem dX0_init_19 : decode cX0_init 19 = .ok (.putfield 19, 3) := by decide +kernel
theorem dX0_init_22 : decode cX0_init 22 = .ok (.aload_n 0, 1) := by decide +kernel
theorem dX0_init_23 : decode cX0_init 23 = .ok (.iconst 0, 1) := by decide +kernel
theorem dX0_init_24 : decode cX0_init 24 = .ok (.putfield 22, 3) := by decide +kernel
theorem dX0_init_27 : decode cX0_init 27 = .ok (.aload_n 0, 1) := by decide +kernel
theorem dX0_init_28 : decode cX0_init 28 = .ok (.new 25, 3) := by decide +kernel
theorem dX0_init_31 : decode cX0_init 31 = .ok (.dup, 1) := by decide +kernel
theorem dX0_init_32 : decode cX0_init 32 = .ok (.aload_n 1, 1) := by decide +kernel
theorem dX0_init_33 : decode cX0_init 33 = .ok (.invokespecial 27, 3) := by decide +kernel
theorem dX0_init_36 : decode cX0_init 36 = .ok (.putfield 30, 3) := by decide +kernel
theorem dX0_init_39 : decode cX0_init 39 = .ok (.aload_n 0, 1) := by decide +kernel
theorem dX0_init_40 : decode cX0_init 40 = .ok (.new 25, 3) := by decide +kernel
theorem dX0_init_43 : decode cX0_init 43 = .ok (.dup, 1) := by decide +kernel
theorem dX0_init_44 : decode cX0_init 44 = .ok (.aload_n 1, 1) := by decide +kernel
theorem dX0_init_45 : decode cX0_init 45 = .ok (.invokespecial 27, 3) := by decide +kernel
theorem dX0_init_48 : decode cX0_init 48 = .ok (.putfield 34, 3) := by decide +kernel
theorem dX0_init_51 : decode cX0_init 51 = .ok (.return_, 1) := by decide +kernel
theorem dX0_pair_0 : decode cX0_pair 0 = .ok (.aload_n 0, 1) := by decide +kernel
theorem dX0_pair_1 : decode cX0_pair 1 = .ok (.getfield 30, 3) := by decide +kernel
theorem dX0_pair_4 : decode cX0_pair 4 = .ok (.aload_n 1, 1) := by decide +kernel
theorem dX0_pair_5 : decode cX0_pair 5 = .ok (.aload_n 3, 1) := by decide +kernel
theorem dX0_pair_6 : decode cX0_pair 6 = .ok (.invokevirtual 37, 3) := by decide +kernel
theorem dX0_pair_9 : decode cX0_pair 9 = .ok (.aload_n 0, 1) := by decide +kernel
theorem dX0_pair_10 : decode cX0_pair 10 = .ok (.getfield 34, 3) := by decide +kernel
theorem dX0_pair_13 : decode cX0_pair 13 = .ok (.aload_n 2, 1) := by decide +kernel
theorem dX0_pair_14 : decode cX0_pair 14 = .ok (.aload_n 3, 1) := by decide +kernel
theorem dX0_pair_15 : decode cX0_pair 15 = .ok (.invokevirtual 37, 3) := by decide +kernel
theorem dX0_pair_18 : decode cX0_pair 18 = .ok (.isub, 1) := by decide +kernel
theorem dX0_pair_19 : decode cX0_pair 19 = .ok (.istore 4, 2) := by decide +kernel
theorem dX0_pair_21 : decode cX0_pair 21 = .ok (.aload_n 0, 1) := by decide +kernel
theorem dX0_pair_22 : decode cX0_pair 22 = .ok (.iconst 4, 1) := by decide +kernel
theorem dX0_pair_23 : decode cX0_pair 23 = .ok (.iload 4, 2) := by decide +kernel
theorem dX0_pair_25 : decode cX0_pair 25 = .ok (.iadd, 1) := by decide +kernel
theorem dX0_pair_26 : decode cX0_pair 26 = .ok (.iconst 1, 1) := by decide +kernel
theorem dX0_pair_27 : decode cX0_pair 27 = .ok (.bipush 7, 2) := by decide +kernel
theorem dX0_pair_29 : decode cX0_pair 29 = .ok (.invokestatic 41, 3) := by decide +kernel
theorem dX0_pair_32 : decode cX0_pair 32 = .ok (.putfield 15, 3) := by decide +kernel
theorem dX0_pair_35 : decode cX0_pair 35 = .ok (.return_, 1) := by decide +kernel
theorem dX0_goThrough_0 : decode cX0_goThrough 0 = .ok (.aload_n 0, 1) := by decide +kernel
theorem dX0_goThrough_1 : decode cX0_goThrough 1 = .ok (.getfield 30, 3) := by decide +kernel
theorem dX0_goThrough_4 : decode cX0_goThrough 4 = .ok (.invokevirtual 45, 3) := by decide +kernel
theorem dX0_goThrough_7 : decode cX0_goThrough 7 = .ok (.aload_n 0, 1) := by decide +kernel
theorem dX0_goThrough_8 : decode cX0_goThrough 8 = .ok (.getfield 34, 3) := by decide +kernel
theorem dX0_goThrough_11 : decode cX0_goThrough 11 = .ok (.invokevirtual 45, 3) := by decide +kernel
theorem dX0_goThrough_14 : decode cX0_goThrough 14 = .ok (.aload_n 0, 1) := by decide +kernel
theorem dX0_goThrough_15 : decode cX0_goThrough 15 = .ok (.getfield 15, 3) := by decide +kernel
theorem dX0_goThrough_18 : decode cX0_goThrough 18 = .ok (.istore_n 3, 1) := by decide +kernel
theorem dX0_goThrough_19 : decode cX0_goThrough 19 = .ok (.aload_n 0, 1) := by decide +kernel
theorem dX0_goThrough_20 : decode cX0_goThrough 20 = .ok (.getfield 9, 3) := by decide +kernel
theorem dX0_goThrough_23 : decode cX0_goThrough 23 = .ok (.iconst 0, 1) := by decide +kernel
theorem dX0_goThrough_24 : decode cX0_goThrough 24 = .ok (.aload_n 0, 1) := by decide +kernel
theorem dX0_goThrough_25 : decode cX0_goThrough 25 = .ok (.getfield 15, 3) := by decide +kernel
theorem dX0_goThrough_28 : decode cX0_goThrough 28 = .ok (.iastore, 1) := by decide +kernel
theorem dX0_goThrough_29 : decode cX0_goThrough 29 = .ok (.iconst 0, 1) := by decide +kernel
theorem dX0_goThrough_30 : decode cX0_goThrough 30 = .ok (.istore 4, 2) := by decide +kernel
theorem dX0_goThrough_32 : decode cX0_goThrough 32 = .ok (.iload 4, 2) := by decide +kernel
theorem dX0_goThrough_34 : decode cX0_goThrough 34 = .ok (.bipush 9, 2) := by decide +kernel
theorem dX0_goThrough_36 : decode cX0_goThrough 36 = .ok (.if_icmp .ge 99, 3) := by decide +kernel
theorem dX0_goThrough_39 : decode cX0_goThrough 39 = .ok (.iload_n 3, 1) := by decide +kernel
theorem dX0_goThrough_40 : decode cX0_goThrough 40 = .ok (.ifCond .le 79, 3) := by decide +kernel
theorem dX0_goThrough_43 : decode cX0_goThrough 43 = .ok (.iload_n 3, 1) := by decide +kernel
theorem dX0_goThrough_44 : decode cX0_goThrough 44 = .ok (.bipush 8, 2) := by decide +kernel
theorem dX0_goThrough_46 : decode cX0_goThrough 46 = .ok (.if_icmp .ge 73, 3) := by decide +kernel
theorem dX0_goThrough_49 : decode cX0_goThrough 49 = .ok (.iload_n 1, 1) := by decide +kernel
theorem dX0_goThrough_50 : decode cX0_goThrough 50 = .ok (.iload 4, 2) := by decide +kernel
theorem dX0_goThrough_52 : decode cX0_goThrough 52 = .ok (.invokestatic 48, 3) := by decide +kernel
theorem dX0_goThrough_55 : decode cX0_goThrough 55 = .ok (.istore 5, 2) := by decide +kernel
theorem dX0_goThrough_57 : decode cX0_goThrough 57 = .ok (.iload_n 2, 1) := by decide +kernel
theorem dX0_goThrough_58 : decode cX0_goThrough 58 = .ok (.iload 4, 2) := by decide +kernel
theorem dX0_goThrough_60 : decode cX0_goThrough 60 = .ok (.invokestatic 48, 3) := by decide +kernel
theorem dX0_goThrough_63 : decode cX0_goThrough 63 = .ok (.istore 6, 2) := by decide +kernel
theorem dX0_goThrough_65 : decode cX0_goThrough 65 = .ok (.aload_n 0, 1) := by decide +kernel
theorem dX0_goThrough_66 : decode cX0_goThrough 66 = .ok (.getfield 30, 3) := by decide +kernel
theorem dX0_goThrough_69 : decode cX0_goThrough 69 = .ok (.iload 5, 2) := by decide +kernel
theorem dX0_goThrough_71 : decode cX0_goThrough 71 = .ok (.iload 6, 2) := by decide +kernel
theorem dX0_goThrough_73 : decode cX0_goThrough 73 = .ok (.iload_n 3, 1) := by decide +kernel
theorem dX0_goThrough_74 : decode cX0_goThrough 74 = .ok (.invokevirtual 52, 3) := by decide +kernel
theorem dX0_goThrough_77 : decode cX0_goThrough 77 = .ok (.istore 7, 2) := by decide +kernel
theorem dX0_goThrough_79 : decode cX0_goThrough 79 = .ok (.aload_n 0, 1) := by decide +kernel
theorem dX0_goThrough_80 : decode cX0_goThrough 80 = .ok (.getfield 34, 3) := by decide +kernel
theorem dX0_goThrough_83 : decode cX0_goThrough 83 = .ok (.iload 6, 2) := by decide +kernel
theorem dX0_goThrough_85 : decode cX0_goThrough 85 = .ok (.iload 5, 2) := by decide +kernel
theorem dX0_goThrough_87 : decode cX0_goThrough 87 = .ok (.bipush 8, 2) := by decide +kernel
theorem dX0_goThrough_89 : decode cX0_goThrough 89 = .ok (.iload_n 3, 1) := by decide +kernel
theorem dX0_goThrough_90 : decode cX0_goThrough 90 = .ok (.isub, 1) := by decide +kernel
theorem dX0_goThrough_91 : decode cX0_goThrough 91 = .ok (.invokevirtual 52, 3) := by decide +kernel
theorem dX0_goThrough_94 : decode cX0_goThrough 94 = .ok (.istore 8, 2) := by decide +kernel
theorem dX0_goThrough_96 : decode cX0_goThrough 96 = .ok (.aload_n 0, 1) := by decide +kernel
theorem dX0_goThrough_97 : decode cX0_goThrough 97 = .ok (.iload_n 3, 1) := by decide +kernel
theorem dX0_goThrough_98 : decode cX0_goThrough 98 = .ok (.iload 7, 2) := by decide +kernel
theorem dX0_goThrough_100 : decode cX0_goThrough 100 = .ok (.iload 8, 2) := by decide +kernel
theorem dX0_goThrough_102 : decode cX0_goThrough 102 = .ok (.isub, 1) := by decide +kernel
theorem dX0_goThrough_103 : decode cX0_goThrough 103 = .ok (.invokestatic 55, 3) := by decide +kernel
theorem dX0_goThrough_106 : decode cX0_goThrough 106 = .ok (.iadd, 1) := by decide +kernel
theorem dX0_goThrough_107 : decode cX0_goThrough 107 = .ok (.invokevirtual 59, 3) := by decide +kernel
theorem dX0_goThrough_110 : decode cX0_goThrough 110 = .ok (.istore_n 3, 1) := by decide +kernel
theorem dX0_goThrough_111 : decode cX0_goThrough 111 = .ok (.aload_n 0, 1) := by decide +kernel
theorem dX0_goThrough_112 : decode cX0_goThrough 112 = .ok (.iload 4, 2) := by decide +kernel
theorem dX0_goThrough_114 : decode cX0_goThrough 114 = .ok (.iconst 1, 1) := by decide +kernel
theorem dX0_goThrough_115 : decode cX0_goThrough 115 = .ok (.iadd, 1) := by decide +kernel
theorem dX0_goThrough_116 : decode cX0_goThrough 116 = .ok (.putfield 19, 3) := by decide +kernel
theorem dX0_goThrough_119 : decode cX0_goThrough 119 = .ok (.aload_n 0, 1) := by decide +kernel
theorem dX0_goThrough_120 : decode cX0_goThrough 120 = .ok (.getfield 9, 3) := by decide +kernel
theorem dX0_goThrough_123 : decode cX0_goThrough 123 = .ok (.iload 4, 2) := by decide +kernel
theorem dX0_goThrough_125 : decode cX0_goThrough 125 = .ok (.iconst 1, 1) := by decide +kernel
theorem dX0_goThrough_126 : decode cX0_goThrough 126 = .ok (.iadd, 1) := by decide +kernel
theorem dX0_goThrough_127 : decode cX0_goThrough 127 = .ok (.iload_n 3, 1) := by decide +kernel
theorem dX0_goThrough_128 : decode cX0_goThrough 128 = .ok (.iastore, 1) := by decide +kernel
theorem dX0_goThrough_129 : decode cX0_goThrough 129 = .ok (.iinc 4 1, 3) := by decide +kernel
theorem dX0_goThrough_132 : decode cX0_goThrough 132 = .ok (.goto (-100), 3) := by decide +kernel
theorem dX0_goThrough_135 : decode cX0_goThrough 135 = .ok (.aload_n 0, 1) := by decide +kernel
theorem dX0_goThrough_136 : decode cX0_goThrough 136 = .ok (.iload_n 3, 1) := by decide +kernel
theorem dX0_goThrough_137 : decode cX0_goThrough 137 = .ok (.iconst 4, 1) := by decide +kernel
theorem dX0_goThrough_138 : decode cX0_goThrough 138 = .ok (.isub, 1) := by decide +kernel
theorem dX0_goThrough_139 : decode cX0_goThrough 139 = .ok (.putfield 22, 3) := by decide +kernel
theorem dX0_goThrough_142 : decode cX0_goThrough 142 = .ok (.return_, 1) := by decide +kernel
theorem dX0_stepsFor_0 : decode cX0_stepsFor 0 = .ok (.iload_n 0, 1) := by decide +kernel
theorem dX0_stepsFor_1 : decode cX0_stepsFor 1 = .ok (.invokestatic 62, 3) := by decide +kernel
theorem dX0_stepsFor_4 : decode cX0_stepsFor 4 = .ok (.bipush 20, 2) := by decide +kernel
theorem dX0_stepsFor_6 : decode cX0_stepsFor 6 = .ok (.if_icmp .le 7, 3) := by decide +kernel
theorem dX0_stepsFor_9 : decode cX0_stepsFor 9 = .ok (.iconst 2, 1) := by decide +kernel
theorem dX0_stepsFor_10 : decode cX0_stepsFor 10 = .ok (.goto 4, 3) := by decide +kernel
theorem dX0_stepsFor_13 : decode cX0_stepsFor 13 = .ok (.iconst 1, 1) := by decide +kernel
theorem dX0_stepsFor_14 : decode cX0_stepsFor 14 = .ok (.istore_n 1, 1) := by decide +kernel
theorem dX0_stepsFor_15 : decode cX0_stepsFor 15 = .ok (.iload_n 0, 1) := by decide +kernel
theorem dX0_stepsFor_16 : decode cX0_stepsFor 16 = .ok (.ifCond .ne 7, 3) := by decide +kernel
theorem dX0_stepsFor_19 : decode cX0_stepsFor 19 = .ok (.iconst 0, 1) := by decide +kernel
theorem dX0_stepsFor_20 : decode cX0_stepsFor 20 = .ok (.goto 13, 3) := by decide +kernel
theorem dX0_stepsFor_23 : decode cX0_stepsFor 23 = .ok (.iload_n 0, 1) := by decide +kernel
theorem dX0_stepsFor_24 : decode cX0_stepsFor 24 = .ok (.ifCond .ge 8, 3) := by decide +kernel
theorem dX0_stepsFor_27 : decode cX0_stepsFor 27 = .ok (.iload_n 1, 1) := by decide +kernel
theorem dX0_stepsFor_28 : decode cX0_stepsFor 28 = .ok (.ineg, 1) := by decide +kernel
theorem dX0_stepsFor_29 : decode cX0_stepsFor 29 = .ok (.goto 4, 3) := by decide +kernel
theorem dX0_stepsFor_32 : decode cX0_stepsFor 32 = .ok (.iload_n 1, 1) := by decide +kernel
theorem dX0_stepsFor_33 : decode cX0_stepsFor 33 = .ok (.ireturn, 1) := by decide +kernel
theorem dX0_cellAtLast_0 : decode cX0_cellAtLast 0 = .ok (.iload_n 1, 1) := by decide +kernel
theorem dX0_cellAtLast_1 : decode cX0_cellAtLast 1 = .ok (.bipush 8, 2) := by decide +kernel
theorem dX0_cellAtLast_3 : decode cX0_cellAtLast 3 = .ok (.if_icmp .lt 21, 3) := by decide +kernel
theorem dX0_cellAtLast_6 : decode cX0_cellAtLast 6 = .ok (.aload_n 0, 1) := by decide +kernel
theorem dX0_cellAtLast_7 : decode cX0_cellAtLast 7 = .ok (.getfield 34, 3) := by decide +kernel
theorem dX0_cellAtLast_10 : decode cX0_cellAtLast 10 = .ok (.invokevirtual 67, 3) := by decide +kernel
theorem dX0_cellAtLast_13 : decode cX0_cellAtLast 13 = .ok (.ifCond .eq 8, 3) := by decide +kernel
theorem dX0_cellAtLast_16 : decode cX0_cellAtLast 16 = .ok (.bipush 7, 2) := by decide +kernel
theorem dX0_cellAtLast_18 : decode cX0_cellAtLast 18 = .ok (.goto 5, 3) := by decide +kernel
theorem dX0_cellAtLast_21 : decode cX0_cellAtLast 21 = .ok (.bipush 8, 2) := by decide +kernel
theorem dX0_cellAtLast_23 : decode cX0_cellAtLast 23 = .ok (.ireturn, 1) := by decide +kernel
theorem dX0_cellAtLast_24 : decode cX0_cellAtLast 24 = .ok (.iload_n 1, 1) := by decide +kernel
theorem dX0_cellAtLast_25 : decode cX0_cellAtLast 25 = .ok (.ifCond .gt 19, 3) := by decide +kernel
theorem dX0_cellAtLast_28 : decode cX0_cellAtLast 28 = .ok (.aload_n 0, 1) := by decide +kernel
theorem dX0_cellAtLast_29 : decode cX0_cellAtLast 29 = .ok (.getfield 30, 3) := by decide +kernel
theorem dX0_cellAtLast_32 : decode cX0_cellAtLast 32 = .ok (.invokevirtual 67, 3) := by decide +kernel
theorem dX0_cellAtLast_35 : decode cX0_cellAtLast 35 = .ok (.ifCond .eq 7, 3) := by decide +kernel
theorem dX0_cellAtLast_38 : decode cX0_cellAtLast 38 = .ok (.iconst 1, 1) := by decide +kernel
theorem dX0_cellAtLast_39 : decode cX0_cellAtLast 39 = .ok (.goto 4, 3) := by decide +kernel
theorem dX0_cellAtLast_42 : decode cX0_cellAtLast 42 = .ok (.iconst 0, 1) := by decide +kernel
theorem dX0_cellAtLast_43 : decode cX0_cellAtLast 43 = .ok (.ireturn, 1) := by decide +kernel
theorem dX0_cellAtLast_44 : decode cX0_cellAtLast 44 = .ok (.iload_n 1, 1) := by decide +kernel
theorem dX0_cellAtLast_45 : decode cX0_cellAtLast 45 = .ok (.ireturn, 1) := by decide +kernel
theorem dX0_cellBehind_0 : decode cX0_cellBehind 0 = .ok (.aload_n 0, 1) := by decide +kernel
theorem dX0_cellBehind_1 : decode cX0_cellBehind 1 = .ok (.getfield 9, 3) := by decide +kernel
theorem dX0_cellBehind_4 : decode cX0_cellBehind 4 = .ok (.iload_n 1, 1) := by decide +kernel
theorem dX0_cellBehind_5 : decode cX0_cellBehind 5 = .ok (.iconst 0, 1) := by decide +kernel
theorem dX0_cellBehind_6 : decode cX0_cellBehind 6 = .ok (.aload_n 0, 1) := by decide +kernel
theorem dX0_cellBehind_7 : decode cX0_cellBehind 7 = .ok (.getfield 9, 3) := by decide +kernel
theorem dX0_cellBehind_10 : decode cX0_cellBehind 10 = .ok (.arraylength, 1) := by decide +kernel
theorem dX0_cellBehind_11 : decode cX0_cellBehind 11 = .ok (.iconst 1, 1) := by decide +kernel
theorem dX0_cellBehind_12 : decode cX0_cellBehind 12 = .ok (.isub, 1) := by decide +kernel
theorem dX0_cellBehind_13 : decode cX0_cellBehind 13 = .ok (.invokestatic 41, 3) := by decide +kernel
theorem dX0_cellBehind_16 : decode cX0_cellBehind 16 = .ok (.iaload, 1) := by decide +kernel
theorem dX0_cellBehind_17 : decode cX0_cellBehind 17 = .ok (.ireturn, 1) := by decide +kernel
theorem dX0_firstOtherwise_0 : decode cX0_firstOtherwise 0 = .ok (.iconst 0, 1) := by decide +kernel
theorem dX0_firstOtherwise_1 : decode cX0_firstOtherwise 1 = .ok (.istore_n 2, 1) := by decide +kernel
theorem dX0_firstOtherwise_2 : decode cX0_firstOtherwise 2 = .ok (.iload_n 2, 1) := by decide +kernel
theorem dX0_firstOtherwise_3 : decode cX0_firstOtherwise 3 = .ok (.aload_n 1, 1) := by decide +kernel
theorem dX0_firstOtherwise_4 : decode cX0_firstOtherwise 4 = .ok (.getfield 71, 3) := by decide +kernel
theorem dX0_firstOtherwise_7 : decode cX0_firstOtherwise 7 = .ok (.if_icmp .ge 26, 3) := by decide +kernel
theorem dX0_firstOtherwise_10 : decode cX0_firstOtherwise 10 = .ok (.aload_n 1, 1) := by decide +kernel
theorem dX0_firstOtherwise_11 : decode cX0_firstOtherwise 11 = .ok (.iload_n 2, 1) := by decide +kernel
theorem dX0_firstOtherwise_12 : decode cX0_firstOtherwise 12 = .ok (.invokevirtual 76, 3) := by decide +kernel
theorem dX0_firstOtherwise_15 : decode cX0_firstOtherwise 15 = .ok (.aload_n 0, 1) := by decide +kernel
theorem dX0_firstOtherwise_16 : decode cX0_firstOtherwise 16 = .ok (.iload_n 2, 1) := by decide +kernel
theorem dX0_firstOtherwise_17 : decode cX0_firstOtherwise 17 = .ok (.iconst 1, 1) := by decide +kernel
theorem dX0_firstOtherwise_18 : decode cX0_firstOtherwise 18 = .ok (.iadd, 1) := by decide +kernel
theorem dX0_firstOtherwise_19 : decode cX0_firstOtherwise 19 = .ok (.invokevirtual 79, 3) := by decide +kernel
theorem dX0_firstOtherwise_22 : decode cX0_firstOtherwise 22 = .ok (.if_icmp .eq 5, 3) := by decide +kernel
theorem dX0_firstOtherwise_25 : decode cX0_firstOtherwise 25 = .ok (.iload_n 2, 1) := by decide +kernel
theorem dX0_firstOtherwise_26 : decode cX0_firstOtherwise 26 = .ok (.ireturn, 1) := by decide +kernel
theorem dX0_firstOtherwise_27 : decode cX0_firstOtherwise 27 = .ok (.iinc 2 1, 3) := by decide +kernel
theorem dX0_firstOtherwise_30 : decode cX0_firstOtherwise 30 = .ok (.goto (-28), 3) := by decide +kernel
theorem dX0_firstOtherwise_33 : decode cX0_firstOtherwise 33 = .ok (.iconst (-1), 1) := by decide +kernel
theorem dX0_firstOtherwise_34 : decode cX0_firstOtherwise 34 = .ok (.ireturn, 1) := by decide +kernel
theorem dX1_init_0 : decode cX1_init 0 = .ok (.aload_n 0, 1) := by decide +kernel
theorem dX1_init_1 : decode cX1_init 1 = .ok (.invokespecial 3, 3) := by decide +kernel
theorem dX1_init_4 : decode cX1_init 4 = .ok (.aload_n 0, 1) := by decide +kernel
theorem dX1_init_5 : decode cX1_init 5 = .ok (.sipush 160, 3) := by decide +kernel
theorem dX1_init_8 : decode cX1_init 8 = .ok (.newarray .int, 2) := by decide +kernel
theorem dX1_init_10 : decode cX1_init 10 = .ok (.putfield 9, 3) := by decide +kernel
theorem dX1_init_13 : decode cX1_init 13 = .ok (.aload_n 0, 1) := by decide +kernel
theorem dX1_init_14 : decode cX1_init 14 = .ok (.iconst 0, 1) := by decide +kernel
theorem dX1_init_15 : decode cX1_init 15 = .ok (.putfield 15, 3) := by decide +kernel
theorem dX1_init_18 : decode cX1_init 18 = .ok (.aload_n 0, 1) := by decide +kernel
theorem dX1_init_19 : decode cX1_init 19 = .ok (.iconst 0, 1) := by decide +kernel
theorem dX1_init_20 : decode cX1_init 20 = .ok (.putfield 19, 3) := by decide +kernel
theorem dX1_init_23 : decode cX1_init 23 = .ok (.aload_n 0, 1) := by decide +kernel
theorem dX1_init_24 : decode cX1_init 24 = .ok (.iconst 0, 1) := by decide +kernel
theorem dX1_init_25 : decode cX1_init 25 = .ok (.putfield 22, 3) := by decide +kernel
theorem dX1_init_28 : decode cX1_init 28 = .ok (.aload_n 0, 1) := by decide +kernel
theorem dX1_init_29 : decode cX1_init 29 = .ok (.iconst (-1), 1) := by decide +kernel
theorem dX1_init_30 : decode cX1_init 30 = .ok (.putfield 25, 3) := by decide +kernel
theorem dX1_init_33 : decode cX1_init 33 = .ok (.aload_n 0, 1) := by decide +kernel
theorem dX1_init_34 : decode cX1_init 34 = .ok (.iconst 0, 1) := by decide +kernel
theorem dX1_init_35 : decode cX1_init 35 = .ok (.putfield 28, 3) := by decide +kernel
theorem dX1_init_38 : decode cX1_init 38 = .ok (.aload_n 0, 1) := by decide +kernel
theorem dX1_init_39 : decode cX1_init 39 = .ok (.new 31, 3) := by decide +kernel
theorem dX1_init_42 : decode cX1_init 42 = .ok (.dup, 1) := by decide +kernel
theorem dX1_init_43 : decode cX1_init 43 = .ok (.invokespecial 33, 3) := by decide +kernel
theorem dX1_init_46 : decode cX1_init 46 = .ok (.putfield 34, 3) := by decide +kernel
theorem dX1_init_49 : decode cX1_init 49 = .ok (.return_, 1) := by decide +kernel
theorem dX1_add_0 : decode cX1_add 0 = .ok (.aload_n 0, 1) := by decide +kernel
theorem dX1_add_1 : decode cX1_add 1 = .ok (.getfield 15, 3) := by decide +kernel
theorem dX1_add_4 : decode cX1_add 4 = .ok (.aload_n 0, 1) := by decide +kernel
theorem dX1_add_5 : decode cX1_add 5 = .ok (.getfield 9, 3) := by decide +kernel
theorem dX1_add_8 : decode cX1_add 8 = .ok (.arraylength, 1) := by decide +kernel
theorem dX1_add_9 : decode cX1_add 9 = .ok (.if_icmp .ge 23, 3) := by decide +kernel
theorem dX1_add_12 : decode cX1_add 12 = .ok (.aload_n 0, 1) := by decide +kernel
theorem dX1_add_13 : decode cX1_add 13 = .ok (.getfield 9, 3) := by decide +kernel
theorem dX1_add_16 : decode cX1_add 16 = .ok (.aload_n 0, 1) := by decide +kernel
theorem dX1_add_17 : decode cX1_add 17 = .ok (.getfield 15, 3) := by decide +kernel
theorem dX1_add_20 : decode cX1_add 20 = .ok (.iload_n 1, 1) := by decide +kernel
theorem dX1_add_21 : decode cX1_add 21 = .ok (.iastore, 1) := by decide +kernel
theorem dX1_add_22 : decode cX1_add 22 = .ok (.aload_n 0, 1) := by decide +kernel
theorem dX1_add_23 : decode cX1_add 23 = .ok (.dup, 1) := by decide +kernel
theorem dX1_add_24 : decode cX1_add 24 = .ok (.getfield 15, 3) := by decide +kernel
theorem dX1_add_27 : decode cX1_add 27 = .ok (.iconst 1, 1) := by decide +kernel
theorem dX1_add_28 : decode cX1_add 28 = .ok (.iadd, 1) := by decide +kernel
theorem dX1_add_29 : decode cX1_add 29 = .ok (.putfield 15, 3) := by decide +kernel
theorem dX1_add_32 : decode cX1_add 32 = .ok (.return_, 1) := by decide +kernel
theorem dX1_clear_0 : decode cX1_clear 0 = .ok (.aload_n 0, 1) := by decide +kernel
theorem dX1_clear_1 : decode cX1_clear 1 = .ok (.iconst 0, 1) := by decide +kernel
theorem dX1_clear_2 : decode cX1_clear 2 = .ok (.putfield 15, 3) := by decide +kernel
theorem dX1_clear_5 : decode cX1_clear 5 = .ok (.return_, 1) := by decide +kernel
theorem dX1_readInto_0 : decode cX1_readInto 0 = .ok (.aload_n 0, 1) := by decide +kernel
theorem dX1_readInto_1 : decode cX1_readInto 1 = .ok (.aload_n 1, 1) := by decide +kernel
theorem dX1_readInto_2 : decode cX1_readInto 2 = .ok (.putfield 34, 3) := by decide +kernel
theorem dX1_readInto_5 : decode cX1_readInto 5 = .ok (.aload_n 0, 1) := by decide +kernel
theorem dX1_readInto_6 : decode cX1_readInto 6 = .ok (.getfield 34, 3) := by decide +kernel
theorem dX1_readInto_9 : decode cX1_readInto 9 = .ok (.iconst 0, 1) := by decide +kernel
theorem dX1_readInto_10 : decode cX1_readInto 10 = .ok (.putfield 38, 3) := by decide +kernel
theorem dX1_readInto_13 : decode cX1_readInto 13 = .ok (.aload_n 0, 1) := by decide +kernel
theorem dX1_readInto_14 : decode cX1_readInto 14 = .ok (.iconst 0, 1) := by decide +kernel
theorem dX1_readInto_15 : decode cX1_readInto 15 = .ok (.putfield 22, 3) := by decide +kernel
theorem dX1_readInto_18 : decode cX1_readInto 18 = .ok (.aload_n 0, 1) := by decide +kernel
theorem dX1_readInto_19 : decode cX1_readInto 19 = .ok (.invokevirtual 39, 3) := by decide +kernel
theorem dX1_readInto_22 : decode cX1_readInto 22 = .ok (.iconst 0, 1) := by decide +kernel
theorem dX1_readInto_23 : decode cX1_readInto 23 = .ok (.istore_n 2, 1) := by decide +kernel
theorem dX1_readInto_24 : decode cX1_readInto 24 = .ok (.iload_n 2, 1) := by decide +kernel
theorem dX1_readInto_25 : decode cX1_readInto 25 = .ok (.iconst 3, 1) := by decide +kernel
theorem dX1_readInto_26 : decode cX1_readInto 26 = .ok (.if_icmp .ge 50, 3) := by decide +kernel
theorem dX1_readInto_29 : decode cX1_readInto 29 = .ok (.aload_n 0, 1) := by decide +kernel
theorem dX1_readInto_30 : decode cX1_readInto 30 = .ok (.bipush 106, 2) := by decide +kernel
theorem dX1_readInto_32 : decode cX1_readInto 32 = .ok (.iload_n 2, 1) := by decide +kernel
theorem dX1_readInto_33 : decode cX1_readInto 33 = .ok (.iadd, 1) := by decide +kernel
theorem dX1_readInto_34 : decode cX1_readInto 34 = .ok (.invokevirtual 42, 3) := by decide +kernel
theorem dX1_readInto_37 : decode cX1_readInto 37 = .ok (.ifCond .eq 20, 3) := by decide +kernel
theorem dX1_readInto_40 : decode cX1_readInto 40 = .ok (.aload_n 0, 1) := by decide +kernel
theorem dX1_readInto_41 : decode cX1_readInto 41 = .ok (.iconst 0, 1) := by decide +kernel
theorem dX1_readInto_42 : decode cX1_readInto 42 = .ok (.invokevirtual 46, 3) := by decide +kernel
theorem dX1_readInto_45 : decode cX1_readInto 45 = .ok (.ifCond .eq 12, 3) := by decide +kernel
theorem dX1_readInto_48 : decode cX1_readInto 48 = .ok (.aload_n 0, 1) := by decide +kernel
theorem dX1_readInto_49 : decode cX1_readInto 49 = .ok (.bipush 59, 2) := by decide +kernel
theorem dX1_readInto_51 : decode cX1_readInto 51 = .ok (.invokevirtual 42, 3) := by decide +kernel
theorem dX1_readInto_54 : decode cX1_readInto 54 = .ok (.ifCond .ne 8, 3) := by decide +kernel
theorem dX1_readInto_57 : decode cX1_readInto 57 = .ok (.aload_n 0, 1) := by decide +kernel
theorem dX1_readInto_58 : decode cX1_readInto 58 = .ok (.getfield 19, 3) := by decide +kernel
theorem dX1_readInto_61 : decode cX1_readInto 61 = .ok (.ireturn, 1) := by decide +kernel
theorem dX1_readInto_62 : decode cX1_readInto 62 = .ok (.aload_n 0, 1) := by decide +kernel
theorem dX1_readInto_63 : decode cX1_readInto 63 = .ok (.getfield 34, 3) := by decide +kernel
theorem dX1_readInto_66 : decode cX1_readInto 66 = .ok (.iload_n 2, 1) := by decide +kernel
theorem dX1_readInto_67 : decode cX1_readInto 67 = .ok (.invokevirtual 49, 3) := by decide +kernel
theorem dX1_readInto_70 : decode cX1_readInto 70 = .ok (.iinc 2 1, 3) := by decide +kernel
theorem dX1_readInto_73 : decode cX1_readInto 73 = .ok (.goto (-49), 3) := by decide +kernel
theorem dX1_readInto_76 : decode cX1_readInto 76 = .ok (.aload_n 0, 1) := by decide +kernel
theorem dX1_readInto_77 : decode cX1_readInto 77 = .ok (.getfield 25, 3) := by decide +kernel
theorem dX1_readInto_80 : decode cX1_readInto 80 = .ok (.iconst (-1), 1) := by decide +kernel
theorem dX1_readInto_81 : decode cX1_readInto 81 = .ok (.if_icmp .ne 7, 3) := by decide +kernel
theorem dX1_readInto_84 : decode cX1_readInto 84 = .ok (.iconst (-1), 1) := by decide +kernel
theorem dX1_readInto_85 : decode cX1_readInto 85 = .ok (.goto 7, 3) := by decide +kernel
theorem dX1_readInto_88 : decode cX1_readInto 88 = .ok (.aload_n 0, 1) := by decide +kernel
theorem dX1_readInto_89 : decode cX1_readInto 89 = .ok (.getfield 19, 3) := by decide +kernel
theorem dX1_readInto_92 : decode cX1_readInto 92 = .ok (.ireturn, 1) := by decide +kernel
theorem dX1_takes_0 : decode cX1_takes 0 = .ok (.aload_n 0, 1) := by decide +kernel
theorem dX1_takes_1 : decode cX1_takes 1 = .ok (.getfield 25, 3) := by decide +kernel
theorem dX1_takes_4 : decode cX1_takes 4 = .ok (.iload_n 1, 1) := by decide +kernel
theorem dX1_takes_5 : decode cX1_takes 5 = .ok (.if_icmp .eq 5, 3) := by decide +kernel
theorem dX1_takes_8 : decode cX1_takes 8 = .ok (.iconst 0, 1) := by decide +kernel
theorem dX1_takes_9 : decode cX1_takes 9 = .ok (.ireturn, 1) := by decide +kernel
theorem dX1_takes_10 : decode cX1_takes 10 = .ok (.aload_n 0, 1) := by decide +kernel
theorem dX1_takes_11 : decode cX1_takes 11 = .ok (.invokevirtual 39, 3) := by decide +kernel
theorem dX1_takes_14 : decode cX1_takes 14 = .ok (.iconst 1, 1) := by decide +kernel
theorem dX1_takes_15 : decode cX1_takes 15 = .ok (.ireturn, 1) := by decide +kernel
theorem dX1_any_0 : decode cX1_any 0 = .ok (.aload_n 0, 1) := by decide +kernel
theorem dX1_any_1 : decode cX1_any 1 = .ok (.iload_n 1, 1) := by decide +kernel
theorem dX1_any_2 : decode cX1_any 2 = .ok (.invokevirtual 53, 3) := by decide +kernel
theorem dX1_any_5 : decode cX1_any 5 = .ok (.ifCond .ne 5, 3) := by decide +kernel
theorem dX1_any_8 : decode cX1_any 8 = .ok (.iconst 0, 1) := by decide +kernel
theorem dX1_any_9 : decode cX1_any 9 = .ok (.ireturn, 1) := by decide +kernel
theorem dX1_any_10 : decode cX1_any 10 = .ok (.iconst 0, 1) := by decide +kernel
theorem dX1_any_11 : decode cX1_any 11 = .ok (.istore_n 2, 1) := by decide +kernel
theorem dX1_any_12 : decode cX1_any 12 = .ok (.iload_n 2, 1) := by decide +kernel
theorem dX1_any_13 : decode cX1_any 13 = .ok (.sipush 160, 3) := by decide +kernel
theorem dX1_any_16 : decode cX1_any 16 = .ok (.if_icmp .ge 41, 3) := by decide +kernel
theorem dX1_any_19 : decode cX1_any 19 = .ok (.aload_n 0, 1) := by decide +kernel
theorem dX1_any_20 : decode cX1_any 20 = .ok (.getfield 25, 3) := by decide +kernel
theorem dX1_any_23 : decode cX1_any 23 = .ok (.bipush 109, 2) := by decide +kernel
theorem dX1_any_25 : decode cX1_any 25 = .ok (.if_icmp .ne 32, 3) := by decide +kernel
theorem dX1_any_28 : decode cX1_any 28 = .ok (.aload_n 0, 1) := by decide +kernel
theorem dX1_any_29 : decode cX1_any 29 = .ok (.invokevirtual 39, 3) := by decide +kernel
theorem dX1_any_32 : decode cX1_any 32 = .ok (.aload_n 0, 1) := by decide +kernel
theorem dX1_any_33 : decode cX1_any 33 = .ok (.iload_n 1, 1) := by decide +kernel
theorem dX1_any_34 : decode cX1_any 34 = .ok (.invokevirtual 53, 3) := by decide +kernel
theorem dX1_any_37 : decode cX1_any 37 = .ok (.ifCond .ne 5, 3) := by decide +kernel
theorem dX1_any_40 : decode cX1_any 40 = .ok (.iconst 0, 1) := by decide +kernel
theorem dX1_any_41 : decode cX1_any 41 = .ok (.ireturn, 1) := by decide +kernel
theorem dX1_any_42 : decode cX1_any 42 = .ok (.aload_n 0, 1) := by decide +kernel
theorem dX1_any_43 : decode cX1_any 43 = .ok (.getfield 34, 3) := by decide +kernel
theorem dX1_any_46 : decode cX1_any 46 = .ok (.bipush (-109), 2) := by decide +kernel
theorem dX1_any_48 : decode cX1_any 48 = .ok (.invokevirtual 56, 3) := by decide +kernel
theorem dX1_any_51 : decode cX1_any 51 = .ok (.iinc 2 1, 3) := by decide +kernel
theorem dX1_any_54 : decode cX1_any 54 = .ok (.goto (-42), 3) := by decide +kernel
theorem dX1_any_57 : decode cX1_any 57 = .ok (.iconst 1, 1) := by decide +kernel
theorem dX1_any_58 : decode cX1_any 58 = .ok (.ireturn, 1) := by decide +kernel
theorem dX1_all_0 : decode cX1_all 0 = .ok (.aload_n 0, 1) := by decide +kernel
theorem dX1_all_1 : decode cX1_all 1 = .ok (.iload_n 1, 1) := by decide +kernel
theorem dX1_all_2 : decode cX1_all 2 = .ok (.invokevirtual 59, 3) := by decide +kernel
theorem dX1_all_5 : decode cX1_all 5 = .ok (.ifCond .ne 5, 3) := by decide +kernel
theorem dX1_all_8 : decode cX1_all 8 = .ok (.iconst 0, 1) := by decide +kernel
theorem dX1_all_9 : decode cX1_all 9 = .ok (.ireturn, 1) := by decide +kernel
theorem dX1_all_10 : decode cX1_all 10 = .ok (.iconst 0, 1) := by decide +kernel
theorem dX1_all_11 : decode cX1_all 11 = .ok (.istore_n 2, 1) := by decide +kernel
theorem dX1_all_12 : decode cX1_all 12 = .ok (.iload_n 2, 1) := by decide +kernel
theorem dX1_all_13 : decode cX1_all 13 = .ok (.sipush 160, 3) := by decide +kernel
theorem dX1_all_16 : decode cX1_all 16 = .ok (.if_icmp .ge 41, 3) := by decide +kernel
theorem dX1_all_19 : decode cX1_all 19 = .ok (.aload_n 0, 1) := by decide +kernel
theorem dX1_all_20 : decode cX1_all 20 = .ok (.getfield 25, 3) := by decide +kernel
theorem dX1_all_23 : decode cX1_all 23 = .ok (.bipush 110, 2) := by decide +kernel
theorem dX1_all_25 : decode cX1_all 25 = .ok (.if_icmp .ne 32, 3) := by decide +kernel
theorem dX1_all_28 : decode cX1_all 28 = .ok (.aload_n 0, 1) := by decide +kernel
theorem dX1_all_29 : decode cX1_all 29 = .ok (.invokevirtual 39, 3) := by decide +kernel
theorem dX1_all_32 : decode cX1_all 32 = .ok (.aload_n 0, 1) := by decide +kernel
theorem dX1_all_33 : decode cX1_all 33 = .ok (.iload_n 1, 1) := by decide +kernel
theorem dX1_all_34 : decode cX1_all 34 = .ok (.invokevirtual 59, 3) := by decide +kernel
theorem dX1_all_37 : decode cX1_all 37 = .ok (.ifCond .ne 5, 3) := by decide +kernel
theorem dX1_all_40 : decode cX1_all 40 = .ok (.iconst 0, 1) := by decide +kernel
theorem dX1_all_41 : decode cX1_all 41 = .ok (.ireturn, 1) := by decide +kernel
theorem dX1_all_42 : decode cX1_all 42 = .ok (.aload_n 0, 1) := by decide +kernel
theorem dX1_all_43 : decode cX1_all 43 = .ok (.getfield 34, 3) := by decide +kernel
theorem dX1_all_46 : decode cX1_all 46 = .ok (.bipush (-110), 2) := by decide +kernel
theorem dX1_all_48 : decode cX1_all 48 = .ok (.invokevirtual 56, 3) := by decide +kernel
theorem dX1_all_51 : decode cX1_all 51 = .ok (.iinc 2 1, 3) := by decide +kernel
theorem dX1_all_54 : decode cX1_all 54 = .ok (.goto (-42), 3) := by decide +kernel
theorem dX1_all_57 : decode cX1_all 57 = .ok (.iconst 1, 1) := by decide +kernel
theorem dX1_all_58 : decode cX1_all 58 = .ok (.ireturn, 1) := by decide +kernel
theorem dX1_truth_0 : decode cX1_truth 0 = .ok (.aload_n 0, 1) := by decide +kernel
theorem dX1_truth_1 : decode cX1_truth 1 = .ok (.getfield 25, 3) := by decide +kernel
theorem dX1_truth_4 : decode cX1_truth 4 = .ok (.bipush 111, 2) := by decide +kernel
theorem dX1_truth_6 : decode cX1_truth 6 = .ok (.if_icmp .ne 34, 3) := by decide +kernel
theorem dX1_truth_9 : decode cX1_truth 9 = .ok (.aload_n 0, 1) := by decide +kernel
theorem dX1_truth_10 : decode cX1_truth 10 = .ok (.iload_n 1, 1) := by decide +kernel
theorem dX1_truth_11 : decode cX1_truth 11 = .ok (.invokevirtual 62, 3) := by decide +kernel
theorem dX1_truth_14 : decode cX1_truth 14 = .ok (.ifCond .eq 13, 3) := by decide +kernel
theorem dX1_truth_17 : decode cX1_truth 17 = .ok (.aload_n 0, 1) := by decide +kernel
theorem dX1_truth_18 : decode cX1_truth 18 = .ok (.iload_n 1, 1) := by decide +kernel
theorem dX1_truth_19 : decode cX1_truth 19 = .ok (.iconst 1, 1) := by decide +kernel
theorem dX1_truth_20 : decode cX1_truth 20 = .ok (.iadd, 1) := by decide +kernel
theorem dX1_truth_21 : decode cX1_truth 21 = .ok (.invokevirtual 59, 3) := by decide +kernel
theorem dX1_truth_24 : decode cX1_truth 24 = .ok (.ifCond .ne 5, 3) := by decide +kernel
theorem dX1_truth_27 : decode cX1_truth 27 = .ok (.iconst 0, 1) := by decide +kernel
theorem dX1_truth_28 : decode cX1_truth 28 = .ok (.ireturn, 1) := by decide +kernel
theorem dX1_truth_29 : decode cX1_truth 29 = .ok (.aload_n 0, 1) := by decide +kernel
theorem dX1_truth_30 : decode cX1_truth 30 = .ok (.getfield 34, 3) := by decide +kernel
theorem dX1_truth_33 : decode cX1_truth 33 = .ok (.bipush (-111), 2) := by decide +kernel
theorem dX1_truth_35 : decode cX1_truth 35 = .ok (.invokevirtual 56, 3) := by decide +kernel
theorem dX1_truth_38 : decode cX1_truth 38 = .ok (.iconst 1, 1) := by decide +kernel
theorem dX1_truth_39 : decode cX1_truth 39 = .ok (.ireturn, 1) := by decide +kernel
theorem dX1_truth_40 : decode cX1_truth 40 = .ok (.aload_n 0, 1) := by decide +kernel
theorem dX1_truth_41 : decode cX1_truth 41 = .ok (.iload_n 1, 1) := by decide +kernel
theorem dX1_truth_42 : decode cX1_truth 42 = .ok (.invokevirtual 65, 3) := by decide +kernel
theorem dX1_truth_45 : decode cX1_truth 45 = .ok (.ifCond .ne 5, 3) := by decide +kernel
theorem dX1_truth_48 : decode cX1_truth 48 = .ok (.iconst 0, 1) := by decide +kernel
theorem dX1_truth_49 : decode cX1_truth 49 = .ok (.ireturn, 1) := by decide +kernel
theorem dX1_truth_50 : decode cX1_truth 50 = .ok (.aload_n 0, 1) := by decide +kernel
theorem dX1_truth_51 : decode cX1_truth 51 = .ok (.getfield 25, 3) := by decide +kernel
theorem dX1_truth_54 : decode cX1_truth 54 = .ok (.bipush 60, 2) := by decide +kernel
theorem dX1_truth_56 : decode cX1_truth 56 = .ok (.if_icmp .eq 14, 3) := by decide +kernel
theorem dX1_truth_59 : decode cX1_truth 59 = .ok (.aload_n 0, 1) := by decide +kernel
theorem dX1_truth_60 : decode cX1_truth 60 = .ok (.getfield 25, 3) := by decide +kernel
theorem dX1_truth_63 : decode cX1_truth 63 = .ok (.bipush 61, 2) := by decide +kernel
theorem dX1_truth_65 : decode cX1_truth 65 = .ok (.if_icmp .eq 5, 3) := by decide +kernel
theorem dX1_truth_68 : decode cX1_truth 68 = .ok (.iconst 1, 1) := by decide +kernel
theorem dX1_truth_69 : decode cX1_truth 69 = .ok (.ireturn, 1) := by decide +kernel
theorem dX1_truth_70 : decode cX1_truth 70 = .ok (.aload_n 0, 1) := by decide +kernel
theorem dX1_truth_71 : decode cX1_truth 71 = .ok (.getfield 25, 3) := by decide +kernel
theorem dX1_truth_74 : decode cX1_truth 74 = .ok (.istore_n 2, 1) := by decide +kernel
theorem dX1_truth_75 : decode cX1_truth 75 = .ok (.aload_n 0, 1) := by decide +kernel
theorem dX1_truth_76 : decode cX1_truth 76 = .ok (.invokevirtual 39, 3) := by decide +kernel
theorem dX1_truth_79 : decode cX1_truth 79 = .ok (.aload_n 0, 1) := by decide +kernel
theorem dX1_truth_80 : decode cX1_truth 80 = .ok (.iload_n 1, 1) := by decide +kernel
theorem dX1_truth_81 : decode cX1_truth 81 = .ok (.invokevirtual 65, 3) := by decide +kernel
theorem dX1_truth_84 : decode cX1_truth 84 = .ok (.ifCond .ne 5, 3) := by decide +kernel
theorem dX1_truth_87 : decode cX1_truth 87 = .ok (.iconst 0, 1) := by decide +kernel
theorem dX1_truth_88 : decode cX1_truth 88 = .ok (.ireturn, 1) := by decide +kernel
theorem dX1_truth_89 : decode cX1_truth 89 = .ok (.aload_n 0, 1) := by decide +kernel
theorem dX1_truth_90 : decode cX1_truth 90 = .ok (.getfield 34, 3) := by decide +kernel
theorem dX1_truth_93 : decode cX1_truth 93 = .ok (.iload_n 2, 1) := by decide +kernel
theorem dX1_truth_94 : decode cX1_truth 94 = .ok (.ineg, 1) := by decide +kernel
theorem dX1_truth_95 : decode cX1_truth 95 = .ok (.invokevirtual 56, 3) := by decide +kernel
theorem dX1_truth_98 : decode cX1_truth 98 = .ok (.iconst 1, 1) := by decide +kernel
theorem dX1_truth_99 : decode cX1_truth 99 = .ok (.ireturn, 1) := by decide +kernel
theorem dX1_sum_0 : decode cX1_sum 0 = .ok (.aload_n 0, 1) := by decide +kernel
theorem dX1_sum_1 : decode cX1_sum 1 = .ok (.iload_n 1, 1) := by decide +kernel
theorem dX1_sum_2 : decode cX1_sum 2 = .ok (.invokevirtual 68, 3) := by decide +kernel
theorem dX1_sum_5 : decode cX1_sum 5 = .ok (.ifCond .ne 5, 3) := by decide +kernel
theorem dX1_sum_8 : decode cX1_sum 8 = .ok (.iconst 0, 1) := by decide +kernel
theorem dX1_sum_9 : decode cX1_sum 9 = .ok (.ireturn, 1) := by decide +kernel
theorem dX1_sum_10 : decode cX1_sum 10 = .ok (.iconst 0, 1) := by decide +kernel
theorem dX1_sum_11 : decode cX1_sum 11 = .ok (.istore_n 2, 1) := by decide +kernel
theorem dX1_sum_12 : decode cX1_sum 12 = .ok (.iload_n 2, 1) := by decide +kernel
theorem dX1_sum_13 : decode cX1_sum 13 = .ok (.sipush 160, 3) := by decide +kernel
theorem dX1_sum_16 : decode cX1_sum 16 = .ok (.if_icmp .ge 55, 3) := by decide +kernel
theorem dX1_sum_19 : decode cX1_sum 19 = .ok (.aload_n 0, 1) := by decide +kernel
theorem dX1_sum_20 : decode cX1_sum 20 = .ok (.getfield 25, 3) := by decide +kernel
theorem dX1_sum_23 : decode cX1_sum 23 = .ok (.bipush 43, 2) := by decide +kernel
theorem dX1_sum_25 : decode cX1_sum 25 = .ok (.if_icmp .eq 12, 3) := by decide +kernel
theorem dX1_sum_28 : decode cX1_sum 28 = .ok (.aload_n 0, 1) := by decide +kernel
theorem dX1_sum_29 : decode cX1_sum 29 = .ok (.getfield 25, 3) := by decide +kernel
theorem dX1_sum_32 : decode cX1_sum 32 = .ok (.bipush 45, 2) := by decide +kernel
theorem dX1_sum_34 : decode cX1_sum 34 = .ok (.if_icmp .ne 37, 3) := by decide +kernel
theorem dX1_sum_37 : decode cX1_sum 37 = .ok (.aload_n 0, 1) := by decide +kernel
theorem dX1_sum_38 : decode cX1_sum 38 = .ok (.getfield 25, 3) := by decide +kernel
theorem dX1_sum_41 : decode cX1_sum 41 = .ok (.istore_n 3, 1) := by decide +kernel
theorem dX1_sum_42 : decode cX1_sum 42 = .ok (.aload_n 0, 1) := by decide +kernel
theorem dX1_sum_43 : decode cX1_sum 43 = .ok (.invokevirtual 39, 3) := by decide +kernel
theorem dX1_sum_46 : decode cX1_sum 46 = .ok (.aload_n 0, 1) := by decide +kernel
theorem dX1_sum_47 : decode cX1_sum 47 = .ok (.iload_n 1, 1) := by decide +kernel
theorem dX1_sum_48 : decode cX1_sum 48 = .ok (.invokevirtual 68, 3) := by decide +kernel
theorem dX1_sum_51 : decode cX1_sum 51 = .ok (.ifCond .ne 5, 3) := by decide +kernel
theorem dX1_sum_54 : decode cX1_sum 54 = .ok (.iconst 0, 1) := by decide +kernel
theorem dX1_sum_55 : decode cX1_sum 55 = .ok (.ireturn, 1) := by decide +kernel
theorem dX1_sum_56 : decode cX1_sum 56 = .ok (.aload_n 0, 1) := by decide +kernel
theorem dX1_sum_57 : decode cX1_sum 57 = .ok (.getfield 34, 3) := by decide +kernel
theorem dX1_sum_60 : decode cX1_sum 60 = .ok (.iload_n 3, 1) := by decide +kernel
theorem dX1_sum_61 : decode cX1_sum 61 = .ok (.ineg, 1) := by decide +kernel
theorem dX1_sum_62 : decode cX1_sum 62 = .ok (.invokevirtual 56, 3) := by decide +kernel
theorem dX1_sum_65 : decode cX1_sum 65 = .ok (.iinc 2 1, 3) := by decide +kernel
theorem dX1_sum_68 : decode cX1_sum 68 = .ok (.goto (-56), 3) := by decide +kernel
theorem dX1_sum_71 : decode cX1_sum 71 = .ok (.iconst 1, 1) := by decide +kernel
theorem dX1_sum_72 : decode cX1_sum 72 = .ok (.ireturn, 1) := by decide +kernel
theorem dX1_term_0 : decode cX1_term 0 = .ok (.aload_n 0, 1) := by decide +kernel
theorem dX1_term_1 : decode cX1_term 1 = .ok (.iload_n 1, 1) := by decide +kernel
theorem dX1_term_2 : decode cX1_term 2 = .ok (.invokevirtual 71, 3) := by decide +kernel
theorem dX1_term_5 : decode cX1_term 5 = .ok (.ifCond .ne 5, 3) := by decide +kernel
theorem dX1_term_8 : decode cX1_term 8 = .ok (.iconst 0, 1) := by decide +kernel
theorem dX1_term_9 : decode cX1_term 9 = .ok (.ireturn, 1) := by decide +kernel
theorem dX1_term_10 : decode cX1_term 10 = .ok (.iconst 0, 1) := by decide +kernel
theorem dX1_term_11 : decode cX1_term 11 = .ok (.istore_n 2, 1) := by decide +kernel
theorem dX1_term_12 : decode cX1_term 12 = .ok (.iload_n 2, 1) := by decide +kernel
theorem dX1_term_13 : decode cX1_term 13 = .ok (.sipush 160, 3) := by decide +kernel
theorem dX1_term_16 : decode cX1_term 16 = .ok (.if_icmp .ge 41, 3) := by decide +kernel
theorem dX1_term_19 : decode cX1_term 19 = .ok (.aload_n 0, 1) := by decide +kernel
theorem dX1_term_20 : decode cX1_term 20 = .ok (.getfield 25, 3) := by decide +kernel
theorem dX1_term_23 : decode cX1_term 23 = .ok (.bipush 42, 2) := by decide +kernel
theorem dX1_term_25 : decode cX1_term 25 = .ok (.if_icmp .ne 32, 3) := by decide +kernel
theorem dX1_term_28 : decode cX1_term 28 = .ok (.aload_n 0, 1) := by decide +kernel
theorem dX1_term_29 : decode cX1_term 29 = .ok (.invokevirtual 39, 3) := by decide +kernel
theorem dX1_term_32 : decode cX1_term 32 = .ok (.aload_n 0, 1) := by decide +kernel
theorem dX1_term_33 : decode cX1_term 33 = .ok (.iload_n 1, 1) := by decide +kernel
theorem dX1_term_34 : decode cX1_term 34 = .ok (.invokevirtual 71, 3) := by decide +kernel
theorem dX1_term_37 : decode cX1_term 37 = .ok (.ifCond .ne 5, 3) := by decide +kernel
theorem dX1_term_40 : decode cX1_term 40 = .ok (.iconst 0, 1) := by decide +kernel
theorem dX1_term_41 : decode cX1_term 41 = .ok (.ireturn, 1) := by decide +kernel
theorem dX1_term_42 : decode cX1_term 42 = .ok (.aload_n 0, 1) := by decide +kernel
theorem dX1_term_43 : decode cX1_term 43 = .ok (.getfield 34, 3) := by decide +kernel
theorem dX1_term_46 : decode cX1_term 46 = .ok (.bipush (-42), 2) := by decide +kernel
theorem dX1_term_48 : decode cX1_term 48 = .ok (.invokevirtual 56, 3) := by decide +kernel
theorem dX1_term_51 : decode cX1_term 51 = .ok (.iinc 2 1, 3) := by decide +kernel
theorem dX1_term_54 : decode cX1_term 54 = .ok (.goto (-42), 3) := by decide +kernel
theorem dX1_term_57 : decode cX1_term 57 = .ok (.iconst 1, 1) := by decide +kernel
theorem dX1_term_58 : decode cX1_term 58 = .ok (.ireturn, 1) := by decide +kernel
theorem dX1_one_0 : decode cX1_one 0 = .ok (.aload_n 0, 1) := by decide +kernel
theorem dX1_one_1 : decode cX1_one 1 = .ok (.getfield 25, 3) := by decide +kernel
theorem dX1_one_4 : decode cX1_one 4 = .ok (.iconst 1, 1) := by decide +kernel
theorem dX1_one_5 : decode cX1_one 5 = .ok (.if_icmp .ne 20, 3) := by decide +kernel
theorem dX1_one_8 : decode cX1_one 8 = .ok (.aload_n 0, 1) := by decide +kernel
theorem dX1_one_9 : decode cX1_one 9 = .ok (.getfield 34, 3) := by decide +kernel
theorem dX1_one_12 : decode cX1_one 12 = .ok (.aload_n 0, 1) := by decide +kernel
theorem dX1_one_13 : decode cX1_one 13 = .ok (.getfield 28, 3) := by decide +kernel
theorem dX1_one_16 : decode cX1_one 16 = .ok (.invokevirtual 56, 3) := by decide +kernel
theorem dX1_one_19 : decode cX1_one 19 = .ok (.aload_n 0, 1) := by decide +kernel
theorem dX1_one_20 : decode cX1_one 20 = .ok (.invokevirtual 39, 3) := by decide +kernel
theorem dX1_one_23 : decode cX1_one 23 = .ok (.iconst 1, 1) := by decide +kernel
theorem dX1_one_24 : decode cX1_one 24 = .ok (.ireturn, 1) := by decide +kernel
theorem dX1_one_25 : decode cX1_one 25 = .ok (.aload_n 0, 1) := by decide +kernel
theorem dX1_one_26 : decode cX1_one 26 = .ok (.getfield 25, 3) := by decide +kernel
theorem dX1_one_29 : decode cX1_one 29 = .ok (.bipush 100, 2) := by decide +kernel
theorem dX1_one_31 : decode cX1_one 31 = .ok (.if_icmp .lt 30, 3) := by decide +kernel
theorem dX1_one_34 : decode cX1_one 34 = .ok (.aload_n 0, 1) := by decide +kernel
theorem dX1_one_35 : decode cX1_one 35 = .ok (.getfield 25, 3) := by decide +kernel
theorem dX1_one_38 : decode cX1_one 38 = .ok (.bipush 106, 2) := by decide +kernel
theorem dX1_one_40 : decode cX1_one 40 = .ok (.if_icmp .ge 21, 3) := by decide +kernel
theorem dX1_one_43 : decode cX1_one 43 = .ok (.aload_n 0, 1) := by decide +kernel
theorem dX1_one_44 : decode cX1_one 44 = .ok (.getfield 34, 3) := by decide +kernel
theorem dX1_one_47 : decode cX1_one 47 = .ok (.aload_n 0, 1) := by decide +kernel
theorem dX1_one_48 : decode cX1_one 48 = .ok (.getfield 25, 3) := by decide +kernel
theorem dX1_one_51 : decode cX1_one 51 = .ok (.ineg, 1) := by decide +kernel
theorem dX1_one_52 : decode cX1_one 52 = .ok (.invokevirtual 56, 3) := by decide +kernel
theorem dX1_one_55 : decode cX1_one 55 = .ok (.aload_n 0, 1) := by decide +kernel
theorem dX1_one_56 : decode cX1_one 56 = .ok (.invokevirtual 39, 3) := by decide +kernel
theorem dX1_one_59 : decode cX1_one 59 = .ok (.iconst 1, 1) := by decide +kernel
theorem dX1_one_60 : decode cX1_one 60 = .ok (.ireturn, 1) := by decide +kernel
theorem dX1_one_61 : decode cX1_one 61 = .ok (.aload_n 0, 1) := by decide +kernel
theorem dX1_one_62 : decode cX1_one 62 = .ok (.getfield 25, 3) := by decide +kernel
theorem dX1_one_65 : decode cX1_one 65 = .ok (.bipush 45, 2) := by decide +kernel
theorem dX1_one_67 : decode cX1_one 67 = .ok (.if_icmp .ne 33, 3) := by decide +kernel
theorem dX1_one_70 : decode cX1_one 70 = .ok (.aload_n 0, 1) := by decide +kernel
theorem dX1_one_71 : decode cX1_one 71 = .ok (.iload_n 1, 1) := by decide +kernel
theorem dX1_one_72 : decode cX1_one 72 = .ok (.invokevirtual 62, 3) := by decide +kernel
theorem dX1_one_75 : decode cX1_one 75 = .ok (.ifCond .eq 13, 3) := by decide +kernel
theorem dX1_one_78 : decode cX1_one 78 = .ok (.aload_n 0, 1) := by decide +kernel
theorem dX1_one_79 : decode cX1_one 79 = .ok (.iload_n 1, 1) := by decide +kernel
theorem dX1_one_80 : decode cX1_one 80 = .ok (.iconst 1, 1) := by decide +kernel
theorem dX1_one_81 : decode cX1_one 81 = .ok (.iadd, 1) := by decide +kernel
theorem dX1_one_82 : decode cX1_one 82 = .ok (.invokevirtual 71, 3) := by decide +kernel
theorem dX1_one_85 : decode cX1_one 85 = .ok (.ifCond .ne 5, 3) := by decide +kernel
theorem dX1_one_88 : decode cX1_one 88 = .ok (.iconst 0, 1) := by decide +kernel
theorem dX1_one_89 : decode cX1_one 89 = .ok (.ireturn, 1) := by decide +kernel
theorem dX1_one_90 : decode cX1_one 90 = .ok (.aload_n 0, 1) := by decide +kernel
theorem dX1_one_91 : decode cX1_one 91 = .ok (.getfield 34, 3) := by decide +kernel
theorem dX1_one_94 : decode cX1_one 94 = .ok (.iconst (-1), 1) := by decide +kernel
theorem dX1_one_95 : decode cX1_one 95 = .ok (.invokevirtual 56, 3) := by decide +kernel
theorem dX1_one_98 : decode cX1_one 98 = .ok (.iconst 1, 1) := by decide +kernel
theorem dX1_one_99 : decode cX1_one 99 = .ok (.ireturn, 1) := by decide +kernel
theorem dX1_one_100 : decode cX1_one 100 = .ok (.aload_n 0, 1) := by decide +kernel
theorem dX1_one_101 : decode cX1_one 101 = .ok (.getfield 25, 3) := by decide +kernel
theorem dX1_one_104 : decode cX1_one 104 = .ok (.bipush 40, 2) := by decide +kernel
theorem dX1_one_106 : decode cX1_one 106 = .ok (.if_icmp .ne 34, 3) := by decide +kernel
theorem dX1_one_109 : decode cX1_one 109 = .ok (.aload_n 0, 1) := by decide +kernel
theorem dX1_one_110 : decode cX1_one 110 = .ok (.iload_n 1, 1) := by decide +kernel
theorem dX1_one_111 : decode cX1_one 111 = .ok (.invokevirtual 62, 3) := by decide +kernel
theorem dX1_one_114 : decode cX1_one 114 = .ok (.ifCond .eq 26, 3) := by decide +kernel
theorem dX1_one_117 : decode cX1_one 117 = .ok (.aload_n 0, 1) := by decide +kernel
theorem dX1_one_118 : decode cX1_one 118 = .ok (.iload_n 1, 1) := by decide +kernel
theorem dX1_one_119 : decode cX1_one 119 = .ok (.iconst 1, 1) := by decide +kernel
theorem dX1_one_120 : decode cX1_one 120 = .ok (.iadd, 1) := by decide +kernel
theorem dX1_one_121 : decode cX1_one 121 = .ok (.invokevirtual 46, 3) := by decide +kernel
theorem dX1_one_124 : decode cX1_one 124 = .ok (.ifCond .eq 16, 3) := by decide +kernel
theorem dX1_one_127 : decode cX1_one 127 = .ok (.aload_n 0, 1) := by decide +kernel
theorem dX1_one_128 : decode cX1_one 128 = .ok (.bipush 41, 2) := by decide +kernel
theorem dX1_one_130 : decode cX1_one 130 = .ok (.invokevirtual 42, 3) := by decide +kernel
theorem dX1_one_133 : decode cX1_one 133 = .ok (.ifCond .eq 7, 3) := by decide +kernel
theorem dX1_one_136 : decode cX1_one 136 = .ok (.iconst 1, 1) := by decide +kernel
theorem dX1_one_137 : decode cX1_one 137 = .ok (.goto 4, 3) := by decide +kernel
theorem dX1_one_140 : decode cX1_one 140 = .ok (.iconst 0, 1) := by decide +kernel
theorem dX1_one_141 : decode cX1_one 141 = .ok (.ireturn, 1) := by decide +kernel
theorem dX1_opens_0 : decode cX1_opens 0 = .ok (.iload_n 1, 1) := by decide +kernel
theorem dX1_opens_1 : decode cX1_opens 1 = .ok (.iconst 5, 1) := by decide +kernel
theorem dX1_opens_2 : decode cX1_opens 2 = .ok (.if_icmp .lt 5, 3) := by decide +kernel
theorem dX1_opens_5 : decode cX1_opens 5 = .ok (.iconst 0, 1) := by decide +kernel
theorem dX1_opens_6 : decode cX1_opens 6 = .ok (.ireturn, 1) := by decide +kernel
theorem dX1_opens_7 : decode cX1_opens 7 = .ok (.aload_n 0, 1) := by decide +kernel
theorem dX1_opens_8 : decode cX1_opens 8 = .ok (.invokevirtual 39, 3) := by decide +kernel
theorem dX1_opens_11 : decode cX1_opens 11 = .ok (.iconst 1, 1) := by decide +kernel
theorem dX1_opens_12 : decode cX1_opens 12 = .ok (.ireturn, 1) := by decide +kernel
theorem dX1_step_0 : decode cX1_step 0 = .ok (.aload_n 0, 1) := by decide +kernel
theorem dX1_step_1 : decode cX1_step 1 = .ok (.getfield 22, 3) := by decide +kernel
theorem dX1_step_4 : decode cX1_step 4 = .ok (.istore_n 1, 1) := by decide +kernel
theorem dX1_step_5 : decode cX1_step 5 = .ok (.iload_n 1, 1) := by decide +kernel
theorem dX1_step_6 : decode cX1_step 6 = .ok (.aload_n 0, 1) := by decide +kernel
theorem dX1_step_7 : decode cX1_step 7 = .ok (.getfield 15, 3) := by decide +kernel
theorem dX1_step_10 : decode cX1_step 10 = .ok (.if_icmp .ge 27, 3) := by decide +kernel
theorem dX1_step_13 : decode cX1_step 13 = .ok (.aload_n 0, 1) := by decide +kernel
theorem dX1_step_14 : decode cX1_step 14 = .ok (.iload_n 1, 1) := by decide +kernel
theorem dX1_step_15 : decode cX1_step 15 = .ok (.invokevirtual 74, 3) := by decide +kernel
theorem dX1_step_18 : decode cX1_step 18 = .ok (.invokestatic 78, 3) := by decide +kernel
theorem dX1_step_21 : decode cX1_step 21 = .ok (.ifCond .eq 16, 3) := by decide +kernel
theorem dX1_step_24 : decode cX1_step 24 = .ok (.aload_n 0, 1) := by decide +kernel
theorem dX1_step_25 : decode cX1_step 25 = .ok (.iload_n 1, 1) := by decide +kernel
theorem dX1_step_26 : decode cX1_step 26 = .ok (.iconst 1, 1) := by decide +kernel
theorem dX1_step_27 : decode cX1_step 27 = .ok (.iadd, 1) := by decide +kernel
theorem dX1_step_28 : decode cX1_step 28 = .ok (.putfield 22, 3) := by decide +kernel
theorem dX1_step_31 : decode cX1_step 31 = .ok (.iinc 1 1, 3) := by decide +kernel
theorem dX1_step_34 : decode cX1_step 34 = .ok (.goto (-29), 3) := by decide +kernel
theorem dX1_step_37 : decode cX1_step 37 = .ok (.aload_n 0, 1) := by decide +kernel
theorem dX1_step_38 : decode cX1_step 38 = .ok (.aload_n 0, 1) := by decide +kernel
theorem dX1_step_39 : decode cX1_step 39 = .ok (.getfield 22, 3) := by decide +kernel
theorem dX1_step_42 : decode cX1_step 42 = .ok (.putfield 19, 3) := by decide +kernel
theorem dX1_step_45 : decode cX1_step 45 = .ok (.aload_n 0, 1) := by decide +kernel
theorem dX1_step_46 : decode cX1_step 46 = .ok (.aload_n 0, 1) := by decide +kernel
theorem dX1_step_47 : decode cX1_step 47 = .ok (.getfield 19, 3) := by decide +kernel
theorem dX1_step_50 : decode cX1_step 50 = .ok (.invokevirtual 74, 3) := by decide +kernel
theorem dX1_step_53 : decode cX1_step 53 = .ok (.istore_n 1, 1) := by decide +kernel
theorem dX1_step_54 : decode cX1_step 54 = .ok (.aload_n 0, 1) := by decide +kernel
theorem dX1_step_55 : decode cX1_step 55 = .ok (.getfield 19, 3) := by decide +kernel
theorem dX1_step_58 : decode cX1_step 58 = .ok (.aload_n 0, 1) := by decide +kernel
theorem dX1_step_59 : decode cX1_step 59 = .ok (.getfield 15, 3) := by decide +kernel
theorem dX1_step_62 : decode cX1_step 62 = .ok (.if_icmp .lt 11, 3) := by decide +kernel
theorem dX1_step_65 : decode cX1_step 65 = .ok (.aload_n 0, 1) := by decide +kernel
theorem dX1_step_66 : decode cX1_step 66 = .ok (.iconst (-1), 1) := by decide +kernel
theorem dX1_step_67 : decode cX1_step 67 = .ok (.putfield 25, 3) := by decide +kernel
theorem dX1_step_70 : decode cX1_step 70 = .ok (.goto 61, 3) := by decide +kernel
theorem dX1_step_73 : decode cX1_step 73 = .ok (.iload_n 1, 1) := by decide +kernel
theorem dX1_step_74 : decode cX1_step 74 = .ok (.invokestatic 81, 3) := by decide +kernel
theorem dX1_step_77 : decode cX1_step 77 = .ok (.ifCond .eq 10, 3) := by decide +kernel
theorem dX1_step_80 : decode cX1_step 80 = .ok (.aload_n 0, 1) := by decide +kernel
theorem dX1_step_81 : decode cX1_step 81 = .ok (.invokevirtual 84, 3) := by decide +kernel
theorem dX1_step_84 : decode cX1_step 84 = .ok (.goto 47, 3) := by decide +kernel
theorem dX1_step_87 : decode cX1_step 87 = .ok (.iload_n 1, 1) := by decide +kernel
theorem dX1_step_88 : decode cX1_step 88 = .ok (.invokestatic 87, 3) := by decide +kernel
theorem dX1_step_91 : decode cX1_step 91 = .ok (.ifCond .eq 10, 3) := by decide +kernel
theorem dX1_step_94 : decode cX1_step 94 = .ok (.aload_n 0, 1) := by decide +kernel
theorem dX1_step_95 : decode cX1_step 95 = .ok (.invokevirtual 90, 3) := by decide +kernel
theorem dX1_step_98 : decode cX1_step 98 = .ok (.goto 33, 3) := by decide +kernel
theorem dX1_step_101 : decode cX1_step 101 = .ok (.aload_n 0, 1) := by decide +kernel
theorem dX1_step_102 : decode cX1_step 102 = .ok (.aload_n 0, 1) := by decide +kernel
theorem dX1_step_103 : decode cX1_step 103 = .ok (.getfield 19, 3) := by decide +kernel
theorem dX1_step_106 : decode cX1_step 106 = .ok (.iconst 1, 1) := by decide +kernel
theorem dX1_step_107 : decode cX1_step 107 = .ok (.iadd, 1) := by decide +kernel
theorem dX1_step_108 : decode cX1_step 108 = .ok (.putfield 22, 3) := by decide +kernel
theorem dX1_step_111 : decode cX1_step 111 = .ok (.aload_n 0, 1) := by decide +kernel
theorem dX1_step_112 : decode cX1_step 112 = .ok (.ldc 93, 2) := by decide +kernel
theorem dX1_step_114 : decode cX1_step 114 = .ok (.iload_n 1, 1) := by decide +kernel
theorem dX1_step_115 : decode cX1_step 115 = .ok (.i2c, 1) := by decide +kernel
theorem dX1_step_116 : decode cX1_step 116 = .ok (.invokevirtual 95, 3) := by decide +kernel
theorem dX1_step_119 : decode cX1_step 119 = .ok (.ifCond .lt 7, 3) := by decide +kernel
theorem dX1_step_122 : decode cX1_step 122 = .ok (.iload_n 1, 1) := by decide +kernel
theorem dX1_step_123 : decode cX1_step 123 = .ok (.goto 5, 3) := by decide +kernel
theorem dX1_step_126 : decode cX1_step 126 = .ok (.bipush (-2), 2) := by decide +kernel
theorem dX1_step_128 : decode cX1_step 128 = .ok (.putfield 25, 3) := by decide +kernel
theorem dX1_step_131 : decode cX1_step 131 = .ok (.return_, 1) := by decide +kernel
theorem dX1_stepOverWord_0 : decode cX1_stepOverWord 0 = .ok (.aload_n 0, 1) := by decide +kernel
theorem dX1_stepOverWord_1 : decode cX1_stepOverWord 1 = .ok (.getfield 19, 3) := by decide +kernel
theorem dX1_stepOverWord_4 : decode cX1_stepOverWord 4 = .ok (.istore_n 1, 1) := by decide +kernel
theorem dX1_stepOverWord_5 : decode cX1_stepOverWord 5 = .ok (.iload_n 1, 1) := by decide +kernel
theorem dX1_stepOverWord_6 : decode cX1_stepOverWord 6 = .ok (.aload_n 0, 1) := by decide +kernel
theorem dX1_stepOverWord_7 : decode cX1_stepOverWord 7 = .ok (.getfield 15, 3) := by decide +kernel
theorem dX1_stepOverWord_10 : decode cX1_stepOverWord 10 = .ok (.if_icmp .ge 27, 3) := by decide +kernel
theorem dX1_stepOverWord_13 : decode cX1_stepOverWord 13 = .ok (.aload_n 0, 1) := by decide +kernel
theorem dX1_stepOverWord_14 : decode cX1_stepOverWord 14 = .ok (.iload_n 1, 1) := by decide +kernel
theorem dX1_stepOverWord_15 : decode cX1_stepOverWord 15 = .ok (.invokevirtual 74, 3) := by decide +kernel
theorem dX1_stepOverWord_18 : decode cX1_stepOverWord 18 = .ok (.invokestatic 81, 3) := by decide +kernel
theorem dX1_stepOverWord_21 : decode cX1_stepOverWord 21 = .ok (.ifCond .eq 16, 3) := by decide +kernel
theorem dX1_stepOverWord_24 : decode cX1_stepOverWord 24 = .ok (.aload_n 0, 1) := by decide +kernel
theorem dX1_stepOverWord_25 : decode cX1_stepOverWord 25 = .ok (.iload_n 1, 1) := by decide +kernel
theorem dX1_stepOverWord_26 : decode cX1_stepOverWord 26 = .ok (.iconst 1, 1) := by decide +kernel
theorem dX1_stepOverWord_27 : decode cX1_stepOverWord 27 = .ok (.iadd, 1) := by decide +kernel
theorem dX1_stepOverWord_28 : decode cX1_stepOverWord 28 = .ok (.putfield 22, 3) := by decide +kernel
theorem dX1_stepOverWord_31 : decode cX1_stepOverWord 31 = .ok (.iinc 1 1, 3) := by decide +kernel
theorem dX1_stepOverWord_34 : decode cX1_stepOverWord 34 = .ok (.goto (-29), 3) := by decide +kernel
theorem dX1_stepOverWord_37 : decode cX1_stepOverWord 37 = .ok (.aload_n 0, 1) := by decide +kernel
theorem dX1_stepOverWord_38 : decode cX1_stepOverWord 38 = .ok (.bipush (-2), 2) := by decide +kernel
theorem dX1_stepOverWord_40 : decode cX1_stepOverWord 40 = .ok (.putfield 25, 3) := by decide +kernel
theorem dX1_stepOverWord_43 : decode cX1_stepOverWord 43 = .ok (.bipush 100, 2) := by decide +kernel
theorem dX1_stepOverWord_45 : decode cX1_stepOverWord 45 = .ok (.istore_n 1, 1) := by decide +kernel
theorem dX1_stepOverWord_46 : decode cX1_stepOverWord 46 = .ok (.iconst 0, 1) := by decide +kernel
theorem dX1_stepOverWord_47 : decode cX1_stepOverWord 47 = .ok (.istore_n 2, 1) := by decide +kernel
theorem dX1_stepOverWord_48 : decode cX1_stepOverWord 48 = .ok (.iconst 0, 1) := by decide +kernel
theorem dX1_stepOverWord_49 : decode cX1_stepOverWord 49 = .ok (.istore_n 3, 1) := by decide +kernel
theorem dX1_stepOverWord_50 : decode cX1_stepOverWord 50 = .ok (.iload_n 3, 1) := by decide +kernel
theorem dX1_stepOverWord_51 : decode cX1_stepOverWord 51 = .ok (.ldc 100, 2) := by decide +kernel
theorem dX1_stepOverWord_53 : decode cX1_stepOverWord 53 = .ok (.invokevirtual 102, 3) := by decide +kernel
theorem dX1_stepOverWord_56 : decode cX1_stepOverWord 56 = .ok (.if_icmp .ge 109, 3) := by decide +kernel
theorem dX1_stepOverWord_59 : decode cX1_stepOverWord 59 = .ok (.ldc 100, 2) := by decide +kernel
theorem dX1_stepOverWord_61 : decode cX1_stepOverWord 61 = .ok (.iload_n 3, 1) := by decide +kernel
theorem dX1_stepOverWord_62 : decode cX1_stepOverWord 62 = .ok (.invokevirtual 106, 3) := by decide +kernel
theorem dX1_stepOverWord_65 : decode cX1_stepOverWord 65 = .ok (.istore 4, 2) := by decide +kernel
theorem dX1_stepOverWord_67 : decode cX1_stepOverWord 67 = .ok (.iload 4, 2) := by decide +kernel
theorem dX1_stepOverWord_69 : decode cX1_stepOverWord 69 = .ok (.bipush 32, 2) := by decide +kernel
theorem dX1_stepOverWord_71 : decode cX1_stepOverWord 71 = .ok (.if_icmp .ne 36, 3) := by decide +kernel
theorem dX1_stepOverWord_74 : decode cX1_stepOverWord 74 = .ok (.aload_n 0, 1) := by decide +kernel
theorem dX1_stepOverWord_75 : decode cX1_stepOverWord 75 = .ok (.iload_n 2, 1) := by decide +kernel
theorem dX1_stepOverWord_76 : decode cX1_stepOverWord 76 = .ok (.aload_n 0, 1) := by decide +kernel
theorem dX1_stepOverWord_77 : decode cX1_stepOverWord 77 = .ok (.getfield 22, 3) := by decide +kernel
theorem dX1_stepOverWord_80 : decode cX1_stepOverWord 80 = .ok (.aload_n 0, 1) := by decide +kernel
theorem dX1_stepOverWord_81 : decode cX1_stepOverWord 81 = .ok (.getfield 19, 3) := by decide +kernel
theorem dX1_stepOverWord_84 : decode cX1_stepOverWord 84 = .ok (.isub, 1) := by decide +kernel
theorem dX1_stepOverWord_85 : decode cX1_stepOverWord 85 = .ok (.if_icmp .ne 7, 3) := by decide +kernel
theorem dX1_stepOverWord_88 : decode cX1_stepOverWord 88 = .ok (.iload_n 1, 1) := by decide +kernel
theorem dX1_stepOverWord_89 : decode cX1_stepOverWord 89 = .ok (.goto 7, 3) := by decide +kernel
theorem dX1_stepOverWord_92 : decode cX1_stepOverWord 92 = .ok (.aload_n 0, 1) := by decide +kernel
theorem dX1_stepOverWord_93 : decode cX1_stepOverWord 93 = .ok (.getfield 25, 3) := by decide +kernel
theorem dX1_stepOverWord_96 : decode cX1_stepOverWord 96 = .ok (.putfield 25, 3) := by decide +kernel
theorem dX1_stepOverWord_99 : decode cX1_stepOverWord 99 = .ok (.iinc 1 1, 3) := by decide +kernel
theorem dX1_stepOverWord_102 : decode cX1_stepOverWord 102 = .ok (.iconst 0, 1) := by decide +kernel
theorem dX1_stepOverWord_103 : decode cX1_stepOverWord 103 = .ok (.istore_n 2, 1) := by decide +kernel
theorem dX1_stepOverWord_104 : decode cX1_stepOverWord 104 = .ok (.goto 55, 3) := by decide +kernel
theorem dX1_stepOverWord_107 : decode cX1_stepOverWord 107 = .ok (.iload_n 2, 1) := by decide +kernel
theorem dX1_stepOverWord_108 : decode cX1_stepOverWord 108 = .ok (.ifCond .lt 35, 3) := by decide +kernel
theorem dX1_stepOverWord_111 : decode cX1_stepOverWord 111 = .ok (.iload_n 2, 1) := by decide +kernel
theorem dX1_stepOverWord_112 : decode cX1_stepOverWord 112 = .ok (.aload_n 0, 1) := by decide +kernel
theorem dX1_stepOverWord_113 : decode cX1_stepOverWord 113 = .ok (.getfield 22, 3) := by decide +kernel
theorem dX1_stepOverWord_116 : decode cX1_stepOverWord 116 = .ok (.aload_n 0, 1) := by decide +kernel
theorem dX1_stepOverWord_117 : decode cX1_stepOverWord 117 = .ok (.getfield 19, 3) := by decide +kernel
theorem dX1_stepOverWord_120 : decode cX1_stepOverWord 120 = .ok (.isub, 1) := by decide +kernel
theorem dX1_stepOverWord_121 : decode cX1_stepOverWord 121 = .ok (.if_icmp .ge 22, 3) := by decide +kernel
theorem dX1_stepOverWord_124 : decode cX1_stepOverWord 124 = .ok (.aload_n 0, 1) := by decide +kernel
theorem dX1_stepOverWord_125 : decode cX1_stepOverWord 125 = .ok (.aload_n 0, 1) := by decide +kernel
theorem dX1_stepOverWord_126 : decode cX1_stepOverWord 126 = .ok (.getfield 19, 3) := by decide +kernel
theorem dX1_stepOverWord_129 : decode cX1_stepOverWord 129 = .ok (.iload_n 2, 1) := by decide +kernel
theorem dX1_stepOverWord_130 : decode cX1_stepOverWord 130 = .ok (.iadd, 1) := by decide +kernel
theorem dX1_stepOverWord_131 : decode cX1_stepOverWord 131 = .ok (.invokevirtual 74, 3) := by decide +kernel
theorem dX1_stepOverWord_134 : decode cX1_stepOverWord 134 = .ok (.iload 4, 2) := by decide +kernel
theorem dX1_stepOverWord_136 : decode cX1_stepOverWord 136 = .ok (.if_icmp .ne 7, 3) := by decide +kernel
theorem dX1_stepOverWord_139 : decode cX1_stepOverWord 139 = .ok (.iconst 1, 1) := by decide +kernel
theorem dX1_stepOverWord_140 : decode cX1_stepOverWord 140 = .ok (.goto 4, 3) := by decide +kernel
theorem dX1_stepOverWord_143 : decode cX1_stepOverWord 143 = .ok (.iconst 0, 1) := by decide +kernel
theorem dX1_stepOverWord_144 : decode cX1_stepOverWord 144 = .ok (.istore 5, 2) := by decide +kernel
theorem dX1_stepOverWord_146 : decode cX1_stepOverWord 146 = .ok (.iload 5, 2) := by decide +kernel
theorem dX1_stepOverWord_148 : decode cX1_stepOverWord 148 = .ok (.ifCond .eq 9, 3) := by decide +kernel
theorem dX1_stepOverWord_151 : decode cX1_stepOverWord 151 = .ok (.iload_n 2, 1) := by decide +kernel
theorem dX1_stepOverWord_152 : decode cX1_stepOverWord 152 = .ok (.iconst 1, 1) := by decide +kernel
theorem dX1_stepOverWord_153 : decode cX1_stepOverWord 153 = .ok (.iadd, 1) := by decide +kernel
theorem dX1_stepOverWord_154 : decode cX1_stepOverWord 154 = .ok (.goto 4, 3) := by decide +kernel
theorem dX1_stepOverWord_157 : decode cX1_stepOverWord 157 = .ok (.iconst (-1), 1) := by decide +kernel
theorem dX1_stepOverWord_158 : decode cX1_stepOverWord 158 = .ok (.istore_n 2, 1) := by decide +kernel
theorem dX1_stepOverWord_159 : decode cX1_stepOverWord 159 = .ok (.iinc 3 1, 3) := by decide +kernel
theorem dX1_stepOverWord_162 : decode cX1_stepOverWord 162 = .ok (.goto (-112), 3) := by decide +kernel
theorem dX1_stepOverWord_165 : decode cX1_stepOverWord 165 = .ok (.return_, 1) := by decide +kernel
theorem dX1_stepOverNumber_0 : decode cX1_stepOverNumber 0 = .ok (.aload_n 0, 1) := by decide +kernel
theorem dX1_stepOverNumber_1 : decode cX1_stepOverNumber 1 = .ok (.iconst 0, 1) := by decide +kernel
theorem dX1_stepOverNumber_2 : decode cX1_stepOverNumber 2 = .ok (.putfield 28, 3) := by decide +kernel
theorem dX1_stepOverNumber_5 : decode cX1_stepOverNumber 5 = .ok (.aload_n 0, 1) := by decide +kernel
theorem dX1_stepOverNumber_6 : decode cX1_stepOverNumber 6 = .ok (.getfield 19, 3) := by decide +kernel
theorem dX1_stepOverNumber_9 : decode cX1_stepOverNumber 9 = .ok (.istore_n 1, 1) := by decide +kernel
theorem dX1_stepOverNumber_10 : decode cX1_stepOverNumber 10 = .ok (.iload_n 1, 1) := by decide +kernel
theorem dX1_stepOverNumber_11 : decode cX1_stepOverNumber 11 = .ok (.aload_n 0, 1) := by decide +kernel
theorem dX1_stepOverNumber_12 : decode cX1_stepOverNumber 12 = .ok (.getfield 15, 3) := by decide +kernel
theorem dX1_stepOverNumber_15 : decode cX1_stepOverNumber 15 = .ok (.if_icmp .ge 47, 3) := by decide +kernel
theorem dX1_stepOverNumber_18 : decode cX1_stepOverNumber 18 = .ok (.aload_n 0, 1) := by decide +kernel
theorem dX1_stepOverNumber_19 : decode cX1_stepOverNumber 19 = .ok (.iload_n 1, 1) := by decide +kernel
theorem dX1_stepOverNumber_20 : decode cX1_stepOverNumber 20 = .ok (.invokevirtual 74, 3) := by decide +kernel
theorem dX1_stepOverNumber_23 : decode cX1_stepOverNumber 23 = .ok (.invokestatic 87, 3) := by decide +kernel
theorem dX1_stepOverNumber_26 : decode cX1_stepOverNumber 26 = .ok (.ifCond .eq 36, 3) := by decide +kernel
theorem dX1_stepOverNumber_29 : decode cX1_stepOverNumber 29 = .ok (.aload_n 0, 1) := by decide +kernel
theorem dX1_stepOverNumber_30 : decode cX1_stepOverNumber 30 = .ok (.bipush 10, 2) := by decide +kernel
theorem dX1_stepOverNumber_32 : decode cX1_stepOverNumber 32 = .ok (.aload_n 0, 1) := by decide +kernel
theorem dX1_stepOverNumber_33 : decode cX1_stepOverNumber 33 = .ok (.getfield 28, 3) := by decide +kernel
theorem dX1_stepOverNumber_36 : decode cX1_stepOverNumber 36 = .ok (.imul, 1) := by decide +kernel
theorem dX1_stepOverNumber_37 : decode cX1_stepOverNumber 37 = .ok (.aload_n 0, 1) := by decide +kernel
theorem dX1_stepOverNumber_38 : decode cX1_stepOverNumber 38 = .ok (.iload_n 1, 1) := by decide +kernel
theorem dX1_stepOverNumber_39 : decode cX1_stepOverNumber 39 = .ok (.invokevirtual 74, 3) := by decide +kernel
theorem dX1_stepOverNumber_42 : decode cX1_stepOverNumber 42 = .ok (.iadd, 1) := by decide +kernel
theorem dX1_stepOverNumber_43 : decode cX1_stepOverNumber 43 = .ok (.bipush 48, 2) := by decide +kernel
theorem dX1_stepOverNumber_45 : decode cX1_stepOverNumber 45 = .ok (.isub, 1) := by decide +kernel
theorem dX1_stepOverNumber_46 : decode cX1_stepOverNumber 46 = .ok (.putfield 28, 3) := by decide +kernel
theorem dX1_stepOverNumber_49 : decode cX1_stepOverNumber 49 = .ok (.aload_n 0, 1) := by decide +kernel
theorem dX1_stepOverNumber_50 : decode cX1_stepOverNumber 50 = .ok (.iload_n 1, 1) := by decide +kernel
theorem dX1_stepOverNumber_51 : decode cX1_stepOverNumber 51 = .ok (.iconst 1, 1) := by decide +kernel
theorem dX1_stepOverNumber_52 : decode cX1_stepOverNumber 52 = .ok (.iadd, 1) := by decide +kernel
theorem dX1_stepOverNumber_53 : decode cX1_stepOverNumber 53 = .ok (.putfield 22, 3) := by decide +kernel
theorem dX1_stepOverNumber_56 : decode cX1_stepOverNumber 56 = .ok (.iinc 1 1, 3) := by decide +kernel
theorem dX1_stepOverNumber_59 : decode cX1_stepOverNumber 59 = .ok (.goto (-49), 3) := by decide +kernel
theorem dX1_stepOverNumber_62 : decode cX1_stepOverNumber 62 = .ok (.aload_n 0, 1) := by decide +kernel
theorem dX1_stepOverNumber_63 : decode cX1_stepOverNumber 63 = .ok (.aload_n 0, 1) := by decide +kernel
theorem dX1_stepOverNumber_64 : decode cX1_stepOverNumber 64 = .ok (.getfield 22, 3) := by decide +kernel
theorem dX1_stepOverNumber_67 : decode cX1_stepOverNumber 67 = .ok (.aload_n 0, 1) := by decide +kernel
theorem dX1_stepOverNumber_68 : decode cX1_stepOverNumber 68 = .ok (.getfield 19, 3) := by decide +kernel
theorem dX1_stepOverNumber_71 : decode cX1_stepOverNumber 71 = .ok (.isub, 1) := by decide +kernel
theorem dX1_stepOverNumber_72 : decode cX1_stepOverNumber 72 = .ok (.iconst 4, 1) := by decide +kernel
theorem dX1_stepOverNumber_73 : decode cX1_stepOverNumber 73 = .ok (.if_icmp .gt 7, 3) := by decide +kernel
theorem dX1_stepOverNumber_76 : decode cX1_stepOverNumber 76 = .ok (.iconst 1, 1) := by decide +kernel
theorem dX1_stepOverNumber_77 : decode cX1_stepOverNumber 77 = .ok (.goto 5, 3) := by decide +kernel
theorem dX1_stepOverNumber_80 : decode cX1_stepOverNumber 80 = .ok (.bipush (-2), 2) := by decide +kernel
theorem dX1_stepOverNumber_82 : decode cX1_stepOverNumber 82 = .ok (.putfield 25, 3) := by decide +kernel
theorem dX1_stepOverNumber_85 : decode cX1_stepOverNumber 85 = .ok (.return_, 1) := by decide +kernel
theorem dX1_byteAt_0 : decode cX1_byteAt 0 = .ok (.iload_n 1, 1) := by decide +kernel
theorem dX1_byteAt_1 : decode cX1_byteAt 1 = .ok (.ifCond .lt 21, 3) := by decide +kernel
theorem dX1_byteAt_4 : decode cX1_byteAt 4 = .ok (.iload_n 1, 1) := by decide +kernel
theorem dX1_byteAt_5 : decode cX1_byteAt 5 = .ok (.aload_n 0, 1) := by decide +kernel
theorem dX1_byteAt_6 : decode cX1_byteAt 6 = .ok (.getfield 9, 3) := by decide +kernel
theorem dX1_byteAt_9 : decode cX1_byteAt 9 = .ok (.arraylength, 1) := by decide +kernel
theorem dX1_byteAt_10 : decode cX1_byteAt 10 = .ok (.if_icmp .ge 12, 3) := by decide +kernel
theorem dX1_byteAt_13 : decode cX1_byteAt 13 = .ok (.aload_n 0, 1) := by decide +kernel
theorem dX1_byteAt_14 : decode cX1_byteAt 14 = .ok (.getfield 9, 3) := by decide +kernel
theorem dX1_byteAt_17 : decode cX1_byteAt 17 = .ok (.iload_n 1, 1) := by decide +kernel
theorem dX1_byteAt_18 : decode cX1_byteAt 18 = .ok (.iaload, 1) := by decide +kernel
theorem dX1_byteAt_19 : decode cX1_byteAt 19 = .ok (.goto 4, 3) := by decide +kernel
theorem dX1_byteAt_22 : decode cX1_byteAt 22 = .ok (.iconst 0, 1) := by decide +kernel
theorem dX1_byteAt_23 : decode cX1_byteAt 23 = .ok (.ireturn, 1) := by decide +kernel
theorem dX1_isBlank_0 : decode cX1_isBlank 0 = .ok (.iload_n 0, 1) := by decide +kernel
theorem dX1_isBlank_1 : decode cX1_isBlank 1 = .ok (.bipush 32, 2) := by decide +kernel
theorem dX1_isBlank_3 : decode cX1_isBlank 3 = .ok (.if_icmp .eq 9, 3) := by decide +kernel
theorem dX1_isBlank_6 : decode cX1_isBlank 6 = .ok (.iload_n 0, 1) := by decide +kernel
theorem dX1_isBlank_7 : decode cX1_isBlank 7 = .ok (.bipush 10, 2) := by decide +kernel
theorem dX1_isBlank_9 : decode cX1_isBlank 9 = .ok (.if_icmp .ne 7, 3) := by decide +kernel
theorem dX1_isBlank_12 : decode cX1_isBlank 12 = .ok (.iconst 1, 1) := by decide +kernel
theorem dX1_isBlank_13 : decode cX1_isBlank 13 = .ok (.goto 4, 3) := by decide +kernel
theorem dX1_isBlank_16 : decode cX1_isBlank 16 = .ok (.iconst 0, 1) := by decide +kernel
theorem dX1_isBlank_17 : decode cX1_isBlank 17 = .ok (.ireturn, 1) := by decide +kernel
theorem dX1_isLetter_0 : decode cX1_isLetter 0 = .ok (.iload_n 0, 1) := by decide +kernel
theorem dX1_isLetter_1 : decode cX1_isLetter 1 = .ok (.bipush 97, 2) := by decide +kernel
theorem dX1_isLetter_3 : decode cX1_isLetter 3 = .ok (.if_icmp .lt 13, 3) := by decide +kernel
theorem dX1_isLetter_6 : decode cX1_isLetter 6 = .ok (.iload_n 0, 1) := by decide +kernel
theorem dX1_isLetter_7 : decode cX1_isLetter 7 = .ok (.bipush 122, 2) := by decide +kernel
theorem dX1_isLetter_9 : decode cX1_isLetter 9 = .ok (.if_icmp .gt 7, 3) := by decide +kernel
theorem dX1_isLetter_12 : decode cX1_isLetter 12 = .ok (.iconst 1, 1) := by decide +kernel
theorem dX1_isLetter_13 : decode cX1_isLetter 13 = .ok (.goto 4, 3) := by decide +kernel
theorem dX1_isLetter_16 : decode cX1_isLetter 16 = .ok (.iconst 0, 1) := by decide +kernel
theorem dX1_isLetter_17 : decode cX1_isLetter 17 = .ok (.ireturn, 1) := by decide +kernel
theorem dX1_isDigit_0 : decode cX1_isDigit 0 = .ok (.iload_n 0, 1) := by decide +kernel
theorem dX1_isDigit_1 : decode cX1_isDigit 1 = .ok (.bipush 48, 2) := by decide +kernel
theorem dX1_isDigit_3 : decode cX1_isDigit 3 = .ok (.if_icmp .lt 13, 3) := by decide +kernel
theorem dX1_isDigit_6 : decode cX1_isDigit 6 = .ok (.iload_n 0, 1) := by decide +kernel
theorem dX1_isDigit_7 : decode cX1_isDigit 7 = .ok (.bipush 57, 2) := by decide +kernel
theorem dX1_isDigit_9 : decode cX1_isDigit 9 = .ok (.if_icmp .gt 7, 3) := by decide +kernel
theorem dX1_isDigit_12 : decode cX1_isDigit 12 = .ok (.iconst 1, 1) := by decide +kernel
theorem dX1_isDigit_13 : decode cX1_isDigit 13 = .ok (.goto 4, 3) := by decide +kernel
theorem dX1_isDigit_16 : decode cX1_isDigit 16 = .ok (.iconst 0, 1) := by decide +kernel
theorem dX1_isDigit_17 : decode cX1_isDigit 17 = .ok (.ireturn, 1) := by decide +kernel
theorem dX2_init_0 : decode cX2_init 0 = .ok (.aload_n 0, 1) := by decide +kernel
theorem dX2_init_1 : decode cX2_init 1 = .ok (.invokespecial 3, 3) := by decide +kernel
theorem dX2_init_4 : decode cX2_init 4 = .ok (.aload_n 0, 1) := by decide +kernel
theorem dX2_init_5 : decode cX2_init 5 = .ok (.sipush 160, 3) := by decide +kernel
theorem dX2_init_8 : decode cX2_init 8 = .ok (.newarray .int, 2) := by decide +kernel
theorem dX2_init_10 : decode cX2_init 10 = .ok (.putfield 9, 3) := by decide +kernel
theorem dX2_init_13 : decode cX2_init 13 = .ok (.return_, 1) := by decide +kernel
theorem dX2_says_0 : decode cX2_says 0 = .ok (.iload_n 2, 1) := by decide +kernel
theorem dX2_says_1 : decode cX2_says 1 = .ok (.ifCond .lt 19, 3) := by decide +kernel
theorem dX2_says_4 : decode cX2_says 4 = .ok (.iload_n 2, 1) := by decide +kernel
theorem dX2_says_5 : decode cX2_says 5 = .ok (.getstatic 15, 3) := by decide +kernel
theorem dX2_says_8 : decode cX2_says 8 = .ok (.arraylength, 1) := by decide +kernel
theorem dX2_says_9 : decode cX2_says 9 = .ok (.if_icmp .ge 11, 3) := by decide +kernel
theorem dX2_says_12 : decode cX2_says 12 = .ok (.iload_n 2, 1) := by decide +kernel
theorem dX2_says_13 : decode cX2_says 13 = .ok (.getstatic 18, 3) := by decide +kernel
theorem dX2_says_16 : decode cX2_says 16 = .ok (.arraylength, 1) := by decide +kernel
theorem dX2_says_17 : decode cX2_says 17 = .ok (.if_icmp .lt 5, 3) := by decide +kernel
theorem dX2_says_20 : decode cX2_says 20 = .ok (.iconst 0, 1) := by decide +kernel
theorem dX2_says_21 : decode cX2_says 21 = .ok (.ireturn, 1) := by decide +kernel
theorem dX2_says_22 : decode cX2_says 22 = .ok (.iconst 0, 1) := by decide +kernel
theorem dX2_says_23 : decode cX2_says 23 = .ok (.istore 7, 2) := by decide +kernel
theorem dX2_says_25 : decode cX2_says 25 = .ok (.aload_n 1, 1) := by decide +kernel
theorem dX2_says_26 : decode cX2_says 26 = .ok (.iload_n 2, 1) := by decide +kernel
theorem dX2_says_27 : decode cX2_says 27 = .ok (.invokevirtual 21, 3) := by decide +kernel
theorem dX2_says_30 : decode cX2_says 30 = .ok (.aload_n 1, 1) := by decide +kernel
theorem dX2_says_31 : decode cX2_says 31 = .ok (.getfield 27, 3) := by decide +kernel
theorem dX2_says_34 : decode cX2_says 34 = .ok (.arraylength, 1) := by decide +kernel
theorem dX2_says_35 : decode cX2_says 35 = .ok (.invokestatic 30, 3) := by decide +kernel
theorem dX2_says_38 : decode cX2_says 38 = .ok (.istore 8, 2) := by decide +kernel
theorem dX2_says_40 : decode cX2_says 40 = .ok (.aload_n 1, 1) := by decide +kernel
theorem dX2_says_41 : decode cX2_says 41 = .ok (.iload_n 2, 1) := by decide +kernel
theorem dX2_says_42 : decode cX2_says 42 = .ok (.iconst 1, 1) := by decide +kernel
theorem dX2_says_43 : decode cX2_says 43 = .ok (.isub, 1) := by decide +kernel
theorem dX2_says_44 : decode cX2_says 44 = .ok (.invokevirtual 21, 3) := by decide +kernel
theorem dX2_says_47 : decode cX2_says 47 = .ok (.istore 9, 2) := by decide +kernel
theorem dX2_says_49 : decode cX2_says 49 = .ok (.iload 9, 2) := by decide +kernel
theorem dX2_says_51 : decode cX2_says 51 = .ok (.iload 8, 2) := by decide +kernel
theorem dX2_says_53 : decode cX2_says 53 = .ok (.if_icmp .ge 162, 3) := by decide +kernel
theorem dX2_says_56 : decode cX2_says 56 = .ok (.aload_n 1, 1) := by decide +kernel
theorem dX2_says_57 : decode cX2_says 57 = .ok (.getfield 27, 3) := by decide +kernel
theorem dX2_says_60 : decode cX2_says 60 = .ok (.iload 9, 2) := by decide +kernel
theorem dX2_says_62 : decode cX2_says 62 = .ok (.iaload, 1) := by decide +kernel
theorem dX2_says_63 : decode cX2_says 63 = .ok (.istore 10, 2) := by decide +kernel
theorem dX2_says_65 : decode cX2_says 65 = .ok (.iload 10, 2) := by decide +kernel
theorem dX2_says_67 : decode cX2_says 67 = .ok (.ifCond .ge 11, 3) := by decide +kernel
theorem dX2_says_70 : decode cX2_says 70 = .ok (.iload 10, 2) := by decide +kernel
theorem dX2_says_72 : decode cX2_says 72 = .ok (.invokestatic 36, 3) := by decide +kernel
theorem dX2_says_75 : decode cX2_says 75 = .ok (.ifCond .eq 49, 3) := by decide +kernel
theorem dX2_says_78 : decode cX2_says 78 = .ok (.iload 7, 2) := by decide +kernel
theorem dX2_says_80 : decode cX2_says 80 = .ok (.aload_n 0, 1) := by decide +kernel
theorem dX2_says_81 : decode cX2_says 81 = .ok (.getfield 9, 3) := by decide +kernel
theorem dX2_says_84 : decode cX2_says 84 = .ok (.arraylength, 1) := by decide +kernel
theorem dX2_says_85 : decode cX2_says 85 = .ok (.if_icmp .ge 124, 3) := by decide +kernel
theorem dX2_says_88 : decode cX2_says 88 = .ok (.aload_n 0, 1) := by decide +kernel
theorem dX2_says_89 : decode cX2_says 89 = .ok (.getfield 9, 3) := by decide +kernel
theorem dX2_says_92 : decode cX2_says 92 = .ok (.iload 7, 2) := by decide +kernel
theorem dX2_says_94 : decode cX2_says 94 = .ok (.iload 10, 2) := by decide +kernel
theorem dX2_says_96 : decode cX2_says 96 = .ok (.ifCond .lt 8, 3) := by decide +kernel
theorem dX2_says_99 : decode cX2_says 99 = .ok (.iload 10, 2) := by decide +kernel
theorem dX2_says_101 : decode cX2_says 101 = .ok (.goto 16, 3) := by decide +kernel
theorem dX2_says_104 : decode cX2_says 104 = .ok (.iload 10, 2) := by decide +kernel
theorem dX2_says_106 : decode cX2_says 106 = .ok (.ineg, 1) := by decide +kernel
theorem dX2_says_107 : decode cX2_says 107 = .ok (.aload_n 3, 1) := by decide +kernel
theorem dX2_says_108 : decode cX2_says 108 = .ok (.iload 4, 2) := by decide +kernel
theorem dX2_says_110 : decode cX2_says 110 = .ok (.iload 5, 2) := by decide +kernel
theorem dX2_says_112 : decode cX2_says 112 = .ok (.iload 6, 2) := by decide +kernel
theorem dX2_says_114 : decode cX2_says 114 = .ok (.invokestatic 40, 3) := by decide +kernel
theorem dX2_says_117 : decode cX2_says 117 = .ok (.iastore, 1) := by decide +kernel
theorem dX2_says_118 : decode cX2_says 118 = .ok (.iinc 7 1, 3) := by decide +kernel
theorem dX2_says_121 : decode cX2_says 121 = .ok (.goto 88, 3) := by decide +kernel
theorem dX2_says_124 : decode cX2_says 124 = .ok (.iload 10, 2) := by decide +kernel
theorem dX2_says_126 : decode cX2_says 126 = .ok (.iconst (-1), 1) := by decide +kernel
theorem dX2_says_127 : decode cX2_says 127 = .ok (.if_icmp .eq 10, 3) := by decide +kernel
theorem dX2_says_130 : decode cX2_says 130 = .ok (.iload 10, 2) := by decide +kernel
theorem dX2_says_132 : decode cX2_says 132 = .ok (.bipush (-111), 2) := by decide +kernel
theorem dX2_says_134 : decode cX2_says 134 = .ok (.if_icmp .ne 35, 3) := by decide +kernel
theorem dX2_says_137 : decode cX2_says 137 = .ok (.iload 7, 2) := by decide +kernel
theorem dX2_says_139 : decode cX2_says 139 = .ok (.iconst 1, 1) := by decide +kernel
theorem dX2_says_140 : decode cX2_says 140 = .ok (.if_icmp .lt 69, 3) := by decide +kernel
theorem dX2_says_143 : decode cX2_says 143 = .ok (.aload_n 0, 1) := by decide +kernel
theorem dX2_says_144 : decode cX2_says 144 = .ok (.getfield 9, 3) := by decide +kernel
theorem dX2_says_147 : decode cX2_says 147 = .ok (.iload 7, 2) := by decide +kernel
theorem dX2_says_149 : decode cX2_says 149 = .ok (.iconst 1, 1) := by decide +kernel
theorem dX2_says_150 : decode cX2_says 150 = .ok (.isub, 1) := by decide +kernel
theorem dX2_says_151 : decode cX2_says 151 = .ok (.iload 10, 2) := by decide +kernel
theorem dX2_says_153 : decode cX2_says 153 = .ok (.aload_n 0, 1) := by decide +kernel
theorem dX2_says_154 : decode cX2_says 154 = .ok (.getfield 9, 3) := by decide +kernel
theorem dX2_says_157 : decode cX2_says 157 = .ok (.iload 7, 2) := by decide +kernel
theorem dX2_says_159 : decode cX2_says 159 = .ok (.iconst 1, 1) := by decide +kernel
theorem dX2_says_160 : decode cX2_says 160 = .ok (.isub, 1) := by decide +kernel
theorem dX2_says_161 : decode cX2_says 161 = .ok (.iaload, 1) := by decide +kernel
theorem dX2_says_162 : decode cX2_says 162 = .ok (.invokestatic 46, 3) := by decide +kernel
theorem dX2_says_165 : decode cX2_says 165 = .ok (.iastore, 1) := by decide +kernel
theorem dX2_says_166 : decode cX2_says 166 = .ok (.goto 43, 3) := by decide +kernel
theorem dX2_says_169 : decode cX2_says 169 = .ok (.iload 7, 2) := by decide +kernel
theorem dX2_says_171 : decode cX2_says 171 = .ok (.iconst 2, 1) := by decide +kernel
theorem dX2_says_172 : decode cX2_says 172 = .ok (.if_icmp .lt 37, 3) := by decide +kernel
theorem dX2_says_175 : decode cX2_says 175 = .ok (.iinc 7 (-1), 3) := by decide +kernel
theorem dX2_says_178 : decode cX2_says 178 = .ok (.aload_n 0, 1) := by decide +kernel
theorem dX2_says_179 : decode cX2_says 179 = .ok (.getfield 9, 3) := by decide +kernel
theorem dX2_says_182 : decode cX2_says 182 = .ok (.iload 7, 2) := by decide +kernel
theorem dX2_says_184 : decode cX2_says 184 = .ok (.iconst 1, 1) := by decide +kernel
theorem dX2_says_185 : decode cX2_says 185 = .ok (.isub, 1) := by decide +kernel
theorem dX2_says_186 : decode cX2_says 186 = .ok (.iload 10, 2) := by decide +kernel
theorem dX2_says_188 : decode cX2_says 188 = .ok (.ineg, 1) := by decide +kernel
theorem dX2_says_189 : decode cX2_says 189 = .ok (.aload_n 0, 1) := by decide +kernel
theorem dX2_says_190 : decode cX2_says 190 = .ok (.getfield 9, 3) := by decide +kernel
theorem dX2_says_193 : decode cX2_says 193 = .ok (.iload 7, 2) := by decide +kernel
theorem dX2_says_195 : decode cX2_says 195 = .ok (.iconst 1, 1) := by decide +kernel
theorem dX2_says_196 : decode cX2_says 196 = .ok (.isub, 1) := by decide +kernel
theorem dX2_says_197 : decode cX2_says 197 = .ok (.iaload, 1) := by decide +kernel
theorem dX2_says_198 : decode cX2_says 198 = .ok (.aload_n 0, 1) := by decide +kernel
theorem dX2_says_199 : decode cX2_says 199 = .ok (.getfield 9, 3) := by decide +kernel
theorem dX2_says_202 : decode cX2_says 202 = .ok (.iload 7, 2) := by decide +kernel
theorem dX2_says_204 : decode cX2_says 204 = .ok (.iaload, 1) := by decide +kernel
theorem dX2_says_205 : decode cX2_says 205 = .ok (.invokestatic 49, 3) := by decide +kernel
theorem dX2_says_208 : decode cX2_says 208 = .ok (.iastore, 1) := by decide +kernel
theorem dX2_says_209 : decode cX2_says 209 = .ok (.iinc 9 1, 3) := by decide +kernel
theorem dX2_says_212 : decode cX2_says 212 = .ok (.goto (-163), 3) := by decide +kernel
theorem dX2_says_215 : decode cX2_says 215 = .ok (.iload 7, 2) := by decide +kernel
theorem dX2_says_217 : decode cX2_says 217 = .ok (.iconst 1, 1) := by decide +kernel
theorem dX2_says_218 : decode cX2_says 218 = .ok (.if_icmp .ge 7, 3) := by decide +kernel
theorem dX2_says_221 : decode cX2_says 221 = .ok (.iconst 0, 1) := by decide +kernel
theorem dX2_says_222 : decode cX2_says 222 = .ok (.goto 25, 3) := by decide +kernel
theorem dX2_says_225 : decode cX2_says 225 = .ok (.aload_n 0, 1) := by decide +kernel
theorem dX2_says_226 : decode cX2_says 226 = .ok (.getfield 9, 3) := by decide +kernel
theorem dX2_says_229 : decode cX2_says 229 = .ok (.iload 7, 2) := by decide +kernel
theorem dX2_says_231 : decode cX2_says 231 = .ok (.iconst 1, 1) := by decide +kernel
theorem dX2_says_232 : decode cX2_says 232 = .ok (.isub, 1) := by decide +kernel
theorem dX2_says_233 : decode cX2_says 233 = .ok (.iaload, 1) := by decide +kernel
theorem dX2_says_234 : decode cX2_says 234 = .ok (.getstatic 15, 3) := by decide +kernel
theorem dX2_says_237 : decode cX2_says 237 = .ok (.iload_n 2, 1) := by decide +kernel
theorem dX2_says_238 : decode cX2_says 238 = .ok (.iaload, 1) := by decide +kernel
theorem dX2_says_239 : decode cX2_says 239 = .ok (.getstatic 18, 3) := by decide +kernel
theorem dX2_says_242 : decode cX2_says 242 = .ok (.iload_n 2, 1) := by decide +kernel
theorem dX2_says_243 : decode cX2_says 243 = .ok (.iaload, 1) := by decide +kernel
theorem dX2_says_244 : decode cX2_says 244 = .ok (.invokestatic 53, 3) := by decide +kernel
theorem dX2_says_247 : decode cX2_says 247 = .ok (.ireturn, 1) := by decide +kernel
theorem dX2_isName_0 : decode cX2_isName 0 = .ok (.iload_n 0, 1) := by decide +kernel
theorem dX2_isName_1 : decode cX2_isName 1 = .ok (.ineg, 1) := by decide +kernel
theorem dX2_isName_2 : decode cX2_isName 2 = .ok (.bipush 100, 2) := by decide +kernel
theorem dX2_isName_4 : decode cX2_isName 4 = .ok (.if_icmp .lt 14, 3) := by decide +kernel
theorem dX2_isName_7 : decode cX2_isName 7 = .ok (.iload_n 0, 1) := by decide +kernel
theorem dX2_isName_8 : decode cX2_isName 8 = .ok (.ineg, 1) := by decide +kernel
theorem dX2_isName_9 : decode cX2_isName 9 = .ok (.bipush 106, 2) := by decide +kernel
theorem dX2_isName_11 : decode cX2_isName 11 = .ok (.if_icmp .ge 7, 3) := by decide +kernel
theorem dX2_isName_14 : decode cX2_isName 14 = .ok (.iconst 1, 1) := by decide +kernel
theorem dX2_isName_15 : decode cX2_isName 15 = .ok (.goto 4, 3) := by decide +kernel
theorem dX2_isName_18 : decode cX2_isName 18 = .ok (.iconst 0, 1) := by decide +kernel
theorem dX2_isName_19 : decode cX2_isName 19 = .ok (.ireturn, 1) := by decide +kernel
theorem dX2_named_0 : decode cX2_named 0 = .ok (.iload_n 0, 1) := by decide +kernel
theorem dX2_named_1 : decode cX2_named 1 = .ok (.bipush 100, 2) := by decide +kernel
theorem dX2_named_3 : decode cX2_named 3 = .ok (.isub, 1) := by decide +kernel
theorem dX2_named_4 : decode cX2_named 4 = .ok (.tableswitch 53 0 4 #[36, 41, 46, 48, 50], 36) := by decide +kernel
theorem dX2_named_40 : decode cX2_named 40 = .ok (.aload_n 1, 1) := by decide +kernel
theorem dX2_named_41 : decode cX2_named 41 = .ok (.getfield 56, 3) := by decide +kernel
theorem dX2_named_44 : decode cX2_named 44 = .ok (.ireturn, 1) := by decide +kernel
theorem dX2_named_45 : decode cX2_named 45 = .ok (.aload_n 1, 1) := by decide +kernel
theorem dX2_named_46 : decode cX2_named 46 = .ok (.getfield 62, 3) := by decide +kernel
theorem dX2_named_49 : decode cX2_named 49 = .ok (.ireturn, 1) := by decide +kernel
theorem dX2_named_50 : decode cX2_named 50 = .ok (.iload_n 2, 1) := by decide +kernel
theorem dX2_named_51 : decode cX2_named 51 = .ok (.ireturn, 1) := by decide +kernel
theorem dX2_named_52 : decode cX2_named 52 = .ok (.iload_n 3, 1) := by decide +kernel
theorem dX2_named_53 : decode cX2_named 53 = .ok (.ireturn, 1) := by decide +kernel
theorem dX2_named_54 : decode cX2_named 54 = .ok (.iload 4, 2) := by decide +kernel
theorem dX2_named_56 : decode cX2_named 56 = .ok (.ireturn, 1) := by decide +kernel
theorem dX2_named_57 : decode cX2_named 57 = .ok (.aload_n 1, 1) := by decide +kernel
theorem dX2_named_58 : decode cX2_named 58 = .ok (.getfield 65, 3) := by decide +kernel
theorem dX2_named_61 : decode cX2_named 61 = .ok (.ireturn, 1) := by decide +kernel
theorem dX2_turned_0 : decode cX2_turned 0 = .ok (.iload_n 0, 1) := by decide +kernel
theorem dX2_turned_1 : decode cX2_turned 1 = .ok (.iconst (-1), 1) := by decide +kernel
theorem dX2_turned_2 : decode cX2_turned 2 = .ok (.if_icmp .ne 8, 3) := by decide +kernel
theorem dX2_turned_5 : decode cX2_turned 5 = .ok (.iload_n 1, 1) := by decide +kernel
theorem dX2_turned_6 : decode cX2_turned 6 = .ok (.ineg, 1) := by decide +kernel
theorem dX2_turned_7 : decode cX2_turned 7 = .ok (.goto 12, 3) := by decide +kernel
theorem dX2_turned_10 : decode cX2_turned 10 = .ok (.iload_n 1, 1) := by decide +kernel
theorem dX2_turned_11 : decode cX2_turned 11 = .ok (.ifCond .ne 7, 3) := by decide +kernel
theorem dX2_turned_14 : decode cX2_turned 14 = .ok (.iconst 1, 1) := by decide +kernel
theorem dX2_turned_15 : decode cX2_turned 15 = .ok (.goto 4, 3) := by decide +kernel
theorem dX2_turned_18 : decode cX2_turned 18 = .ok (.iconst 0, 1) := by decide +kernel
theorem dX2_turned_19 : decode cX2_turned 19 = .ok (.ireturn, 1) := by decide +kernel
theorem dX2_joined_0 : decode cX2_joined 0 = .ok (.iload_n 0, 1) := by decide +kernel
theorem dX2_joined_1 : decode cX2_joined 1 = .ok (.lookupswitch 107 #[(42, 67), (43, 59), (45, 63), (60, 71), (61, 82), (110, 93)], 59) := by decide +kernel
theorem dX2_joined_60 : decode cX2_joined 60 = .ok (.iload_n 1, 1) := by decide +kernel
theorem dX2_joined_61 : decode cX2_joined 61 = .ok (.iload_n 2, 1) := by decide +kernel
theorem dX2_joined_62 : decode cX2_joined 62 = .ok (.iadd, 1) := by decide +kernel
theorem dX2_joined_63 : decode cX2_joined 63 = .ok (.ireturn, 1) := by decide +kernel
theorem dX2_joined_64 : decode cX2_joined 64 = .ok (.iload_n 1, 1) := by decide +kernel
theorem dX2_joined_65 : decode cX2_joined 65 = .ok (.iload_n 2, 1) := by decide +kernel
theorem dX2_joined_66 : decode cX2_joined 66 = .ok (.isub, 1) := by decide +kernel
theorem dX2_joined_67 : decode cX2_joined 67 = .ok (.ireturn, 1) := by decide +kernel
theorem dX2_joined_68 : decode cX2_joined 68 = .ok (.iload_n 1, 1) := by decide +kernel
theorem dX2_joined_69 : decode cX2_joined 69 = .ok (.iload_n 2, 1) := by decide +kernel
theorem dX2_joined_70 : decode cX2_joined 70 = .ok (.imul, 1) := by decide +kernel
theorem dX2_joined_71 : decode cX2_joined 71 = .ok (.ireturn, 1) := by decide +kernel
theorem dX2_joined_72 : decode cX2_joined 72 = .ok (.iload_n 1, 1) := by decide +kernel
theorem dX2_joined_73 : decode cX2_joined 73 = .ok (.iload_n 2, 1) := by decide +kernel
theorem dX2_joined_74 : decode cX2_joined 74 = .ok (.if_icmp .ge 7, 3) := by decide +kernel
theorem dX2_joined_77 : decode cX2_joined 77 = .ok (.iconst 1, 1) := by decide +kernel
theorem dX2_joined_78 : decode cX2_joined 78 = .ok (.goto 4, 3) := by decide +kernel
theorem dX2_joined_81 : decode cX2_joined 81 = .ok (.iconst 0, 1) := by decide +kernel
theorem dX2_joined_82 : decode cX2_joined 82 = .ok (.ireturn, 1) := by decide +kernel
theorem dX2_joined_83 : decode cX2_joined 83 = .ok (.iload_n 1, 1) := by decide +kernel
theorem dX2_joined_84 : decode cX2_joined 84 = .ok (.iload_n 2, 1) := by decide +kernel
theorem dX2_joined_85 : decode cX2_joined 85 = .ok (.if_icmp .ne 7, 3) := by decide +kernel
theorem dX2_joined_88 : decode cX2_joined 88 = .ok (.iconst 1, 1) := by decide +kernel
theorem dX2_joined_89 : decode cX2_joined 89 = .ok (.goto 4, 3) := by decide +kernel
theorem dX2_joined_92 : decode cX2_joined 92 = .ok (.iconst 0, 1) := by decide +kernel
theorem dX2_joined_93 : decode cX2_joined 93 = .ok (.ireturn, 1) := by decide +kernel
theorem dX2_joined_94 : decode cX2_joined 94 = .ok (.iload_n 1, 1) := by decide +kernel
theorem dX2_joined_95 : decode cX2_joined 95 = .ok (.ifCond .eq 11, 3) := by decide +kernel
theorem dX2_joined_98 : decode cX2_joined 98 = .ok (.iload_n 2, 1) := by decide +kernel
theorem dX2_joined_99 : decode cX2_joined 99 = .ok (.ifCond .eq 7, 3) := by decide +kernel
theorem dX2_joined_102 : decode cX2_joined 102 = .ok (.iconst 1, 1) := by decide +kernel
theorem dX2_joined_103 : decode cX2_joined 103 = .ok (.goto 4, 3) := by decide +kernel
theorem dX2_joined_106 : decode cX2_joined 106 = .ok (.iconst 0, 1) := by decide +kernel
theorem dX2_joined_107 : decode cX2_joined 107 = .ok (.ireturn, 1) := by decide +kernel
theorem dX2_joined_108 : decode cX2_joined 108 = .ok (.iload_n 1, 1) := by decide +kernel
theorem dX2_joined_109 : decode cX2_joined 109 = .ok (.ifCond .ne 7, 3) := by decide +kernel
theorem dX2_joined_112 : decode cX2_joined 112 = .ok (.iload_n 2, 1) := by decide +kernel
theorem dX2_joined_113 : decode cX2_joined 113 = .ok (.ifCond .eq 7, 3) := by decide +kernel
theorem dX2_joined_116 : decode cX2_joined 116 = .ok (.iconst 1, 1) := by decide +kernel
theorem dX2_joined_117 : decode cX2_joined 117 = .ok (.goto 4, 3) := by decide +kernel
theorem dX2_joined_120 : decode cX2_joined 120 = .ok (.iconst 0, 1) := by decide +kernel
theorem dX2_joined_121 : decode cX2_joined 121 = .ok (.ireturn, 1) := by decide +kernel
theorem dX3_init_0 : decode cX3_init 0 = .ok (.aload_n 0, 1) := by decide +kernel
theorem dX3_init_1 : decode cX3_init 1 = .ok (.invokespecial 3, 3) := by decide +kernel
theorem dX3_init_4 : decode cX3_init 4 = .ok (.aload_n 0, 1) := by decide +kernel
theorem dX3_init_5 : decode cX3_init 5 = .ok (.bipush 40, 2) := by decide +kernel
theorem dX3_init_7 : decode cX3_init 7 = .ok (.newarray .int, 2) := by decide +kernel
theorem dX3_init_9 : decode cX3_init 9 = .ok (.putfield 9, 3) := by decide +kernel
theorem dX3_init_12 : decode cX3_init 12 = .ok (.aload_n 0, 1) := by decide +kernel
theorem dX3_init_13 : decode cX3_init 13 = .ok (.iconst (-1), 1) := by decide +kernel
theorem dX3_init_14 : decode cX3_init 14 = .ok (.putfield 15, 3) := by decide +kernel
theorem dX3_init_17 : decode cX3_init 17 = .ok (.aload_n 0, 1) := by decide +kernel
theorem dX3_init_18 : decode cX3_init 18 = .ok (.iconst 0, 1) := by decide +kernel
theorem dX3_init_19 : decode cX3_init 19 = .ok (.putfield 19, 3) := by decide +kernel
theorem dX3_init_22 : decode cX3_init 22 = .ok (.return_, 1) := by decide +kernel
theorem dX3_becomesRow_0 : decode cX3_becomesRow 0 = .ok (.aload_n 0, 1) := by decide +kernel
theorem dX3_becomesRow_1 : decode cX3_becomesRow 1 = .ok (.iload_n 1, 1) := by decide +kernel
theorem dX3_becomesRow_2 : decode cX3_becomesRow 2 = .ok (.putfield 15, 3) := by decide +kernel
theorem dX3_becomesRow_5 : decode cX3_becomesRow 5 = .ok (.aload_n 0, 1) := by decide +kernel
theorem dX3_becomesRow_6 : decode cX3_becomesRow 6 = .ok (.iload_n 2, 1) := by decide +kernel
theorem dX3_becomesRow_7 : decode cX3_becomesRow 7 = .ok (.iconst 0, 1) := by decide +kernel
theorem dX3_becomesRow_8 : decode cX3_becomesRow 8 = .ok (.aload_n 0, 1) := by decide +kernel
theorem dX3_becomesRow_9 : decode cX3_becomesRow 9 = .ok (.getfield 9, 3) := by decide +kernel
theorem dX3_becomesRow_12 : decode cX3_becomesRow 12 = .ok (.arraylength, 1) := by decide +kernel
theorem dX3_becomesRow_13 : decode cX3_becomesRow 13 = .ok (.invokestatic 22, 3) := by decide +kernel
theorem dX3_becomesRow_16 : decode cX3_becomesRow 16 = .ok (.putfield 19, 3) := by decide +kernel
theorem dX3_becomesRow_19 : decode cX3_becomesRow 19 = .ok (.aload_n 0, 1) := by decide +kernel
theorem dX3_becomesRow_20 : decode cX3_becomesRow 20 = .ok (.getfield 9, 3) := by decide +kernel
theorem dX3_becomesRow_23 : decode cX3_becomesRow 23 = .ok (.iconst 0, 1) := by decide +kernel
theorem dX3_becomesRow_24 : decode cX3_becomesRow 24 = .ok (.invokestatic 26, 3) := by decide +kernel
theorem dX3_becomesRow_27 : decode cX3_becomesRow 27 = .ok (.return_, 1) := by decide +kernel
theorem dX3_hasFrom_0 : decode cX3_hasFrom 0 = .ok (.iload_n 1, 1) := by decide +kernel
theorem dX3_hasFrom_1 : decode cX3_hasFrom 1 = .ok (.ifCond .lt 29, 3) := by decide +kernel
theorem dX3_hasFrom_4 : decode cX3_hasFrom 4 = .ok (.iload_n 2, 1) := by decide +kernel
theorem dX3_hasFrom_5 : decode cX3_hasFrom 5 = .ok (.ifCond .lt 25, 3) := by decide +kernel
theorem dX3_hasFrom_8 : decode cX3_hasFrom 8 = .ok (.iload_n 1, 1) := by decide +kernel
theorem dX3_hasFrom_9 : decode cX3_hasFrom 9 = .ok (.aload_n 0, 1) := by decide +kernel
theorem dX3_hasFrom_10 : decode cX3_hasFrom 10 = .ok (.getfield 19, 3) := by decide +kernel
theorem dX3_hasFrom_13 : decode cX3_hasFrom 13 = .ok (.if_icmp .gt 17, 3) := by decide +kernel
theorem dX3_hasFrom_16 : decode cX3_hasFrom 16 = .ok (.iload_n 2, 1) := by decide +kernel
theorem dX3_hasFrom_17 : decode cX3_hasFrom 17 = .ok (.aload_n 0, 1) := by decide +kernel
theorem dX3_hasFrom_18 : decode cX3_hasFrom 18 = .ok (.getfield 19, 3) := by decide +kernel
theorem dX3_hasFrom_21 : decode cX3_hasFrom 21 = .ok (.iload_n 1, 1) := by decide +kernel
theorem dX3_hasFrom_22 : decode cX3_hasFrom 22 = .ok (.isub, 1) := by decide +kernel
theorem dX3_hasFrom_23 : decode cX3_hasFrom 23 = .ok (.if_icmp .gt 7, 3) := by decide +kernel
theorem dX3_hasFrom_26 : decode cX3_hasFrom 26 = .ok (.iconst 1, 1) := by decide +kernel
theorem dX3_hasFrom_27 : decode cX3_hasFrom 27 = .ok (.goto 4, 3) := by decide +kernel
theorem dX3_hasFrom_30 : decode cX3_hasFrom 30 = .ok (.iconst 0, 1) := by decide +kernel
theorem dX3_hasFrom_31 : decode cX3_hasFrom 31 = .ok (.ireturn, 1) := by decide +kernel
theorem dX3_at_0 : decode cX3_at 0 = .ok (.iload_n 1, 1) := by decide +kernel
theorem dX3_at_1 : decode cX3_at 1 = .ok (.ifCond .lt 21, 3) := by decide +kernel
theorem dX3_at_4 : decode cX3_at 4 = .ok (.iload_n 1, 1) := by decide +kernel
theorem dX3_at_5 : decode cX3_at 5 = .ok (.aload_n 0, 1) := by decide +kernel
theorem dX3_at_6 : decode cX3_at 6 = .ok (.getfield 9, 3) := by decide +kernel
theorem dX3_at_9 : decode cX3_at 9 = .ok (.arraylength, 1) := by decide +kernel
theorem dX3_at_10 : decode cX3_at 10 = .ok (.if_icmp .ge 12, 3) := by decide +kernel
theorem dX3_at_13 : decode cX3_at 13 = .ok (.aload_n 0, 1) := by decide +kernel
theorem dX3_at_14 : decode cX3_at 14 = .ok (.getfield 9, 3) := by decide +kernel
theorem dX3_at_17 : decode cX3_at 17 = .ok (.iload_n 1, 1) := by decide +kernel
theorem dX3_at_18 : decode cX3_at 18 = .ok (.iaload, 1) := by decide +kernel
theorem dX3_at_19 : decode cX3_at 19 = .ok (.goto 4, 3) := by decide +kernel
theorem dX3_at_22 : decode cX3_at 22 = .ok (.iconst 0, 1) := by decide +kernel
theorem dX3_at_23 : decode cX3_at 23 = .ok (.ireturn, 1) := by decide +kernel
theorem dX3_write_0 : decode cX3_write 0 = .ok (.iload_n 1, 1) := by decide +kernel
theorem dX3_write_1 : decode cX3_write 1 = .ok (.ifCond .lt 44, 3) := by decide +kernel
theorem dX3_write_4 : decode cX3_write 4 = .ok (.iload_n 1, 1) := by decide +kernel
theorem dX3_write_5 : decode cX3_write 5 = .ok (.aload_n 0, 1) := by decide +kernel
theorem dX3_write_6 : decode cX3_write 6 = .ok (.getfield 9, 3) := by decide +kernel
theorem dX3_write_9 : decode cX3_write 9 = .ok (.arraylength, 1) := by decide +kernel
theorem dX3_write_10 : decode cX3_write 10 = .ok (.if_icmp .ge 35, 3) := by decide +kernel
theorem dX3_write_13 : decode cX3_write 13 = .ok (.aload_n 0, 1) := by decide +kernel
theorem dX3_write_14 : decode cX3_write 14 = .ok (.getfield 9, 3) := by decide +kernel
theorem dX3_write_17 : decode cX3_write 17 = .ok (.iload_n 1, 1) := by decide +kernel
theorem dX3_write_18 : decode cX3_write 18 = .ok (.aload_n 0, 1) := by decide +kernel
theorem dX3_write_19 : decode cX3_write 19 = .ok (.getfield 15, 3) := by decide +kernel
theorem dX3_write_22 : decode cX3_write 22 = .ok (.ifCond .ne 8, 3) := by decide +kernel
theorem dX3_write_25 : decode cX3_write 25 = .ok (.iload_n 2, 1) := by decide +kernel
theorem dX3_write_26 : decode cX3_write 26 = .ok (.i2b, 1) := by decide +kernel
theorem dX3_write_27 : decode cX3_write 27 = .ok (.goto 17, 3) := by decide +kernel
theorem dX3_write_30 : decode cX3_write 30 = .ok (.aload_n 0, 1) := by decide +kernel
theorem dX3_write_31 : decode cX3_write 31 = .ok (.getfield 15, 3) := by decide +kernel
theorem dX3_write_34 : decode cX3_write 34 = .ok (.iconst 1, 1) := by decide +kernel
theorem dX3_write_35 : decode cX3_write 35 = .ok (.if_icmp .ne 8, 3) := by decide +kernel
theorem dX3_write_38 : decode cX3_write 38 = .ok (.iload_n 2, 1) := by decide +kernel
theorem dX3_write_39 : decode cX3_write 39 = .ok (.i2s, 1) := by decide +kernel
theorem dX3_write_40 : decode cX3_write 40 = .ok (.goto 4, 3) := by decide +kernel
theorem dX3_write_43 : decode cX3_write 43 = .ok (.iload_n 2, 1) := by decide +kernel
theorem dX3_write_44 : decode cX3_write 44 = .ok (.iastore, 1) := by decide +kernel
theorem dX3_write_45 : decode cX3_write 45 = .ok (.return_, 1) := by decide +kernel
theorem dX4_init_0 : decode cX4_init 0 = .ok (.aload_n 0, 1) := by decide +kernel
theorem dX4_init_1 : decode cX4_init 1 = .ok (.invokespecial 3, 3) := by decide +kernel
theorem dX4_init_4 : decode cX4_init 4 = .ok (.aload_n 0, 1) := by decide +kernel
theorem dX4_init_5 : decode cX4_init 5 = .ok (.sipush 144, 3) := by decide +kernel
theorem dX4_init_8 : decode cX4_init 8 = .ok (.newarray .int, 2) := by decide +kernel
theorem dX4_init_10 : decode cX4_init 10 = .ok (.putfield 9, 3) := by decide +kernel
theorem dX4_init_13 : decode cX4_init 13 = .ok (.aload_n 0, 1) := by decide +kernel
theorem dX4_init_14 : decode cX4_init 14 = .ok (.new 15, 3) := by decide +kernel
theorem dX4_init_17 : decode cX4_init 17 = .ok (.dup, 1) := by decide +kernel
theorem dX4_init_18 : decode cX4_init 18 = .ok (.invokespecial 17, 3) := by decide +kernel
theorem dX4_init_21 : decode cX4_init 21 = .ok (.putfield 18, 3) := by decide +kernel
theorem dX4_init_24 : decode cX4_init 24 = .ok (.aload_n 0, 1) := by decide +kernel
theorem dX4_init_25 : decode cX4_init 25 = .ok (.new 22, 3) := by decide +kernel
theorem dX4_init_28 : decode cX4_init 28 = .ok (.dup, 1) := by decide +kernel
theorem dX4_init_29 : decode cX4_init 29 = .ok (.invokespecial 24, 3) := by decide +kernel
theorem dX4_init_32 : decode cX4_init 32 = .ok (.putfield 25, 3) := by decide +kernel
theorem dX4_init_35 : decode cX4_init 35 = .ok (.aload_n 0, 1) := by decide +kernel
theorem dX4_init_36 : decode cX4_init 36 = .ok (.iconst 0, 1) := by decide +kernel
theorem dX4_init_37 : decode cX4_init 37 = .ok (.putfield 29, 3) := by decide +kernel
theorem dX4_init_40 : decode cX4_init 40 = .ok (.aload_n 0, 1) := by decide +kernel
theorem dX4_init_41 : decode cX4_init 41 = .ok (.iconst 0, 1) := by decide +kernel
theorem dX4_init_42 : decode cX4_init 42 = .ok (.putfield 33, 3) := by decide +kernel
theorem dX4_init_45 : decode cX4_init 45 = .ok (.aload_n 0, 1) := by decide +kernel
theorem dX4_init_46 : decode cX4_init 46 = .ok (.aload_n 1, 1) := by decide +kernel
theorem dX4_init_47 : decode cX4_init 47 = .ok (.putfield 36, 3) := by decide +kernel
theorem dX4_init_50 : decode cX4_init 50 = .ok (.return_, 1) := by decide +kernel
theorem dX4_enters_0 : decode cX4_enters 0 = .ok (.aload_n 0, 1) := by decide +kernel
theorem dX4_enters_1 : decode cX4_enters 1 = .ok (.aload_n 1, 1) := by decide +kernel
theorem dX4_enters_2 : decode cX4_enters 2 = .ok (.putfield 18, 3) := by decide +kernel
theorem dX4_enters_5 : decode cX4_enters 5 = .ok (.aload_n 0, 1) := by decide +kernel
theorem dX4_enters_6 : decode cX4_enters 6 = .ok (.aload_n 2, 1) := by decide +kernel
theorem dX4_enters_7 : decode cX4_enters 7 = .ok (.putfield 25, 3) := by decide +kernel
theorem dX4_enters_10 : decode cX4_enters 10 = .ok (.aload_n 0, 1) := by decide +kernel
theorem dX4_enters_11 : decode cX4_enters 11 = .ok (.getfield 9, 3) := by decide +kernel
theorem dX4_enters_14 : decode cX4_enters 14 = .ok (.iconst (-1), 1) := by decide +kernel
theorem dX4_enters_15 : decode cX4_enters 15 = .ok (.invokestatic 40, 3) := by decide +kernel
theorem dX4_enters_18 : decode cX4_enters 18 = .ok (.aload_n 0, 1) := by decide +kernel
theorem dX4_enters_19 : decode cX4_enters 19 = .ok (.aload_n 0, 1) := by decide +kernel
theorem dX4_enters_20 : decode cX4_enters 20 = .ok (.getfield 18, 3) := by decide +kernel
theorem dX4_enters_23 : decode cX4_enters 23 = .ok (.aload_n 0, 1) := by decide +kernel
theorem dX4_enters_24 : decode cX4_enters 24 = .ok (.getfield 36, 3) := by decide +kernel
theorem dX4_enters_27 : decode cX4_enters 27 = .ok (.aload_n 0, 1) := by decide +kernel
theorem dX4_enters_28 : decode cX4_enters 28 = .ok (.getfield 25, 3) := by decide +kernel
theorem dX4_enters_31 : decode cX4_enters 31 = .ok (.iconst 1, 1) := by decide +kernel
theorem dX4_enters_32 : decode cX4_enters 32 = .ok (.aload_n 0, 1) := by decide +kernel
theorem dX4_enters_33 : decode cX4_enters 33 = .ok (.getfield 18, 3) := by decide +kernel
theorem dX4_enters_36 : decode cX4_enters 36 = .ok (.iconst 0, 1) := by decide +kernel
theorem dX4_enters_37 : decode cX4_enters 37 = .ok (.iconst 0, 1) := by decide +kernel
theorem dX4_enters_38 : decode cX4_enters 38 = .ok (.iconst 0, 1) := by decide +kernel
theorem dX4_enters_39 : decode cX4_enters 39 = .ok (.invokevirtual 46, 3) := by decide +kernel
theorem dX4_enters_42 : decode cX4_enters 42 = .ok (.invokevirtual 52, 3) := by decide +kernel
theorem dX4_enters_45 : decode cX4_enters 45 = .ok (.putfield 29, 3) := by decide +kernel
theorem dX4_enters_48 : decode cX4_enters 48 = .ok (.aload_n 0, 1) := by decide +kernel
theorem dX4_enters_49 : decode cX4_enters 49 = .ok (.getfield 18, 3) := by decide +kernel
theorem dX4_enters_52 : decode cX4_enters 52 = .ok (.aload_n 0, 1) := by decide +kernel
theorem dX4_enters_53 : decode cX4_enters 53 = .ok (.getfield 36, 3) := by decide +kernel
theorem dX4_enters_56 : decode cX4_enters 56 = .ok (.aload_n 0, 1) := by decide +kernel
theorem dX4_enters_57 : decode cX4_enters 57 = .ok (.getfield 25, 3) := by decide +kernel
theorem dX4_enters_60 : decode cX4_enters 60 = .ok (.iconst 2, 1) := by decide +kernel
theorem dX4_enters_61 : decode cX4_enters 61 = .ok (.aload_n 0, 1) := by decide +kernel
theorem dX4_enters_62 : decode cX4_enters 62 = .ok (.getfield 18, 3) := by decide +kernel
theorem dX4_enters_65 : decode cX4_enters 65 = .ok (.iconst 0, 1) := by decide +kernel
theorem dX4_enters_66 : decode cX4_enters 66 = .ok (.iconst 0, 1) := by decide +kernel
theorem dX4_enters_67 : decode cX4_enters 67 = .ok (.iconst 4, 1) := by decide +kernel
theorem dX4_enters_68 : decode cX4_enters 68 = .ok (.invokevirtual 46, 3) := by decide +kernel
theorem dX4_enters_71 : decode cX4_enters 71 = .ok (.invokevirtual 55, 3) := by decide +kernel
theorem dX4_enters_74 : decode cX4_enters 74 = .ok (.ireturn, 1) := by decide +kernel
theorem dX4_begins_0 : decode cX4_begins 0 = .ok (.aload_n 0, 1) := by decide +kernel
theorem dX4_begins_1 : decode cX4_begins 1 = .ok (.iconst 0, 1) := by decide +kernel
theorem dX4_begins_2 : decode cX4_begins 2 = .ok (.putfield 33, 3) := by decide +kernel
theorem dX4_begins_5 : decode cX4_begins 5 = .ok (.return_, 1) := by decide +kernel
theorem dX4_strength_0 : decode cX4_strength 0 = .ok (.iload_n 1, 1) := by decide +kernel
theorem dX4_strength_1 : decode cX4_strength 1 = .ok (.iconst 4, 1) := by decide +kernel
theorem dX4_strength_2 : decode cX4_strength 2 = .ok (.imul, 1) := by decide +kernel
theorem dX4_strength_3 : decode cX4_strength 3 = .ok (.iload_n 2, 1) := by decide +kernel
theorem dX4_strength_4 : decode cX4_strength 4 = .ok (.iadd, 1) := by decide +kernel
theorem dX4_strength_5 : decode cX4_strength 5 = .ok (.bipush 9, 2) := by decide +kernel
theorem dX4_strength_7 : decode cX4_strength 7 = .ok (.imul, 1) := by decide +kernel
theorem dX4_strength_8 : decode cX4_strength 8 = .ok (.iload_n 3, 1) := by decide +kernel
theorem dX4_strength_9 : decode cX4_strength 9 = .ok (.iadd, 1) := by decide +kernel
theorem dX4_strength_10 : decode cX4_strength 10 = .ok (.istore 4, 2) := by decide +kernel
theorem dX4_strength_12 : decode cX4_strength 12 = .ok (.iload 4, 2) := by decide +kernel
theorem dX4_strength_14 : decode cX4_strength 14 = .ok (.ifCond .lt 13, 3) := by decide +kernel
theorem dX4_strength_17 : decode cX4_strength 17 = .ok (.iload 4, 2) := by decide +kernel
theorem dX4_strength_19 : decode cX4_strength 19 = .ok (.aload_n 0, 1) := by decide +kernel
theorem dX4_strength_20 : decode cX4_strength 20 = .ok (.getfield 9, 3) := by decide +kernel
theorem dX4_strength_23 : decode cX4_strength 23 = .ok (.arraylength, 1) := by decide +kernel
theorem dX4_strength_24 : decode cX4_strength 24 = .ok (.if_icmp .lt 5, 3) := by decide +kernel
theorem dX4_strength_27 : decode cX4_strength 27 = .ok (.iconst 0, 1) := by decide +kernel
theorem dX4_strength_28 : decode cX4_strength 28 = .ok (.ireturn, 1) := by decide +kernel
theorem dX4_strength_29 : decode cX4_strength 29 = .ok (.aload_n 0, 1) := by decide +kernel
theorem dX4_strength_30 : decode cX4_strength 30 = .ok (.getfield 9, 3) := by decide +kernel
theorem dX4_strength_33 : decode cX4_strength 33 = .ok (.iload 4, 2) := by decide +kernel
theorem dX4_strength_35 : decode cX4_strength 35 = .ok (.iaload, 1) := by decide +kernel
theorem dX4_strength_36 : decode cX4_strength 36 = .ok (.iconst (-1), 1) := by decide +kernel
theorem dX4_strength_37 : decode cX4_strength 37 = .ok (.if_icmp .ne 54, 3) := by decide +kernel
theorem dX4_strength_40 : decode cX4_strength 40 = .ok (.aload_n 0, 1) := by decide +kernel
theorem dX4_strength_41 : decode cX4_strength 41 = .ok (.getfield 36, 3) := by decide +kernel
theorem dX4_strength_44 : decode cX4_strength 44 = .ok (.aload_n 0, 1) := by decide +kernel
theorem dX4_strength_45 : decode cX4_strength 45 = .ok (.getfield 25, 3) := by decide +kernel
theorem dX4_strength_48 : decode cX4_strength 48 = .ok (.iconst 0, 1) := by decide +kernel
theorem dX4_strength_49 : decode cX4_strength 49 = .ok (.aload_n 0, 1) := by decide +kernel
theorem dX4_strength_50 : decode cX4_strength 50 = .ok (.getfield 18, 3) := by decide +kernel
theorem dX4_strength_53 : decode cX4_strength 53 = .ok (.iload_n 1, 1) := by decide +kernel
theorem dX4_strength_54 : decode cX4_strength 54 = .ok (.iload_n 2, 1) := by decide +kernel
theorem dX4_strength_55 : decode cX4_strength 55 = .ok (.iload_n 3, 1) := by decide +kernel
theorem dX4_strength_56 : decode cX4_strength 56 = .ok (.invokevirtual 46, 3) := by decide +kernel
theorem dX4_strength_59 : decode cX4_strength 59 = .ok (.istore 5, 2) := by decide +kernel
theorem dX4_strength_61 : decode cX4_strength 61 = .ok (.aload_n 0, 1) := by decide +kernel
theorem dX4_strength_62 : decode cX4_strength 62 = .ok (.getfield 9, 3) := by decide +kernel
theorem dX4_strength_65 : decode cX4_strength 65 = .ok (.iload 4, 2) := by decide +kernel
theorem dX4_strength_67 : decode cX4_strength 67 = .ok (.iconst 0, 1) := by decide +kernel
theorem dX4_strength_68 : decode cX4_strength 68 = .ok (.aload_n 0, 1) := by decide +kernel
theorem dX4_strength_69 : decode cX4_strength 69 = .ok (.getfield 18, 3) := by decide +kernel
theorem dX4_strength_72 : decode cX4_strength 72 = .ok (.iload 5, 2) := by decide +kernel
theorem dX4_strength_74 : decode cX4_strength 74 = .ok (.iload_n 1, 1) := by decide +kernel
theorem dX4_strength_75 : decode cX4_strength 75 = .ok (.iload_n 2, 1) := by decide +kernel
theorem dX4_strength_76 : decode cX4_strength 76 = .ok (.invokevirtual 58, 3) := by decide +kernel
theorem dX4_strength_79 : decode cX4_strength 79 = .ok (.aload_n 0, 1) := by decide +kernel
theorem dX4_strength_80 : decode cX4_strength 80 = .ok (.getfield 18, 3) := by decide +kernel
theorem dX4_strength_83 : decode cX4_strength 83 = .ok (.getfield 62, 3) := by decide +kernel
theorem dX4_strength_86 : decode cX4_strength 86 = .ok (.isub, 1) := by decide +kernel
theorem dX4_strength_87 : decode cX4_strength 87 = .ok (.invokestatic 65, 3) := by decide +kernel
theorem dX4_strength_90 : decode cX4_strength 90 = .ok (.iastore, 1) := by decide +kernel
theorem dX4_strength_91 : decode cX4_strength 91 = .ok (.aload_n 0, 1) := by decide +kernel
theorem dX4_strength_92 : decode cX4_strength 92 = .ok (.getfield 9, 3) := by decide +kernel
theorem dX4_strength_95 : decode cX4_strength 95 = .ok (.iload 4, 2) := by decide +kernel
theorem dX4_strength_97 : decode cX4_strength 97 = .ok (.iaload, 1) := by decide +kernel
theorem dX4_strength_98 : decode cX4_strength 98 = .ok (.ireturn, 1) := by decide +kernel
theorem dX4_stands_0 : decode cX4_stands 0 = .ok (.aload_n 0, 1) := by decide +kernel
theorem dX4_stands_1 : decode cX4_stands 1 = .ok (.getfield 33, 3) := by decide +kernel
theorem dX4_stands_4 : decode cX4_stands 4 = .ok (.aload_n 0, 1) := by decide +kernel
theorem dX4_stands_5 : decode cX4_stands 5 = .ok (.getfield 29, 3) := by decide +kernel
theorem dX4_stands_8 : decode cX4_stands 8 = .ok (.if_icmp .lt 5, 3) := by decide +kernel
theorem dX4_stands_11 : decode cX4_stands 11 = .ok (.iconst 0, 1) := by decide +kernel
theorem dX4_stands_12 : decode cX4_stands 12 = .ok (.ireturn, 1) := by decide +kernel
theorem dX4_stands_13 : decode cX4_stands 13 = .ok (.aload_n 0, 1) := by decide +kernel
theorem dX4_stands_14 : decode cX4_stands 14 = .ok (.dup, 1) := by decide +kernel
theorem dX4_stands_15 : decode cX4_stands 15 = .ok (.getfield 33, 3) := by decide +kernel
theorem dX4_stands_18 : decode cX4_stands 18 = .ok (.iconst 1, 1) := by decide +kernel
theorem dX4_stands_19 : decode cX4_stands 19 = .ok (.iadd, 1) := by decide +kernel
theorem dX4_stands_20 : decode cX4_stands 20 = .ok (.putfield 33, 3) := by decide +kernel
theorem dX4_stands_23 : decode cX4_stands 23 = .ok (.iconst 1, 1) := by decide +kernel
theorem dX4_stands_24 : decode cX4_stands 24 = .ok (.ireturn, 1) := by decide +kernel
theorem dX5_init_0 : decode cX5_init 0 = .ok (.aload_n 0, 1) := by decide +kernel
theorem dX5_init_1 : decode cX5_init 1 = .ok (.invokespecial 3, 3) := by decide +kernel
theorem dX5_init_4 : decode cX5_init 4 = .ok (.aload_n 0, 1) := by decide +kernel
theorem dX5_init_5 : decode cX5_init 5 = .ok (.bipush 6, 2) := by decide +kernel
theorem dX5_init_7 : decode cX5_init 7 = .ok (.anewarray 9, 3) := by decide +kernel
theorem dX5_init_10 : decode cX5_init 10 = .ok (.putfield 11, 3) := by decide +kernel
theorem dX5_init_13 : decode cX5_init 13 = .ok (.aload_n 0, 1) := by decide +kernel
theorem dX5_init_14 : decode cX5_init 14 = .ok (.iconst 0, 1) := by decide +kernel
theorem dX5_init_15 : decode cX5_init 15 = .ok (.putfield 17, 3) := by decide +kernel
theorem dX5_init_18 : decode cX5_init 18 = .ok (.aload_n 0, 1) := by decide +kernel
theorem dX5_init_19 : decode cX5_init 19 = .ok (.iconst 0, 1) := by decide +kernel
theorem dX5_init_20 : decode cX5_init 20 = .ok (.putfield 21, 3) := by decide +kernel
theorem dX5_init_23 : decode cX5_init 23 = .ok (.aload_n 0, 1) := by decide +kernel
theorem dX5_init_24 : decode cX5_init 24 = .ok (.iconst 0, 1) := by decide +kernel
theorem dX5_init_25 : decode cX5_init 25 = .ok (.putfield 24, 3) := by decide +kernel
theorem dX5_init_28 : decode cX5_init 28 = .ok (.iconst 0, 1) := by decide +kernel
theorem dX5_init_29 : decode cX5_init 29 = .ok (.istore_n 1, 1) := by decide +kernel
theorem dX5_init_30 : decode cX5_init 30 = .ok (.iload_n 1, 1) := by decide +kernel
theorem dX5_init_31 : decode cX5_init 31 = .ok (.aload_n 0, 1) := by decide +kernel
theorem dX5_init_32 : decode cX5_init 32 = .ok (.getfield 11, 3) := by decide +kernel
theorem dX5_init_35 : decode cX5_init 35 = .ok (.arraylength, 1) := by decide +kernel
theorem dX5_init_36 : decode cX5_init 36 = .ok (.if_icmp .ge 22, 3) := by decide +kernel
theorem dX5_init_39 : decode cX5_init 39 = .ok (.aload_n 0, 1) := by decide +kernel
theorem dX5_init_40 : decode cX5_init 40 = .ok (.getfield 11, 3) := by decide +kernel
theorem dX5_init_43 : decode cX5_init 43 = .ok (.iload_n 1, 1) := by decide +kernel
theorem dX5_init_44 : decode cX5_init 44 = .ok (.new 9, 3) := by decide +kernel
theorem dX5_init_47 : decode cX5_init 47 = .ok (.dup, 1) := by decide +kernel
theorem dX5_init_48 : decode cX5_init 48 = .ok (.invokespecial 27, 3) := by decide +kernel
theorem dX5_init_51 : decode cX5_init 51 = .ok (.aastore, 1) := by decide +kernel
theorem dX5_init_52 : decode cX5_init 52 = .ok (.iinc 1 1, 3) := by decide +kernel
theorem dX5_init_55 : decode cX5_init 55 = .ok (.goto (-25), 3) := by decide +kernel
theorem dX5_init_58 : decode cX5_init 58 = .ok (.return_, 1) := by decide +kernel
theorem dX5_has_0 : decode cX5_has 0 = .ok (.iload_n 1, 1) := by decide +kernel
theorem dX5_has_1 : decode cX5_has 1 = .ok (.ifCond .lt 15, 3) := by decide +kernel
theorem dX5_has_4 : decode cX5_has 4 = .ok (.iload_n 1, 1) := by decide +kernel
theorem dX5_has_5 : decode cX5_has 5 = .ok (.aload_n 0, 1) := by decide +kernel
theorem dX5_has_6 : decode cX5_has 6 = .ok (.getfield 17, 3) := by decide +kernel
theorem dX5_has_9 : decode cX5_has 9 = .ok (.if_icmp .ge 7, 3) := by decide +kernel
theorem dX5_has_12 : decode cX5_has 12 = .ok (.iconst 1, 1) := by decide +kernel
theorem dX5_has_13 : decode cX5_has 13 = .ok (.goto 4, 3) := by decide +kernel
theorem dX5_has_16 : decode cX5_has 16 = .ok (.iconst 0, 1) := by decide +kernel
theorem dX5_has_17 : decode cX5_has 17 = .ok (.ireturn, 1) := by decide +kernel
theorem dX5_at_0 : decode cX5_at 0 = .ok (.aload_n 0, 1) := by decide +kernel
theorem dX5_at_1 : decode cX5_at 1 = .ok (.getfield 11, 3) := by decide +kernel
theorem dX5_at_4 : decode cX5_at 4 = .ok (.iload_n 1, 1) := by decide +kernel
theorem dX5_at_5 : decode cX5_at 5 = .ok (.ifCond .lt 16, 3) := by decide +kernel
theorem dX5_at_8 : decode cX5_at 8 = .ok (.iload_n 1, 1) := by decide +kernel
theorem dX5_at_9 : decode cX5_at 9 = .ok (.aload_n 0, 1) := by decide +kernel
theorem dX5_at_10 : decode cX5_at 10 = .ok (.getfield 11, 3) := by decide +kernel
theorem dX5_at_13 : decode cX5_at 13 = .ok (.arraylength, 1) := by decide +kernel
theorem dX5_at_14 : decode cX5_at 14 = .ok (.if_icmp .ge 7, 3) := by decide +kernel
theorem dX5_at_17 : decode cX5_at 17 = .ok (.iload_n 1, 1) := by decide +kernel
theorem dX5_at_18 : decode cX5_at 18 = .ok (.goto 4, 3) := by decide +kernel
theorem dX5_at_21 : decode cX5_at 21 = .ok (.iconst 0, 1) := by decide +kernel
theorem dX5_at_22 : decode cX5_at 22 = .ok (.aaload, 1) := by decide +kernel
theorem dX5_at_23 : decode cX5_at 23 = .ok (.areturn, 1) := by decide +kernel
theorem dX5_becomesLike_0 : decode cX5_becomesLike 0 = .ok (.iconst 0, 1) := by decide +kernel
theorem dX5_becomesLike_1 : decode cX5_becomesLike 1 = .ok (.istore_n 2, 1) := by decide +kernel
theorem dX5_becomesLike_2 : decode cX5_becomesLike 2 = .ok (.iload_n 2, 1) := by decide +kernel
theorem dX5_becomesLike_3 : decode cX5_becomesLike 3 = .ok (.bipush 6, 2) := by decide +kernel
theorem dX5_becomesLike_5 : decode cX5_becomesLike 5 = .ok (.if_icmp .ge 22, 3) := by decide +kernel
theorem dX5_becomesLike_8 : decode cX5_becomesLike 8 = .ok (.aload_n 0, 1) := by decide +kernel
theorem dX5_becomesLike_9 : decode cX5_becomesLike 9 = .ok (.iload_n 2, 1) := by decide +kernel
theorem dX5_becomesLike_10 : decode cX5_becomesLike 10 = .ok (.invokevirtual 28, 3) := by decide +kernel
theorem dX5_becomesLike_13 : decode cX5_becomesLike 13 = .ok (.aload_n 1, 1) := by decide +kernel
theorem dX5_becomesLike_14 : decode cX5_becomesLike 14 = .ok (.iload_n 2, 1) := by decide +kernel
theorem dX5_becomesLike_15 : decode cX5_becomesLike 15 = .ok (.invokevirtual 28, 3) := by decide +kernel
theorem dX5_becomesLike_18 : decode cX5_becomesLike 18 = .ok (.invokevirtual 32, 3) := by decide +kernel
theorem dX5_becomesLike_21 : decode cX5_becomesLike 21 = .ok (.iinc 2 1, 3) := by decide +kernel
theorem dX5_becomesLike_24 : decode cX5_becomesLike 24 = .ok (.goto (-22), 3) := by decide +kernel
theorem dX5_becomesLike_27 : decode cX5_becomesLike 27 = .ok (.aload_n 0, 1) := by decide +kernel
theorem dX5_becomesLike_28 : decode cX5_becomesLike 28 = .ok (.aload_n 1, 1) := by decide +kernel
theorem dX5_becomesLike_29 : decode cX5_becomesLike 29 = .ok (.getfield 17, 3) := by decide +kernel
theorem dX5_becomesLike_32 : decode cX5_becomesLike 32 = .ok (.putfield 17, 3) := by decide +kernel
theorem dX5_becomesLike_35 : decode cX5_becomesLike 35 = .ok (.aload_n 0, 1) := by decide +kernel
theorem dX5_becomesLike_36 : decode cX5_becomesLike 36 = .ok (.aload_n 1, 1) := by decide +kernel
theorem dX5_becomesLike_37 : decode cX5_becomesLike 37 = .ok (.getfield 21, 3) := by decide +kernel
theorem dX5_becomesLike_40 : decode cX5_becomesLike 40 = .ok (.putfield 21, 3) := by decide +kernel
theorem dX5_becomesLike_43 : decode cX5_becomesLike 43 = .ok (.aload_n 0, 1) := by decide +kernel
theorem dX5_becomesLike_44 : decode cX5_becomesLike 44 = .ok (.aload_n 1, 1) := by decide +kernel
theorem dX5_becomesLike_45 : decode cX5_becomesLike 45 = .ok (.getfield 24, 3) := by decide +kernel
theorem dX5_becomesLike_48 : decode cX5_becomesLike 48 = .ok (.putfield 24, 3) := by decide +kernel
theorem dX5_becomesLike_51 : decode cX5_becomesLike 51 = .ok (.return_, 1) := by decide +kernel
theorem dX5_leader_0 : decode cX5_leader 0 = .ok (.iconst (-1), 1) := by decide +kernel
theorem dX5_leader_1 : decode cX5_leader 1 = .ok (.istore_n 1, 1) := by decide +kernel
theorem dX5_leader_2 : decode cX5_leader 2 = .ok (.iconst 0, 1) := by decide +kernel
theorem dX5_leader_3 : decode cX5_leader 3 = .ok (.istore_n 2, 1) := by decide +kernel
theorem dX5_leader_4 : decode cX5_leader 4 = .ok (.iload_n 2, 1) := by decide +kernel
theorem dX5_leader_5 : decode cX5_leader 5 = .ok (.aload_n 0, 1) := by decide +kernel
theorem dX5_leader_6 : decode cX5_leader 6 = .ok (.getfield 17, 3) := by decide +kernel
theorem dX5_leader_9 : decode cX5_leader 9 = .ok (.if_icmp .ge 38, 3) := by decide +kernel
theorem dX5_leader_12 : decode cX5_leader 12 = .ok (.iload_n 1, 1) := by decide +kernel
theorem dX5_leader_13 : decode cX5_leader 13 = .ok (.ifCond .lt 22, 3) := by decide +kernel
theorem dX5_leader_16 : decode cX5_leader 16 = .ok (.aload_n 0, 1) := by decide +kernel
theorem dX5_leader_17 : decode cX5_leader 17 = .ok (.iload_n 2, 1) := by decide +kernel
theorem dX5_leader_18 : decode cX5_leader 18 = .ok (.invokevirtual 28, 3) := by decide +kernel
theorem dX5_leader_21 : decode cX5_leader 21 = .ok (.getfield 36, 3) := by decide +kernel
theorem dX5_leader_24 : decode cX5_leader 24 = .ok (.aload_n 0, 1) := by decide +kernel
theorem dX5_leader_25 : decode cX5_leader 25 = .ok (.iload_n 1, 1) := by decide +kernel
theorem dX5_leader_26 : decode cX5_leader 26 = .ok (.invokevirtual 28, 3) := by decide +kernel
theorem dX5_leader_29 : decode cX5_leader 29 = .ok (.getfield 36, 3) := by decide +kernel
theorem dX5_leader_32 : decode cX5_leader 32 = .ok (.if_icmp .le 7, 3) := by decide +kernel
theorem dX5_leader_35 : decode cX5_leader 35 = .ok (.iload_n 2, 1) := by decide +kernel
theorem dX5_leader_36 : decode cX5_leader 36 = .ok (.goto 4, 3) := by decide +kernel
theorem dX5_leader_39 : decode cX5_leader 39 = .ok (.iload_n 1, 1) := by decide +kernel
theorem dX5_leader_40 : decode cX5_leader 40 = .ok (.istore_n 1, 1) := by decide +kernel
theorem dX5_leader_41 : decode cX5_leader 41 = .ok (.iinc 2 1, 3) := by decide +kernel
theorem dX5_leader_44 : decode cX5_leader 44 = .ok (.goto (-40), 3) := by decide +kernel
theorem dX5_leader_47 : decode cX5_leader 47 = .ok (.iload_n 1, 1) := by decide +kernel
theorem dX5_leader_48 : decode cX5_leader 48 = .ok (.ireturn, 1) := by decide +kernel
theorem dX6_init_0 : decode cX6_init 0 = .ok (.aload_n 0, 1) := by decide +kernel
theorem dX6_init_1 : decode cX6_init 1 = .ok (.invokespecial 3, 3) := by decide +kernel
theorem dX6_init_4 : decode cX6_init 4 = .ok (.aload_n 0, 1) := by decide +kernel
theorem dX6_init_5 : decode cX6_init 5 = .ok (.sipush 160, 3) := by decide +kernel
theorem dX6_init_8 : decode cX6_init 8 = .ok (.newarray .int, 2) := by decide +kernel
theorem dX6_init_10 : decode cX6_init 10 = .ok (.putfield 9, 3) := by decide +kernel
theorem dX6_init_13 : decode cX6_init 13 = .ok (.aload_n 0, 1) := by decide +kernel
theorem dX6_init_14 : decode cX6_init 14 = .ok (.iconst 3, 1) := by decide +kernel
theorem dX6_init_15 : decode cX6_init 15 = .ok (.newarray .int, 2) := by decide +kernel
theorem dX6_init_17 : decode cX6_init 17 = .ok (.putfield 15, 3) := by decide +kernel
theorem dX6_init_20 : decode cX6_init 20 = .ok (.aload_n 0, 1) := by decide +kernel
theorem dX6_init_21 : decode cX6_init 21 = .ok (.iconst 0, 1) := by decide +kernel
theorem dX6_init_22 : decode cX6_init 22 = .ok (.putfield 18, 3) := by decide +kernel
theorem dX6_init_25 : decode cX6_init 25 = .ok (.return_, 1) := by decide +kernel
theorem dX6_add_0 : decode cX6_add 0 = .ok (.aload_n 0, 1) := by decide +kernel
theorem dX6_add_1 : decode cX6_add 1 = .ok (.getfield 18, 3) := by decide +kernel
theorem dX6_add_4 : decode cX6_add 4 = .ok (.aload_n 0, 1) := by decide +kernel
theorem dX6_add_5 : decode cX6_add 5 = .ok (.getfield 9, 3) := by decide +kernel
theorem dX6_add_8 : decode cX6_add 8 = .ok (.arraylength, 1) := by decide +kernel
theorem dX6_add_9 : decode cX6_add 9 = .ok (.if_icmp .ge 23, 3) := by decide +kernel
theorem dX6_add_12 : decode cX6_add 12 = .ok (.aload_n 0, 1) := by decide +kernel
theorem dX6_add_13 : decode cX6_add 13 = .ok (.getfield 9, 3) := by decide +kernel
theorem dX6_add_16 : decode cX6_add 16 = .ok (.aload_n 0, 1) := by decide +kernel
theorem dX6_add_17 : decode cX6_add 17 = .ok (.getfield 18, 3) := by decide +kernel
theorem dX6_add_20 : decode cX6_add 20 = .ok (.iload_n 1, 1) := by decide +kernel
theorem dX6_add_21 : decode cX6_add 21 = .ok (.iastore, 1) := by decide +kernel
theorem dX6_add_22 : decode cX6_add 22 = .ok (.aload_n 0, 1) := by decide +kernel
theorem dX6_add_23 : decode cX6_add 23 = .ok (.dup, 1) := by decide +kernel
theorem dX6_add_24 : decode cX6_add 24 = .ok (.getfield 18, 3) := by decide +kernel
theorem dX6_add_27 : decode cX6_add 27 = .ok (.iconst 1, 1) := by decide +kernel
theorem dX6_add_28 : decode cX6_add 28 = .ok (.iadd, 1) := by decide +kernel
theorem dX6_add_29 : decode cX6_add 29 = .ok (.putfield 18, 3) := by decide +kernel
theorem dX6_add_32 : decode cX6_add 32 = .ok (.return_, 1) := by decide +kernel
theorem dX6_endPart_0 : decode cX6_endPart 0 = .ok (.iload_n 1, 1) := by decide +kernel
theorem dX6_endPart_1 : decode cX6_endPart 1 = .ok (.ifCond .lt 22, 3) := by decide +kernel
theorem dX6_endPart_4 : decode cX6_endPart 4 = .ok (.iload_n 1, 1) := by decide +kernel
theorem dX6_endPart_5 : decode cX6_endPart 5 = .ok (.aload_n 0, 1) := by decide +kernel
theorem dX6_endPart_6 : decode cX6_endPart 6 = .ok (.getfield 15, 3) := by decide +kernel
theorem dX6_endPart_9 : decode cX6_endPart 9 = .ok (.arraylength, 1) := by decide +kernel
theorem dX6_endPart_10 : decode cX6_endPart 10 = .ok (.if_icmp .ge 13, 3) := by decide +kernel
theorem dX6_endPart_13 : decode cX6_endPart 13 = .ok (.aload_n 0, 1) := by decide +kernel
theorem dX6_endPart_14 : decode cX6_endPart 14 = .ok (.getfield 15, 3) := by decide +kernel
theorem dX6_endPart_17 : decode cX6_endPart 17 = .ok (.iload_n 1, 1) := by decide +kernel
theorem dX6_endPart_18 : decode cX6_endPart 18 = .ok (.aload_n 0, 1) := by decide +kernel
theorem dX6_endPart_19 : decode cX6_endPart 19 = .ok (.getfield 18, 3) := by decide +kernel
theorem dX6_endPart_22 : decode cX6_endPart 22 = .ok (.iastore, 1) := by decide +kernel
theorem dX6_endPart_23 : decode cX6_endPart 23 = .ok (.return_, 1) := by decide +kernel
theorem dX6_endOf_0 : decode cX6_endOf 0 = .ok (.iload_n 1, 1) := by decide +kernel
theorem dX6_endOf_1 : decode cX6_endOf 1 = .ok (.ifCond .lt 21, 3) := by decide +kernel
theorem dX6_endOf_4 : decode cX6_endOf 4 = .ok (.iload_n 1, 1) := by decide +kernel
theorem dX6_endOf_5 : decode cX6_endOf 5 = .ok (.aload_n 0, 1) := by decide +kernel
theorem dX6_endOf_6 : decode cX6_endOf 6 = .ok (.getfield 15, 3) := by decide +kernel
theorem dX6_endOf_9 : decode cX6_endOf 9 = .ok (.arraylength, 1) := by decide +kernel
theorem dX6_endOf_10 : decode cX6_endOf 10 = .ok (.if_icmp .ge 12, 3) := by decide +kernel
theorem dX6_endOf_13 : decode cX6_endOf 13 = .ok (.aload_n 0, 1) := by decide +kernel
theorem dX6_endOf_14 : decode cX6_endOf 14 = .ok (.getfield 15, 3) := by decide +kernel
theorem dX6_endOf_17 : decode cX6_endOf 17 = .ok (.iload_n 1, 1) := by decide +kernel
theorem dX6_endOf_18 : decode cX6_endOf 18 = .ok (.iaload, 1) := by decide +kernel
theorem dX6_endOf_19 : decode cX6_endOf 19 = .ok (.goto 4, 3) := by decide +kernel
theorem dX6_endOf_22 : decode cX6_endOf 22 = .ok (.iconst 0, 1) := by decide +kernel
theorem dX6_endOf_23 : decode cX6_endOf 23 = .ok (.ireturn, 1) := by decide +kernel
theorem dX7_init_0 : decode cX7_init 0 = .ok (.aload_n 0, 1) := by decide +kernel
theorem dX7_init_1 : decode cX7_init 1 = .ok (.invokespecial 3, 3) := by decide +kernel
theorem dX7_init_4 : decode cX7_init 4 = .ok (.return_, 1) := by decide +kernel
theorem dX7_comes_0 : decode cX7_comes 0 = .ok (.aload_n 0, 1) := by decide +kernel
theorem dX7_comes_1 : decode cX7_comes 1 = .ok (.iload_n 1, 1) := by decide +kernel
theorem dX7_comes_2 : decode cX7_comes 2 = .ok (.putfield 9, 3) := by decide +kernel
theorem dX7_comes_5 : decode cX7_comes 5 = .ok (.aload_n 0, 1) := by decide +kernel
theorem dX7_comes_6 : decode cX7_comes 6 = .ok (.iload_n 2, 1) := by decide +kernel
theorem dX7_comes_7 : decode cX7_comes 7 = .ok (.putfield 15, 3) := by decide +kernel
theorem dX7_comes_10 : decode cX7_comes 10 = .ok (.aload_n 0, 1) := by decide +kernel
theorem dX7_comes_11 : decode cX7_comes 11 = .ok (.iload_n 3, 1) := by decide +kernel
theorem dX7_comes_12 : decode cX7_comes 12 = .ok (.putfield 18, 3) := by decide +kernel
theorem dX7_comes_15 : decode cX7_comes 15 = .ok (.aload_n 0, 1) := by decide +kernel
theorem dX7_comes_16 : decode cX7_comes 16 = .ok (.iload 4, 2) := by decide +kernel
theorem dX7_comes_18 : decode cX7_comes 18 = .ok (.putfield 21, 3) := by decide +kernel
theorem dX7_comes_21 : decode cX7_comes 21 = .ok (.aload_n 0, 1) := by decide +kernel
theorem dX7_comes_22 : decode cX7_comes 22 = .ok (.iconst 0, 1) := by decide +kernel
theorem dX7_comes_23 : decode cX7_comes 23 = .ok (.putfield 24, 3) := by decide +kernel
theorem dX7_comes_26 : decode cX7_comes 26 = .ok (.aload_n 0, 1) := by decide +kernel
theorem dX7_comes_27 : decode cX7_comes 27 = .ok (.iconst 0, 1) := by decide +kernel
theorem dX7_comes_28 : decode cX7_comes 28 = .ok (.putfield 27, 3) := by decide +kernel
theorem dX7_comes_31 : decode cX7_comes 31 = .ok (.aload_n 0, 1) := by decide +kernel
theorem dX7_comes_32 : decode cX7_comes 32 = .ok (.iconst 0, 1) := by decide +kernel
theorem dX7_comes_33 : decode cX7_comes 33 = .ok (.putfield 30, 3) := by decide +kernel
theorem dX7_comes_36 : decode cX7_comes 36 = .ok (.return_, 1) := by decide +kernel
theorem dX7_becomesLike_0 : decode cX7_becomesLike 0 = .ok (.aload_n 0, 1) := by decide +kernel
theorem dX7_becomesLike_1 : decode cX7_becomesLike 1 = .ok (.aload_n 1, 1) := by decide +kernel
theorem dX7_becomesLike_2 : decode cX7_becomesLike 2 = .ok (.getfield 9, 3) := by decide +kernel
theorem dX7_becomesLike_5 : decode cX7_becomesLike 5 = .ok (.aload_n 1, 1) := by decide +kernel
theorem dX7_becomesLike_6 : decode cX7_becomesLike 6 = .ok (.getfield 15, 3) := by decide +kernel
theorem dX7_becomesLike_9 : decode cX7_becomesLike 9 = .ok (.aload_n 1, 1) := by decide +kernel
theorem dX7_becomesLike_10 : decode cX7_becomesLike 10 = .ok (.getfield 18, 3) := by decide +kernel
theorem dX7_becomesLike_13 : decode cX7_becomesLike 13 = .ok (.aload_n 1, 1) := by decide +kernel
theorem dX7_becomesLike_14 : decode cX7_becomesLike 14 = .ok (.getfield 21, 3) := by decide +kernel
theorem dX7_becomesLike_17 : decode cX7_becomesLike 17 = .ok (.invokevirtual 33, 3) := by decide +kernel
theorem dX7_becomesLike_20 : decode cX7_becomesLike 20 = .ok (.aload_n 0, 1) := by decide +kernel
theorem dX7_becomesLike_21 : decode cX7_becomesLike 21 = .ok (.aload_n 1, 1) := by decide +kernel
theorem dX7_becomesLike_22 : decode cX7_becomesLike 22 = .ok (.getfield 24, 3) := by decide +kernel
theorem dX7_becomesLike_25 : decode cX7_becomesLike 25 = .ok (.putfield 24, 3) := by decide +kernel
theorem dX7_becomesLike_28 : decode cX7_becomesLike 28 = .ok (.aload_n 0, 1) := by decide +kernel
theorem dX7_becomesLike_29 : decode cX7_becomesLike 29 = .ok (.aload_n 1, 1) := by decide +kernel
theorem dX7_becomesLike_30 : decode cX7_becomesLike 30 = .ok (.getfield 27, 3) := by decide +kernel
theorem dX7_becomesLike_33 : decode cX7_becomesLike 33 = .ok (.putfield 27, 3) := by decide +kernel
theorem dX7_becomesLike_36 : decode cX7_becomesLike 36 = .ok (.aload_n 0, 1) := by decide +kernel
theorem dX7_becomesLike_37 : decode cX7_becomesLike 37 = .ok (.aload_n 1, 1) := by decide +kernel
theorem dX7_becomesLike_38 : decode cX7_becomesLike 38 = .ok (.getfield 30, 3) := by decide +kernel
theorem dX7_becomesLike_41 : decode cX7_becomesLike 41 = .ok (.putfield 30, 3) := by decide +kernel
theorem dX7_becomesLike_44 : decode cX7_becomesLike 44 = .ok (.return_, 1) := by decide +kernel
theorem dX7_tells_0 : decode cX7_tells 0 = .ok (.iload_n 1, 1) := by decide +kernel
theorem dX7_tells_1 : decode cX7_tells 1 = .ok (.tableswitch 69 0 5 #[39, 44, 49, 54, 59, 64], 39) := by decide +kernel
theorem dX7_tells_40 : decode cX7_tells 40 = .ok (.aload_n 0, 1) := by decide +kernel
theorem dX7_tells_41 : decode cX7_tells 41 = .ok (.getfield 18, 3) := by decide +kernel
theorem dX7_tells_44 : decode cX7_tells 44 = .ok (.ireturn, 1) := by decide +kernel
theorem dX7_tells_45 : decode cX7_tells 45 = .ok (.aload_n 0, 1) := by decide +kernel
theorem dX7_tells_46 : decode cX7_tells 46 = .ok (.getfield 21, 3) := by decide +kernel
theorem dX7_tells_49 : decode cX7_tells 49 = .ok (.ireturn, 1) := by decide +kernel
theorem dX7_tells_50 : decode cX7_tells 50 = .ok (.aload_n 0, 1) := by decide +kernel
theorem dX7_tells_51 : decode cX7_tells 51 = .ok (.getfield 24, 3) := by decide +kernel
theorem dX7_tells_54 : decode cX7_tells 54 = .ok (.ireturn, 1) := by decide +kernel
theorem dX7_tells_55 : decode cX7_tells 55 = .ok (.aload_n 0, 1) := by decide +kernel
theorem dX7_tells_56 : decode cX7_tells 56 = .ok (.getfield 27, 3) := by decide +kernel
theorem dX7_tells_59 : decode cX7_tells 59 = .ok (.ireturn, 1) := by decide +kernel
theorem dX7_tells_60 : decode cX7_tells 60 = .ok (.aload_n 0, 1) := by decide +kernel
theorem dX7_tells_61 : decode cX7_tells 61 = .ok (.getfield 30, 3) := by decide +kernel
theorem dX7_tells_64 : decode cX7_tells 64 = .ok (.ireturn, 1) := by decide +kernel
theorem dX7_tells_65 : decode cX7_tells 65 = .ok (.aload_n 0, 1) := by decide +kernel
theorem dX7_tells_66 : decode cX7_tells 66 = .ok (.getfield 9, 3) := by decide +kernel
theorem dX7_tells_69 : decode cX7_tells 69 = .ok (.ireturn, 1) := by decide +kernel
theorem dX7_tells_70 : decode cX7_tells 70 = .ok (.aload_n 0, 1) := by decide +kernel
theorem dX7_tells_71 : decode cX7_tells 71 = .ok (.getfield 15, 3) := by decide +kernel
theorem dX7_tells_74 : decode cX7_tells 74 = .ok (.ireturn, 1) := by decide +kernel
theorem dX7_becomes_0 : decode cX7_becomes 0 = .ok (.iload_n 1, 1) := by decide +kernel
theorem dX7_becomes_1 : decode cX7_becomes 1 = .ok (.tableswitch 71 0 5 #[39, 47, 55, 71, 71, 63], 39) := by decide +kernel
theorem dX7_becomes_40 : decode cX7_becomes 40 = .ok (.aload_n 0, 1) := by decide +kernel
theorem dX7_becomes_41 : decode cX7_becomes 41 = .ok (.iload_n 2, 1) := by decide +kernel
theorem dX7_becomes_42 : decode cX7_becomes 42 = .ok (.putfield 18, 3) := by decide +kernel
theorem dX7_becomes_45 : decode cX7_becomes 45 = .ok (.goto 32, 3) := by decide +kernel
theorem dX7_becomes_48 : decode cX7_becomes 48 = .ok (.aload_n 0, 1) := by decide +kernel
theorem dX7_becomes_49 : decode cX7_becomes 49 = .ok (.iload_n 2, 1) := by decide +kernel
theorem dX7_becomes_50 : decode cX7_becomes 50 = .ok (.putfield 21, 3) := by decide +kernel
theorem dX7_becomes_53 : decode cX7_becomes 53 = .ok (.goto 24, 3) := by decide +kernel
theorem dX7_becomes_56 : decode cX7_becomes 56 = .ok (.aload_n 0, 1) := by decide +kernel
theorem dX7_becomes_57 : decode cX7_becomes 57 = .ok (.iload_n 2, 1) := by decide +kernel
theorem dX7_becomes_58 : decode cX7_becomes 58 = .ok (.putfield 24, 3) := by decide +kernel
theorem dX7_becomes_61 : decode cX7_becomes 61 = .ok (.goto 16, 3) := by decide +kernel
theorem dX7_becomes_64 : decode cX7_becomes 64 = .ok (.aload_n 0, 1) := by decide +kernel
theorem dX7_becomes_65 : decode cX7_becomes 65 = .ok (.iload_n 2, 1) := by decide +kernel
theorem dX7_becomes_66 : decode cX7_becomes 66 = .ok (.putfield 9, 3) := by decide +kernel
theorem dX7_becomes_69 : decode cX7_becomes 69 = .ok (.goto 8, 3) := by decide +kernel
theorem dX7_becomes_72 : decode cX7_becomes 72 = .ok (.aload_n 0, 1) := by decide +kernel
theorem dX7_becomes_73 : decode cX7_becomes 73 = .ok (.iload_n 2, 1) := by decide +kernel
theorem dX7_becomes_74 : decode cX7_becomes 74 = .ok (.putfield 15, 3) := by decide +kernel
theorem dX7_becomes_77 : decode cX7_becomes 77 = .ok (.return_, 1) := by decide +kernel
theorem dX7_isOf_0 : decode cX7_isOf 0 = .ok (.iload_n 1, 1) := by decide +kernel
theorem dX7_isOf_1 : decode cX7_isOf 1 = .ok (.tableswitch 73 0 2 #[27, 29, 51], 27) := by decide +kernel
theorem dX7_isOf_28 : decode cX7_isOf 28 = .ok (.iconst 1, 1) := by decide +kernel
theorem dX7_isOf_29 : decode cX7_isOf 29 = .ok (.ireturn, 1) := by decide +kernel
theorem dX7_isOf_30 : decode cX7_isOf 30 = .ok (.aload_n 0, 1) := by decide +kernel
theorem dX7_isOf_31 : decode cX7_isOf 31 = .ok (.getfield 9, 3) := by decide +kernel
theorem dX7_isOf_34 : decode cX7_isOf 34 = .ok (.iconst 1, 1) := by decide +kernel
theorem dX7_isOf_35 : decode cX7_isOf 35 = .ok (.if_icmp .eq 11, 3) := by decide +kernel
theorem dX7_isOf_38 : decode cX7_isOf 38 = .ok (.aload_n 0, 1) := by decide +kernel
theorem dX7_isOf_39 : decode cX7_isOf 39 = .ok (.getfield 9, 3) := by decide +kernel
theorem dX7_isOf_42 : decode cX7_isOf 42 = .ok (.iconst 3, 1) := by decide +kernel
theorem dX7_isOf_43 : decode cX7_isOf 43 = .ok (.if_icmp .ne 7, 3) := by decide +kernel
theorem dX7_isOf_46 : decode cX7_isOf 46 = .ok (.iconst 1, 1) := by decide +kernel
theorem dX7_isOf_47 : decode cX7_isOf 47 = .ok (.goto 4, 3) := by decide +kernel
theorem dX7_isOf_50 : decode cX7_isOf 50 = .ok (.iconst 0, 1) := by decide +kernel
theorem dX7_isOf_51 : decode cX7_isOf 51 = .ok (.ireturn, 1) := by decide +kernel
theorem dX7_isOf_52 : decode cX7_isOf 52 = .ok (.aload_n 0, 1) := by decide +kernel
theorem dX7_isOf_53 : decode cX7_isOf 53 = .ok (.getfield 9, 3) := by decide +kernel
theorem dX7_isOf_56 : decode cX7_isOf 56 = .ok (.iconst 2, 1) := by decide +kernel
theorem dX7_isOf_57 : decode cX7_isOf 57 = .ok (.if_icmp .eq 11, 3) := by decide +kernel
theorem dX7_isOf_60 : decode cX7_isOf 60 = .ok (.aload_n 0, 1) := by decide +kernel
theorem dX7_isOf_61 : decode cX7_isOf 61 = .ok (.getfield 9, 3) := by decide +kernel
theorem dX7_isOf_64 : decode cX7_isOf 64 = .ok (.iconst 4, 1) := by decide +kernel
theorem dX7_isOf_65 : decode cX7_isOf 65 = .ok (.if_icmp .ne 7, 3) := by decide +kernel
theorem dX7_isOf_68 : decode cX7_isOf 68 = .ok (.iconst 1, 1) := by decide +kernel
theorem dX7_isOf_69 : decode cX7_isOf 69 = .ok (.goto 4, 3) := by decide +kernel
theorem dX7_isOf_72 : decode cX7_isOf 72 = .ok (.iconst 0, 1) := by decide +kernel
theorem dX7_isOf_73 : decode cX7_isOf 73 = .ok (.ireturn, 1) := by decide +kernel
theorem dX7_isOf_74 : decode cX7_isOf 74 = .ok (.aload_n 0, 1) := by decide +kernel
theorem dX7_isOf_75 : decode cX7_isOf 75 = .ok (.getfield 9, 3) := by decide +kernel
theorem dX7_isOf_78 : decode cX7_isOf 78 = .ok (.iload_n 1, 1) := by decide +kernel
theorem dX7_isOf_79 : decode cX7_isOf 79 = .ok (.if_icmp .ne 7, 3) := by decide +kernel
theorem dX7_isOf_82 : decode cX7_isOf 82 = .ok (.iconst 1, 1) := by decide +kernel
theorem dX7_isOf_83 : decode cX7_isOf 83 = .ok (.goto 4, 3) := by decide +kernel
theorem dX7_isOf_86 : decode cX7_isOf 86 = .ok (.iconst 0, 1) := by decide +kernel
theorem dX7_isOf_87 : decode cX7_isOf 87 = .ok (.ireturn, 1) := by decide +kernel
theorem dX7_forces_0 : decode cX7_forces 0 = .ok (.iload_n 2, 1) := by decide +kernel
theorem dX7_forces_1 : decode cX7_forces 1 = .ok (.iconst 2, 1) := by decide +kernel
theorem dX7_forces_2 : decode cX7_forces 2 = .ok (.if_icmp .eq 7, 3) := by decide +kernel
theorem dX7_forces_5 : decode cX7_forces 5 = .ok (.iload_n 1, 1) := by decide +kernel
theorem dX7_forces_6 : decode cX7_forces 6 = .ok (.goto 14, 3) := by decide +kernel
theorem dX7_forces_9 : decode cX7_forces 9 = .ok (.iload_n 3, 1) := by decide +kernel
theorem dX7_forces_10 : decode cX7_forces 10 = .ok (.ifCond .ne 9, 3) := by decide +kernel
theorem dX7_forces_13 : decode cX7_forces 13 = .ok (.iconst 2, 1) := by decide +kernel
theorem dX7_forces_14 : decode cX7_forces 14 = .ok (.iload_n 1, 1) := by decide +kernel
theorem dX7_forces_15 : decode cX7_forces 15 = .ok (.imul, 1) := by decide +kernel
theorem dX7_forces_16 : decode cX7_forces 16 = .ok (.goto 4, 3) := by decide +kernel
theorem dX7_forces_19 : decode cX7_forces 19 = .ok (.iconst 0, 1) := by decide +kernel
theorem dX7_forces_20 : decode cX7_forces 20 = .ok (.istore 4, 2) := by decide +kernel
theorem dX7_forces_22 : decode cX7_forces 22 = .ok (.aload_n 0, 1) := by decide +kernel
theorem dX7_forces_23 : decode cX7_forces 23 = .ok (.getfield 9, 3) := by decide +kernel
theorem dX7_forces_26 : decode cX7_forces 26 = .ok (.tableswitch 96 1 5 #[34, 42, 59, 42, 76], 34) := by decide +kernel
theorem dX7_forces_60 : decode cX7_forces 60 = .ok (.aload_n 0, 1) := by decide +kernel
theorem dX7_forces_61 : decode cX7_forces 61 = .ok (.iload 4, 2) := by decide +kernel
theorem dX7_forces_63 : decode cX7_forces 63 = .ok (.iload_n 2, 1) := by decide +kernel
theorem dX7_forces_64 : decode cX7_forces 64 = .ok (.invokevirtual 37, 3) := by decide +kernel
theorem dX7_forces_67 : decode cX7_forces 67 = .ok (.ireturn, 1) := by decide +kernel
theorem dX7_forces_68 : decode cX7_forces 68 = .ok (.iload_n 2, 1) := by decide +kernel
theorem dX7_forces_69 : decode cX7_forces 69 = .ok (.iconst 1, 1) := by decide +kernel
theorem dX7_forces_70 : decode cX7_forces 70 = .ok (.if_icmp .ne 10, 3) := by decide +kernel
theorem dX7_forces_73 : decode cX7_forces 73 = .ok (.iload 4, 2) := by decide +kernel
theorem dX7_forces_75 : decode cX7_forces 75 = .ok (.iconst 5, 1) := by decide +kernel
theorem dX7_forces_76 : decode cX7_forces 76 = .ok (.iadd, 1) := by decide +kernel
theorem dX7_forces_77 : decode cX7_forces 77 = .ok (.goto 7, 3) := by decide +kernel
theorem dX7_forces_80 : decode cX7_forces 80 = .ok (.iload 4, 2) := by decide +kernel
theorem dX7_forces_82 : decode cX7_forces 82 = .ok (.iconst 2, 1) := by decide +kernel
theorem dX7_forces_83 : decode cX7_forces 83 = .ok (.idiv, 1) := by decide +kernel
theorem dX7_forces_84 : decode cX7_forces 84 = .ok (.ireturn, 1) := by decide +kernel
theorem dX7_forces_85 : decode cX7_forces 85 = .ok (.iload_n 3, 1) := by decide +kernel
theorem dX7_forces_86 : decode cX7_forces 86 = .ok (.iconst 2, 1) := by decide +kernel
theorem dX7_forces_87 : decode cX7_forces 87 = .ok (.if_icmp .ne 7, 3) := by decide +kernel
theorem dX7_forces_90 : decode cX7_forces 90 = .ok (.iconst 0, 1) := by decide +kernel
theorem dX7_forces_91 : decode cX7_forces 91 = .ok (.goto 10, 3) := by decide +kernel
theorem dX7_forces_94 : decode cX7_forces 94 = .ok (.aload_n 0, 1) := by decide +kernel
theorem dX7_forces_95 : decode cX7_forces 95 = .ok (.iload 4, 2) := by decide +kernel
theorem dX7_forces_97 : decode cX7_forces 97 = .ok (.iload_n 2, 1) := by decide +kernel
theorem dX7_forces_98 : decode cX7_forces 98 = .ok (.invokevirtual 37, 3) := by decide +kernel
theorem dX7_forces_101 : decode cX7_forces 101 = .ok (.ireturn, 1) := by decide +kernel
theorem dX7_forces_102 : decode cX7_forces 102 = .ok (.iload_n 2, 1) := by decide +kernel
theorem dX7_forces_103 : decode cX7_forces 103 = .ok (.iload_n 3, 1) := by decide +kernel
theorem dX7_forces_104 : decode cX7_forces 104 = .ok (.if_icmp .ne 10, 3) := by decide +kernel
theorem dX7_forces_107 : decode cX7_forces 107 = .ok (.iload 4, 2) := by decide +kernel
theorem dX7_forces_109 : decode cX7_forces 109 = .ok (.iconst 2, 1) := by decide +kernel
theorem dX7_forces_110 : decode cX7_forces 110 = .ok (.idiv, 1) := by decide +kernel
theorem dX7_forces_111 : decode cX7_forces 111 = .ok (.goto 10, 3) := by decide +kernel
theorem dX7_forces_114 : decode cX7_forces 114 = .ok (.iload 4, 2) := by decide +kernel
theorem dX7_forces_116 : decode cX7_forces 116 = .ok (.aload_n 0, 1) := by decide +kernel
theorem dX7_forces_117 : decode cX7_forces 117 = .ok (.getfield 15, 3) := by decide +kernel
theorem dX7_forces_120 : decode cX7_forces 120 = .ok (.iadd, 1) := by decide +kernel
theorem dX7_forces_121 : decode cX7_forces 121 = .ok (.ireturn, 1) := by decide +kernel
theorem dX7_forces_122 : decode cX7_forces 122 = .ok (.iload 4, 2) := by decide +kernel
theorem dX7_forces_124 : decode cX7_forces 124 = .ok (.ireturn, 1) := by decide +kernel
theorem dX7_pushes_0 : decode cX7_pushes 0 = .ok (.iload_n 2, 1) := by decide +kernel
theorem dX7_pushes_1 : decode cX7_pushes 1 = .ok (.ifCond .ne 14, 3) := by decide +kernel
theorem dX7_pushes_4 : decode cX7_pushes 4 = .ok (.iload_n 1, 1) := by decide +kernel
theorem dX7_pushes_5 : decode cX7_pushes 5 = .ok (.iconst 3, 1) := by decide +kernel
theorem dX7_pushes_6 : decode cX7_pushes 6 = .ok (.aload_n 0, 1) := by decide +kernel
theorem dX7_pushes_7 : decode cX7_pushes 7 = .ok (.getfield 15, 3) := by decide +kernel
theorem dX7_pushes_10 : decode cX7_pushes 10 = .ok (.imul, 1) := by decide +kernel
theorem dX7_pushes_11 : decode cX7_pushes 11 = .ok (.iadd, 1) := by decide +kernel
theorem dX7_pushes_12 : decode cX7_pushes 12 = .ok (.goto 4, 3) := by decide +kernel
theorem dX7_pushes_15 : decode cX7_pushes 15 = .ok (.iload_n 1, 1) := by decide +kernel
theorem dX7_pushes_16 : decode cX7_pushes 16 = .ok (.ireturn, 1) := by decide +kernel
theorem dX7_standing_0 : decode cX7_standing 0 = .ok (.aload_n 0, 1) := by decide +kernel
theorem dX7_standing_1 : decode cX7_standing 1 = .ok (.iconst 2, 1) := by decide +kernel
theorem dX7_standing_2 : decode cX7_standing 2 = .ok (.invokevirtual 41, 3) := by decide +kernel
theorem dX7_standing_5 : decode cX7_standing 5 = .ok (.ifCond .eq 7, 3) := by decide +kernel
theorem dX7_standing_8 : decode cX7_standing 8 = .ok (.iconst 1, 1) := by decide +kernel
theorem dX7_standing_9 : decode cX7_standing 9 = .ok (.goto 4, 3) := by decide +kernel
theorem dX7_standing_12 : decode cX7_standing 12 = .ok (.iconst 0, 1) := by decide +kernel
theorem dX7_standing_13 : decode cX7_standing 13 = .ok (.istore_n 2, 1) := by decide +kernel
theorem dX7_standing_14 : decode cX7_standing 14 = .ok (.iload_n 1, 1) := by decide +kernel
theorem dX7_standing_15 : decode cX7_standing 15 = .ok (.iload_n 2, 1) := by decide +kernel
theorem dX7_standing_16 : decode cX7_standing 16 = .ok (.iadd, 1) := by decide +kernel
theorem dX7_standing_17 : decode cX7_standing 17 = .ok (.aload_n 0, 1) := by decide +kernel
theorem dX7_standing_18 : decode cX7_standing 18 = .ok (.getfield 9, 3) := by decide +kernel
theorem dX7_standing_21 : decode cX7_standing 21 = .ok (.iconst 4, 1) := by decide +kernel
theorem dX7_standing_22 : decode cX7_standing 22 = .ok (.if_icmp .ne 10, 3) := by decide +kernel
theorem dX7_standing_25 : decode cX7_standing 25 = .ok (.aload_n 0, 1) := by decide +kernel
theorem dX7_standing_26 : decode cX7_standing 26 = .ok (.getfield 15, 3) := by decide +kernel
theorem dX7_standing_29 : decode cX7_standing 29 = .ok (.goto 4, 3) := by decide +kernel
theorem dX7_standing_32 : decode cX7_standing 32 = .ok (.iconst 0, 1) := by decide +kernel
theorem dX7_standing_33 : decode cX7_standing 33 = .ok (.iadd, 1) := by decide +kernel
theorem dX7_standing_34 : decode cX7_standing 34 = .ok (.iconst 0, 1) := by decide +kernel
theorem dX7_standing_35 : decode cX7_standing 35 = .ok (.bipush 9, 2) := by decide +kernel
theorem dX7_standing_37 : decode cX7_standing 37 = .ok (.invokestatic 45, 3) := by decide +kernel
theorem dX7_standing_40 : decode cX7_standing 40 = .ok (.ireturn, 1) := by decide +kernel
theorem dX7_starts_0 : decode cX7_starts 0 = .ok (.aload_n 0, 1) := by decide +kernel
theorem dX7_starts_1 : decode cX7_starts 1 = .ok (.getfield 9, 3) := by decide +kernel
theorem dX7_starts_4 : decode cX7_starts 4 = .ok (.iconst 4, 1) := by decide +kernel
theorem dX7_starts_5 : decode cX7_starts 5 = .ok (.if_icmp .ne 9, 3) := by decide +kernel
theorem dX7_starts_8 : decode cX7_starts 8 = .ok (.iload_n 1, 1) := by decide +kernel
theorem dX7_starts_9 : decode cX7_starts 9 = .ok (.iconst 0, 1) := by decide +kernel
theorem dX7_starts_10 : decode cX7_starts 10 = .ok (.invokestatic 49, 3) := by decide +kernel
theorem dX7_starts_13 : decode cX7_starts 13 = .ok (.ireturn, 1) := by decide +kernel
theorem dX7_starts_14 : decode cX7_starts 14 = .ok (.aload_n 0, 1) := by decide +kernel
theorem dX7_starts_15 : decode cX7_starts 15 = .ok (.getfield 9, 3) := by decide +kernel
theorem dX7_starts_18 : decode cX7_starts 18 = .ok (.iconst 3, 1) := by decide +kernel
theorem dX7_starts_19 : decode cX7_starts 19 = .ok (.if_icmp .ne 9, 3) := by decide +kernel
theorem dX7_starts_22 : decode cX7_starts 22 = .ok (.iload_n 1, 1) := by decide +kernel
theorem dX7_starts_23 : decode cX7_starts 23 = .ok (.iconst 1, 1) := by decide +kernel
theorem dX7_starts_24 : decode cX7_starts 24 = .ok (.iadd, 1) := by decide +kernel
theorem dX7_starts_25 : decode cX7_starts 25 = .ok (.goto 4, 3) := by decide +kernel
theorem dX7_starts_28 : decode cX7_starts 28 = .ok (.iload_n 1, 1) := by decide +kernel
theorem dX7_starts_29 : decode cX7_starts 29 = .ok (.ireturn, 1) := by decide +kernel
theorem dX8_init_0 : decode cX8_init 0 = .ok (.aload_n 0, 1) := by decide +kernel
theorem dX8_init_1 : decode cX8_init 1 = .ok (.invokespecial 1, 3) := by decide +kernel
theorem dX8_init_4 : decode cX8_init 4 = .ok (.aload_n 0, 1) := by decide +kernel
theorem dX8_init_5 : decode cX8_init 5 = .ok (.new 7, 3) := by decide +kernel
theorem dX8_init_8 : decode cX8_init 8 = .ok (.dup, 1) := by decide +kernel
theorem dX8_init_9 : decode cX8_init 9 = .ok (.invokespecial 9, 3) := by decide +kernel
theorem dX8_init_12 : decode cX8_init 12 = .ok (.putfield 10, 3) := by decide +kernel
theorem dX8_init_15 : decode cX8_init 15 = .ok (.aload_n 0, 1) := by decide +kernel
theorem dX8_init_16 : decode cX8_init 16 = .ok (.new 7, 3) := by decide +kernel
theorem dX8_init_19 : decode cX8_init 19 = .ok (.dup, 1) := by decide +kernel
theorem dX8_init_20 : decode cX8_init 20 = .ok (.invokespecial 9, 3) := by decide +kernel
theorem dX8_init_23 : decode cX8_init 23 = .ok (.putfield 16, 3) := by decide +kernel
theorem dX8_init_26 : decode cX8_init 26 = .ok (.aload_n 0, 1) := by decide +kernel
theorem dX8_init_27 : decode cX8_init 27 = .ok (.new 7, 3) := by decide +kernel
theorem dX8_init_30 : decode cX8_init 30 = .ok (.dup, 1) := by decide +kernel
theorem dX8_init_31 : decode cX8_init 31 = .ok (.invokespecial 9, 3) := by decide +kernel
theorem dX8_init_34 : decode cX8_init 34 = .ok (.putfield 19, 3) := by decide +kernel
theorem dX8_init_37 : decode cX8_init 37 = .ok (.aload_n 0, 1) := by decide +kernel
theorem dX8_init_38 : decode cX8_init 38 = .ok (.new 22, 3) := by decide +kernel
theorem dX8_init_41 : decode cX8_init 41 = .ok (.dup, 1) := by decide +kernel
theorem dX8_init_42 : decode cX8_init 42 = .ok (.invokespecial 24, 3) := by decide +kernel
theorem dX8_init_45 : decode cX8_init 45 = .ok (.putfield 25, 3) := by decide +kernel
theorem dX8_init_48 : decode cX8_init 48 = .ok (.aload_n 0, 1) := by decide +kernel
theorem dX8_init_49 : decode cX8_init 49 = .ok (.new 29, 3) := by decide +kernel
theorem dX8_init_52 : decode cX8_init 52 = .ok (.dup, 1) := by decide +kernel
theorem dX8_init_53 : decode cX8_init 53 = .ok (.invokespecial 31, 3) := by decide +kernel
theorem dX8_init_56 : decode cX8_init 56 = .ok (.putfield 32, 3) := by decide +kernel
theorem dX8_init_59 : decode cX8_init 59 = .ok (.aload_n 0, 1) := by decide +kernel
theorem dX8_init_60 : decode cX8_init 60 = .ok (.bipush 6, 2) := by decide +kernel
theorem dX8_init_62 : decode cX8_init 62 = .ok (.anewarray 36, 3) := by decide +kernel
theorem dX8_init_65 : decode cX8_init 65 = .ok (.putfield 38, 3) := by decide +kernel
theorem dX8_init_68 : decode cX8_init 68 = .ok (.aload_n 0, 1) := by decide +kernel
theorem dX8_init_69 : decode cX8_init 69 = .ok (.iconst 4, 1) := by decide +kernel
theorem dX8_init_70 : decode cX8_init 70 = .ok (.anewarray 42, 3) := by decide +kernel
theorem dX8_init_73 : decode cX8_init 73 = .ok (.putfield 44, 3) := by decide +kernel
theorem dX8_init_76 : decode cX8_init 76 = .ok (.aload_n 0, 1) := by decide +kernel
theorem dX8_init_77 : decode cX8_init 77 = .ok (.new 48, 3) := by decide +kernel
theorem dX8_init_80 : decode cX8_init 80 = .ok (.dup, 1) := by decide +kernel
theorem dX8_init_81 : decode cX8_init 81 = .ok (.invokespecial 50, 3) := by decide +kernel
theorem dX8_init_84 : decode cX8_init 84 = .ok (.putfield 51, 3) := by decide +kernel
theorem dX8_init_87 : decode cX8_init 87 = .ok (.aload_n 0, 1) := by decide +kernel
theorem dX8_init_88 : decode cX8_init 88 = .ok (.new 55, 3) := by decide +kernel
theorem dX8_init_91 : decode cX8_init 91 = .ok (.dup, 1) := by decide +kernel
theorem dX8_init_92 : decode cX8_init 92 = .ok (.aload_n 0, 1) := by decide +kernel
theorem dX8_init_93 : decode cX8_init 93 = .ok (.getfield 51, 3) := by decide +kernel
theorem dX8_init_96 : decode cX8_init 96 = .ok (.invokespecial 57, 3) := by decide +kernel
theorem dX8_init_99 : decode cX8_init 99 = .ok (.putfield 60, 3) := by decide +kernel
theorem dX8_init_102 : decode cX8_init 102 = .ok (.aload_n 0, 1) := by decide +kernel
theorem dX8_init_103 : decode cX8_init 103 = .ok (.iconst 1, 1) := by decide +kernel
theorem dX8_init_104 : decode cX8_init 104 = .ok (.putfield 64, 3) := by decide +kernel
theorem dX8_init_107 : decode cX8_init 107 = .ok (.aload_n 0, 1) := by decide +kernel
theorem dX8_init_108 : decode cX8_init 108 = .ok (.iconst 0, 1) := by decide +kernel
theorem dX8_init_109 : decode cX8_init 109 = .ok (.putfield 68, 3) := by decide +kernel
theorem dX8_init_112 : decode cX8_init 112 = .ok (.iconst 0, 1) := by decide +kernel
theorem dX8_init_113 : decode cX8_init 113 = .ok (.istore_n 1, 1) := by decide +kernel
theorem dX8_init_114 : decode cX8_init 114 = .ok (.iload_n 1, 1) := by decide +kernel
theorem dX8_init_115 : decode cX8_init 115 = .ok (.aload_n 0, 1) := by decide +kernel
theorem dX8_init_116 : decode cX8_init 116 = .ok (.getfield 38, 3) := by decide +kernel
theorem dX8_init_119 : decode cX8_init 119 = .ok (.arraylength, 1) := by decide +kernel
theorem dX8_init_120 : decode cX8_init 120 = .ok (.if_icmp .ge 22, 3) := by decide +kernel
theorem dX8_init_123 : decode cX8_init 123 = .ok (.aload_n 0, 1) := by decide +kernel
theorem dX8_init_124 : decode cX8_init 124 = .ok (.getfield 38, 3) := by decide +kernel
theorem dX8_init_127 : decode cX8_init 127 = .ok (.iload_n 1, 1) := by decide +kernel
theorem dX8_init_128 : decode cX8_init 128 = .ok (.new 36, 3) := by decide +kernel
theorem dX8_init_131 : decode cX8_init 131 = .ok (.dup, 1) := by decide +kernel
theorem dX8_init_132 : decode cX8_init 132 = .ok (.invokespecial 72, 3) := by decide +kernel
theorem dX8_init_135 : decode cX8_init 135 = .ok (.aastore, 1) := by decide +kernel
theorem dX8_init_136 : decode cX8_init 136 = .ok (.iinc 1 1, 3) := by decide +kernel
theorem dX8_init_139 : decode cX8_init 139 = .ok (.goto (-25), 3) := by decide +kernel
theorem dX8_init_142 : decode cX8_init 142 = .ok (.iconst 0, 1) := by decide +kernel
theorem dX8_init_143 : decode cX8_init 143 = .ok (.istore_n 1, 1) := by decide +kernel
theorem dX8_init_144 : decode cX8_init 144 = .ok (.iload_n 1, 1) := by decide +kernel
theorem dX8_init_145 : decode cX8_init 145 = .ok (.aload_n 0, 1) := by decide +kernel
theorem dX8_init_146 : decode cX8_init 146 = .ok (.getfield 44, 3) := by decide +kernel
theorem dX8_init_149 : decode cX8_init 149 = .ok (.arraylength, 1) := by decide +kernel
theorem dX8_init_150 : decode cX8_init 150 = .ok (.if_icmp .ge 22, 3) := by decide +kernel
theorem dX8_init_153 : decode cX8_init 153 = .ok (.aload_n 0, 1) := by decide +kernel
theorem dX8_init_154 : decode cX8_init 154 = .ok (.getfield 44, 3) := by decide +kernel
theorem dX8_init_157 : decode cX8_init 157 = .ok (.iload_n 1, 1) := by decide +kernel
theorem dX8_init_158 : decode cX8_init 158 = .ok (.new 42, 3) := by decide +kernel
theorem dX8_init_161 : decode cX8_init 161 = .ok (.dup, 1) := by decide +kernel
theorem dX8_init_162 : decode cX8_init 162 = .ok (.invokespecial 73, 3) := by decide +kernel
theorem dX8_init_165 : decode cX8_init 165 = .ok (.aastore, 1) := by decide +kernel
theorem dX8_init_166 : decode cX8_init 166 = .ok (.iinc 1 1, 3) := by decide +kernel
theorem dX8_init_169 : decode cX8_init 169 = .ok (.goto (-25), 3) := by decide +kernel
theorem dX8_init_172 : decode cX8_init 172 = .ok (.iconst 0, 1) := by decide +kernel
theorem dX8_init_173 : decode cX8_init 173 = .ok (.istore_n 1, 1) := by decide +kernel
theorem dX8_init_174 : decode cX8_init 174 = .ok (.iload_n 1, 1) := by decide +kernel
theorem dX8_init_175 : decode cX8_init 175 = .ok (.ldc 74, 2) := by decide +kernel
theorem dX8_init_177 : decode cX8_init 177 = .ok (.invokevirtual 76, 3) := by decide +kernel
theorem dX8_init_180 : decode cX8_init 180 = .ok (.if_icmp .ge 22, 3) := by decide +kernel
theorem dX8_init_183 : decode cX8_init 183 = .ok (.aload_n 0, 1) := by decide +kernel
theorem dX8_init_184 : decode cX8_init 184 = .ok (.getfield 32, 3) := by decide +kernel
theorem dX8_init_187 : decode cX8_init 187 = .ok (.ldc 74, 2) := by decide +kernel
theorem dX8_init_189 : decode cX8_init 189 = .ok (.iload_n 1, 1) := by decide +kernel
theorem dX8_init_190 : decode cX8_init 190 = .ok (.invokevirtual 82, 3) := by decide +kernel
theorem dX8_init_193 : decode cX8_init 193 = .ok (.invokevirtual 86, 3) := by decide +kernel
theorem dX8_init_196 : decode cX8_init 196 = .ok (.iinc 1 1, 3) := by decide +kernel
theorem dX8_init_199 : decode cX8_init 199 = .ok (.goto (-25), 3) := by decide +kernel
theorem dX8_init_202 : decode cX8_init 202 = .ok (.aload_n 0, 1) := by decide +kernel
theorem dX8_init_203 : decode cX8_init 203 = .ok (.getfield 32, 3) := by decide +kernel
theorem dX8_init_206 : decode cX8_init 206 = .ok (.aload_n 0, 1) := by decide +kernel
theorem dX8_init_207 : decode cX8_init 207 = .ok (.getfield 38, 3) := by decide +kernel
theorem dX8_init_210 : decode cX8_init 210 = .ok (.iconst 0, 1) := by decide +kernel
theorem dX8_init_211 : decode cX8_init 211 = .ok (.aaload, 1) := by decide +kernel
theorem dX8_init_212 : decode cX8_init 212 = .ok (.invokevirtual 90, 3) := by decide +kernel
theorem dX8_init_215 : decode cX8_init 215 = .ok (.pop, 1) := by decide +kernel
theorem dX8_init_216 : decode cX8_init 216 = .ok (.aload_n 0, 1) := by decide +kernel
theorem dX8_init_217 : decode cX8_init 217 = .ok (.getfield 32, 3) := by decide +kernel
theorem dX8_init_220 : decode cX8_init 220 = .ok (.invokevirtual 94, 3) := by decide +kernel
theorem dX8_init_223 : decode cX8_init 223 = .ok (.return_, 1) := by decide +kernel
theorem dX8_count_0 : decode cX8_count 0 = .ok (.iload_n 1, 1) := by decide +kernel
theorem dX8_count_1 : decode cX8_count 1 = .ok (.tableswitch 72 0 4 #[35, 43, 51, 56, 64], 35) := by decide +kernel
theorem dX8_count_36 : decode cX8_count 36 = .ok (.aload_n 0, 1) := by decide +kernel
theorem dX8_count_37 : decode cX8_count 37 = .ok (.getfield 10, 3) := by decide +kernel
theorem dX8_count_40 : decode cX8_count 40 = .ok (.getfield 97, 3) := by decide +kernel
theorem dX8_count_43 : decode cX8_count 43 = .ok (.ireturn, 1) := by decide +kernel
theorem dX8_count_44 : decode cX8_count 44 = .ok (.aload_n 0, 1) := by decide +kernel
theorem dX8_count_45 : decode cX8_count 45 = .ok (.getfield 10, 3) := by decide +kernel
theorem dX8_count_48 : decode cX8_count 48 = .ok (.getfield 100, 3) := by decide +kernel
theorem dX8_count_51 : decode cX8_count 51 = .ok (.ireturn, 1) := by decide +kernel
theorem dX8_count_52 : decode cX8_count 52 = .ok (.aload_n 0, 1) := by decide +kernel
theorem dX8_count_53 : decode cX8_count 53 = .ok (.getfield 64, 3) := by decide +kernel
theorem dX8_count_56 : decode cX8_count 56 = .ok (.ireturn, 1) := by decide +kernel
theorem dX8_count_57 : decode cX8_count 57 = .ok (.aload_n 0, 1) := by decide +kernel
theorem dX8_count_58 : decode cX8_count 58 = .ok (.getfield 10, 3) := by decide +kernel
theorem dX8_count_61 : decode cX8_count 61 = .ok (.getfield 103, 3) := by decide +kernel
theorem dX8_count_64 : decode cX8_count 64 = .ok (.ireturn, 1) := by decide +kernel
theorem dX8_count_65 : decode cX8_count 65 = .ok (.aload_n 0, 1) := by decide +kernel
theorem dX8_count_66 : decode cX8_count 66 = .ok (.getfield 32, 3) := by decide +kernel
theorem dX8_count_69 : decode cX8_count 69 = .ok (.getfield 106, 3) := by decide +kernel
theorem dX8_count_72 : decode cX8_count 72 = .ok (.ireturn, 1) := by decide +kernel
theorem dX8_count_73 : decode cX8_count 73 = .ok (.bipush (-2), 2) := by decide +kernel
theorem dX8_count_75 : decode cX8_count 75 = .ok (.ireturn, 1) := by decide +kernel
theorem dX8_feed_0 : decode cX8_feed 0 = .ok (.iload_n 2, 1) := by decide +kernel
theorem dX8_feed_1 : decode cX8_feed 1 = .ok (.invokestatic 107, 3) := by decide +kernel
theorem dX8_feed_4 : decode cX8_feed 4 = .ok (.ifCond .eq 38, 3) := by decide +kernel
theorem dX8_feed_7 : decode cX8_feed 7 = .ok (.iload_n 3, 1) := by decide +kernel
theorem dX8_feed_8 : decode cX8_feed 8 = .ok (.invokestatic 107, 3) := by decide +kernel
theorem dX8_feed_11 : decode cX8_feed 11 = .ok (.ifCond .eq 31, 3) := by decide +kernel
theorem dX8_feed_14 : decode cX8_feed 14 = .ok (.iload 4, 2) := by decide +kernel
theorem dX8_feed_16 : decode cX8_feed 16 = .ok (.invokestatic 107, 3) := by decide +kernel
theorem dX8_feed_19 : decode cX8_feed 19 = .ok (.ifCond .eq 23, 3) := by decide +kernel
theorem dX8_feed_22 : decode cX8_feed 22 = .ok (.iload 5, 2) := by decide +kernel
theorem dX8_feed_24 : decode cX8_feed 24 = .ok (.invokestatic 107, 3) := by decide +kernel
theorem dX8_feed_27 : decode cX8_feed 27 = .ok (.ifCond .eq 15, 3) := by decide +kernel
theorem dX8_feed_30 : decode cX8_feed 30 = .ok (.iload 6, 2) := by decide +kernel
theorem dX8_feed_32 : decode cX8_feed 32 = .ok (.invokestatic 107, 3) := by decide +kernel
theorem dX8_feed_35 : decode cX8_feed 35 = .ok (.ifCond .eq 7, 3) := by decide +kernel
theorem dX8_feed_38 : decode cX8_feed 38 = .ok (.iconst 1, 1) := by decide +kernel
theorem dX8_feed_39 : decode cX8_feed 39 = .ok (.goto 4, 3) := by decide +kernel
theorem dX8_feed_42 : decode cX8_feed 42 = .ok (.iconst 0, 1) := by decide +kernel
theorem dX8_feed_43 : decode cX8_feed 43 = .ok (.istore 7, 2) := by decide +kernel
theorem dX8_feed_45 : decode cX8_feed 45 = .ok (.iload_n 1, 1) := by decide +kernel
theorem dX8_feed_46 : decode cX8_feed 46 = .ok (.iconst 1, 1) := by decide +kernel
theorem dX8_feed_47 : decode cX8_feed 47 = .ok (.if_icmp .lt 13, 3) := by decide +kernel
theorem dX8_feed_50 : decode cX8_feed 50 = .ok (.iload_n 1, 1) := by decide +kernel
theorem dX8_feed_51 : decode cX8_feed 51 = .ok (.iconst 5, 1) := by decide +kernel
theorem dX8_feed_52 : decode cX8_feed 52 = .ok (.if_icmp .gt 8, 3) := by decide +kernel
theorem dX8_feed_55 : decode cX8_feed 55 = .ok (.iload 7, 2) := by decide +kernel
theorem dX8_feed_57 : decode cX8_feed 57 = .ok (.ifCond .ne 6, 3) := by decide +kernel
theorem dX8_feed_60 : decode cX8_feed 60 = .ok (.bipush (-2), 2) := by decide +kernel
theorem dX8_feed_62 : decode cX8_feed 62 = .ok (.ireturn, 1) := by decide +kernel
theorem dX8_feed_63 : decode cX8_feed 63 = .ok (.aload_n 0, 1) := by decide +kernel
theorem dX8_feed_64 : decode cX8_feed 64 = .ok (.getfield 32, 3) := by decide +kernel
theorem dX8_feed_67 : decode cX8_feed 67 = .ok (.getfield 106, 3) := by decide +kernel
theorem dX8_feed_70 : decode cX8_feed 70 = .ok (.iload_n 1, 1) := by decide +kernel
theorem dX8_feed_71 : decode cX8_feed 71 = .ok (.iadd, 1) := by decide +kernel
theorem dX8_feed_72 : decode cX8_feed 72 = .ok (.sipush 160, 3) := by decide +kernel
theorem dX8_feed_75 : decode cX8_feed 75 = .ok (.if_icmp .le 6, 3) := by decide +kernel
theorem dX8_feed_78 : decode cX8_feed 78 = .ok (.bipush (-4), 2) := by decide +kernel
theorem dX8_feed_80 : decode cX8_feed 80 = .ok (.ireturn, 1) := by decide +kernel
theorem dX8_feed_81 : decode cX8_feed 81 = .ok (.aload_n 0, 1) := by decide +kernel
theorem dX8_feed_82 : decode cX8_feed 82 = .ok (.getfield 32, 3) := by decide +kernel
theorem dX8_feed_85 : decode cX8_feed 85 = .ok (.iload_n 2, 1) := by decide +kernel
theorem dX8_feed_86 : decode cX8_feed 86 = .ok (.invokevirtual 86, 3) := by decide +kernel
theorem dX8_feed_89 : decode cX8_feed 89 = .ok (.iload_n 1, 1) := by decide +kernel
theorem dX8_feed_90 : decode cX8_feed 90 = .ok (.iconst 1, 1) := by decide +kernel
theorem dX8_feed_91 : decode cX8_feed 91 = .ok (.if_icmp .le 11, 3) := by decide +kernel
theorem dX8_feed_94 : decode cX8_feed 94 = .ok (.aload_n 0, 1) := by decide +kernel
theorem dX8_feed_95 : decode cX8_feed 95 = .ok (.getfield 32, 3) := by decide +kernel
theorem dX8_feed_98 : decode cX8_feed 98 = .ok (.iload_n 3, 1) := by decide +kernel
theorem dX8_feed_99 : decode cX8_feed 99 = .ok (.invokevirtual 86, 3) := by decide +kernel
theorem dX8_feed_102 : decode cX8_feed 102 = .ok (.iload_n 1, 1) := by decide +kernel
theorem dX8_feed_103 : decode cX8_feed 103 = .ok (.iconst 2, 1) := by decide +kernel
theorem dX8_feed_104 : decode cX8_feed 104 = .ok (.if_icmp .le 12, 3) := by decide +kernel
theorem dX8_feed_107 : decode cX8_feed 107 = .ok (.aload_n 0, 1) := by decide +kernel
theorem dX8_feed_108 : decode cX8_feed 108 = .ok (.getfield 32, 3) := by decide +kernel
theorem dX8_feed_111 : decode cX8_feed 111 = .ok (.iload 4, 2) := by decide +kernel
theorem dX8_feed_113 : decode cX8_feed 113 = .ok (.invokevirtual 86, 3) := by decide +kernel
theorem dX8_feed_116 : decode cX8_feed 116 = .ok (.iload_n 1, 1) := by decide +kernel
theorem dX8_feed_117 : decode cX8_feed 117 = .ok (.iconst 3, 1) := by decide +kernel
theorem dX8_feed_118 : decode cX8_feed 118 = .ok (.if_icmp .le 12, 3) := by decide +kernel
theorem dX8_feed_121 : decode cX8_feed 121 = .ok (.aload_n 0, 1) := by decide +kernel
theorem dX8_feed_122 : decode cX8_feed 122 = .ok (.getfield 32, 3) := by decide +kernel
theorem dX8_feed_125 : decode cX8_feed 125 = .ok (.iload 5, 2) := by decide +kernel
theorem dX8_feed_127 : decode cX8_feed 127 = .ok (.invokevirtual 86, 3) := by decide +kernel
theorem dX8_feed_130 : decode cX8_feed 130 = .ok (.iload_n 1, 1) := by decide +kernel
theorem dX8_feed_131 : decode cX8_feed 131 = .ok (.iconst 4, 1) := by decide +kernel
theorem dX8_feed_132 : decode cX8_feed 132 = .ok (.if_icmp .le 12, 3) := by decide +kernel
theorem dX8_feed_135 : decode cX8_feed 135 = .ok (.aload_n 0, 1) := by decide +kernel
theorem dX8_feed_136 : decode cX8_feed 136 = .ok (.getfield 32, 3) := by decide +kernel
theorem dX8_feed_139 : decode cX8_feed 139 = .ok (.iload 6, 2) := by decide +kernel
theorem dX8_feed_141 : decode cX8_feed 141 = .ok (.invokevirtual 86, 3) := by decide +kernel
theorem dX8_feed_144 : decode cX8_feed 144 = .ok (.aload_n 0, 1) := by decide +kernel
theorem dX8_feed_145 : decode cX8_feed 145 = .ok (.getfield 32, 3) := by decide +kernel
theorem dX8_feed_148 : decode cX8_feed 148 = .ok (.getfield 106, 3) := by decide +kernel
theorem dX8_feed_151 : decode cX8_feed 151 = .ok (.ireturn, 1) := by decide +kernel
theorem dX8_text_0 : decode cX8_text 0 = .ok (.aload_n 0, 1) := by decide +kernel
theorem dX8_text_1 : decode cX8_text 1 = .ok (.getfield 64, 3) := by decide +kernel
theorem dX8_text_4 : decode cX8_text 4 = .ok (.bipush 6, 2) := by decide +kernel
theorem dX8_text_6 : decode cX8_text 6 = .ok (.if_icmp .lt 6, 3) := by decide +kernel
theorem dX8_text_9 : decode cX8_text 9 = .ok (.bipush (-4), 2) := by decide +kernel
theorem dX8_text_11 : decode cX8_text 11 = .ok (.ireturn, 1) := by decide +kernel
theorem dX8_text_12 : decode cX8_text 12 = .ok (.aload_n 0, 1) := by decide +kernel
theorem dX8_text_13 : decode cX8_text 13 = .ok (.getfield 32, 3) := by decide +kernel
theorem dX8_text_16 : decode cX8_text 16 = .ok (.aload_n 0, 1) := by decide +kernel
theorem dX8_text_17 : decode cX8_text 17 = .ok (.aload_n 0, 1) := by decide +kernel
theorem dX8_text_18 : decode cX8_text 18 = .ok (.getfield 64, 3) := by decide +kernel
theorem dX8_text_21 : decode cX8_text 21 = .ok (.invokevirtual 111, 3) := by decide +kernel
theorem dX8_text_24 : decode cX8_text 24 = .ok (.invokevirtual 90, 3) := by decide +kernel
theorem dX8_text_27 : decode cX8_text 27 = .ok (.istore_n 1, 1) := by decide +kernel
theorem dX8_text_28 : decode cX8_text 28 = .ok (.aload_n 0, 1) := by decide +kernel
theorem dX8_text_29 : decode cX8_text 29 = .ok (.getfield 32, 3) := by decide +kernel
theorem dX8_text_32 : decode cX8_text 32 = .ok (.invokevirtual 94, 3) := by decide +kernel
theorem dX8_text_35 : decode cX8_text 35 = .ok (.iload_n 1, 1) := by decide +kernel
theorem dX8_text_36 : decode cX8_text 36 = .ok (.ifCond .lt 8, 3) := by decide +kernel
theorem dX8_text_39 : decode cX8_text 39 = .ok (.bipush (-100), 2) := by decide +kernel
theorem dX8_text_41 : decode cX8_text 41 = .ok (.iload_n 1, 1) := by decide +kernel
theorem dX8_text_42 : decode cX8_text 42 = .ok (.isub, 1) := by decide +kernel
theorem dX8_text_43 : decode cX8_text 43 = .ok (.ireturn, 1) := by decide +kernel
theorem dX8_text_44 : decode cX8_text 44 = .ok (.aload_n 0, 1) := by decide +kernel
theorem dX8_text_45 : decode cX8_text 45 = .ok (.dup, 1) := by decide +kernel
theorem dX8_text_46 : decode cX8_text 46 = .ok (.getfield 64, 3) := by decide +kernel
theorem dX8_text_49 : decode cX8_text 49 = .ok (.iconst 1, 1) := by decide +kernel
theorem dX8_text_50 : decode cX8_text 50 = .ok (.iadd, 1) := by decide +kernel
theorem dX8_text_51 : decode cX8_text 51 = .ok (.putfield 64, 3) := by decide +kernel
theorem dX8_text_54 : decode cX8_text 54 = .ok (.aload_n 0, 1) := by decide +kernel
theorem dX8_text_55 : decode cX8_text 55 = .ok (.getfield 64, 3) := by decide +kernel
theorem dX8_text_58 : decode cX8_text 58 = .ok (.iconst 1, 1) := by decide +kernel
theorem dX8_text_59 : decode cX8_text 59 = .ok (.isub, 1) := by decide +kernel
theorem dX8_text_60 : decode cX8_text 60 = .ok (.ireturn, 1) := by decide +kernel
theorem dX8_force_0 : decode cX8_force 0 = .ok (.iload_n 1, 1) := by decide +kernel
theorem dX8_force_1 : decode cX8_force 1 = .ok (.ifCond .lt 11, 3) := by decide +kernel
theorem dX8_force_4 : decode cX8_force 4 = .ok (.iload_n 1, 1) := by decide +kernel
theorem dX8_force_5 : decode cX8_force 5 = .ok (.aload_n 0, 1) := by decide +kernel
theorem dX8_force_6 : decode cX8_force 6 = .ok (.getfield 64, 3) := by decide +kernel
theorem dX8_force_9 : decode cX8_force 9 = .ok (.if_icmp .lt 6, 3) := by decide +kernel
theorem dX8_force_12 : decode cX8_force 12 = .ok (.bipush (-2), 2) := by decide +kernel
theorem dX8_force_14 : decode cX8_force 14 = .ok (.ireturn, 1) := by decide +kernel
theorem dX8_force_15 : decode cX8_force 15 = .ok (.aload_n 0, 1) := by decide +kernel
theorem dX8_force_16 : decode cX8_force 16 = .ok (.getfield 10, 3) := by decide +kernel
theorem dX8_force_19 : decode cX8_force 19 = .ok (.getfield 103, 3) := by decide +kernel
theorem dX8_force_22 : decode cX8_force 22 = .ok (.istore_n 2, 1) := by decide +kernel
theorem dX8_force_23 : decode cX8_force 23 = .ok (.aload_n 0, 1) := by decide +kernel
theorem dX8_force_24 : decode cX8_force 24 = .ok (.getfield 10, 3) := by decide +kernel
theorem dX8_force_27 : decode cX8_force 27 = .ok (.iload_n 1, 1) := by decide +kernel
theorem dX8_force_28 : decode cX8_force 28 = .ok (.putfield 103, 3) := by decide +kernel
theorem dX8_force_31 : decode cX8_force 31 = .ok (.iload_n 2, 1) := by decide +kernel
theorem dX8_force_32 : decode cX8_force 32 = .ok (.ireturn, 1) := by decide +kernel
theorem dX8_asks_0 : decode cX8_asks 0 = .ok (.iload_n 3, 1) := by decide +kernel
theorem dX8_asks_1 : decode cX8_asks 1 = .ok (.ifCond .lt 23, 3) := by decide +kernel
theorem dX8_asks_4 : decode cX8_asks 4 = .ok (.iload_n 3, 1) := by decide +kernel
theorem dX8_asks_5 : decode cX8_asks 5 = .ok (.bipush 10, 2) := by decide +kernel
theorem dX8_asks_7 : decode cX8_asks 7 = .ok (.idiv, 1) := by decide +kernel
theorem dX8_asks_8 : decode cX8_asks 8 = .ok (.iconst 4, 1) := by decide +kernel
theorem dX8_asks_9 : decode cX8_asks 9 = .ok (.if_icmp .ge 15, 3) := by decide +kernel
theorem dX8_asks_12 : decode cX8_asks 12 = .ok (.iload_n 3, 1) := by decide +kernel
theorem dX8_asks_13 : decode cX8_asks 13 = .ok (.bipush 10, 2) := by decide +kernel
theorem dX8_asks_15 : decode cX8_asks 15 = .ok (.irem, 1) := by decide +kernel
theorem dX8_asks_16 : decode cX8_asks 16 = .ok (.iconst 4, 1) := by decide +kernel
theorem dX8_asks_17 : decode cX8_asks 17 = .ok (.if_icmp .ge 7, 3) := by decide +kernel
theorem dX8_asks_20 : decode cX8_asks 20 = .ok (.iconst 1, 1) := by decide +kernel
theorem dX8_asks_21 : decode cX8_asks 21 = .ok (.goto 4, 3) := by decide +kernel
theorem dX8_asks_24 : decode cX8_asks 24 = .ok (.iconst 0, 1) := by decide +kernel
theorem dX8_asks_25 : decode cX8_asks 25 = .ok (.istore 5, 2) := by decide +kernel
theorem dX8_asks_27 : decode cX8_asks 27 = .ok (.iload 4, 2) := by decide +kernel
theorem dX8_asks_29 : decode cX8_asks 29 = .ok (.ifCond .lt 14, 3) := by decide +kernel
theorem dX8_asks_32 : decode cX8_asks 32 = .ok (.iload 4, 2) := by decide +kernel
theorem dX8_asks_34 : decode cX8_asks 34 = .ok (.bipush 9, 2) := by decide +kernel
theorem dX8_asks_36 : decode cX8_asks 36 = .ok (.if_icmp .ge 7, 3) := by decide +kernel
theorem dX8_asks_39 : decode cX8_asks 39 = .ok (.iconst 1, 1) := by decide +kernel
theorem dX8_asks_40 : decode cX8_asks 40 = .ok (.goto 4, 3) := by decide +kernel
theorem dX8_asks_43 : decode cX8_asks 43 = .ok (.iconst 0, 1) := by decide +kernel
theorem dX8_asks_44 : decode cX8_asks 44 = .ok (.istore 6, 2) := by decide +kernel
theorem dX8_asks_46 : decode cX8_asks 46 = .ok (.iload_n 1, 1) := by decide +kernel
theorem dX8_asks_47 : decode cX8_asks 47 = .ok (.ifCond .lt 29, 3) := by decide +kernel
theorem dX8_asks_50 : decode cX8_asks 50 = .ok (.iload_n 1, 1) := by decide +kernel
theorem dX8_asks_51 : decode cX8_asks 51 = .ok (.iconst 3, 1) := by decide +kernel
theorem dX8_asks_52 : decode cX8_asks 52 = .ok (.if_icmp .ge 24, 3) := by decide +kernel
theorem dX8_asks_55 : decode cX8_asks 55 = .ok (.aload_n 0, 1) := by decide +kernel
theorem dX8_asks_56 : decode cX8_asks 56 = .ok (.getfield 10, 3) := by decide +kernel
theorem dX8_asks_59 : decode cX8_asks 59 = .ok (.iload_n 2, 1) := by decide +kernel
theorem dX8_asks_60 : decode cX8_asks 60 = .ok (.invokevirtual 115, 3) := by decide +kernel
theorem dX8_asks_63 : decode cX8_asks 63 = .ok (.ifCond .eq 13, 3) := by decide +kernel
theorem dX8_asks_66 : decode cX8_asks 66 = .ok (.iload 5, 2) := by decide +kernel
theorem dX8_asks_68 : decode cX8_asks 68 = .ok (.ifCond .eq 8, 3) := by decide +kernel
theorem dX8_asks_71 : decode cX8_asks 71 = .ok (.iload 6, 2) := by decide +kernel
theorem dX8_asks_73 : decode cX8_asks 73 = .ok (.ifCond .ne 7, 3) := by decide +kernel
theorem dX8_asks_76 : decode cX8_asks 76 = .ok (.sipush (-1000), 3) := by decide +kernel
theorem dX8_asks_79 : decode cX8_asks 79 = .ok (.ireturn, 1) := by decide +kernel
theorem dX8_asks_80 : decode cX8_asks 80 = .ok (.aload_n 0, 1) := by decide +kernel
theorem dX8_asks_81 : decode cX8_asks 81 = .ok (.getfield 51, 3) := by decide +kernel
theorem dX8_asks_84 : decode cX8_asks 84 = .ok (.aload_n 0, 1) := by decide +kernel
theorem dX8_asks_85 : decode cX8_asks 85 = .ok (.invokevirtual 118, 3) := by decide +kernel
theorem dX8_asks_88 : decode cX8_asks 88 = .ok (.iload_n 1, 1) := by decide +kernel
theorem dX8_asks_89 : decode cX8_asks 89 = .ok (.aload_n 0, 1) := by decide +kernel
theorem dX8_asks_90 : decode cX8_asks 90 = .ok (.getfield 10, 3) := by decide +kernel
theorem dX8_asks_93 : decode cX8_asks 93 = .ok (.iload_n 2, 1) := by decide +kernel
theorem dX8_asks_94 : decode cX8_asks 94 = .ok (.invokevirtual 122, 3) := by decide +kernel
theorem dX8_asks_97 : decode cX8_asks 97 = .ok (.iload_n 3, 1) := by decide +kernel
theorem dX8_asks_98 : decode cX8_asks 98 = .ok (.bipush 10, 2) := by decide +kernel
theorem dX8_asks_100 : decode cX8_asks 100 = .ok (.idiv, 1) := by decide +kernel
theorem dX8_asks_101 : decode cX8_asks 101 = .ok (.iload_n 3, 1) := by decide +kernel
theorem dX8_asks_102 : decode cX8_asks 102 = .ok (.bipush 10, 2) := by decide +kernel
theorem dX8_asks_104 : decode cX8_asks 104 = .ok (.irem, 1) := by decide +kernel
theorem dX8_asks_105 : decode cX8_asks 105 = .ok (.iload 4, 2) := by decide +kernel
theorem dX8_asks_107 : decode cX8_asks 107 = .ok (.invokevirtual 126, 3) := by decide +kernel
theorem dX8_asks_110 : decode cX8_asks 110 = .ok (.ireturn, 1) := by decide +kernel
theorem dX8_man_0 : decode cX8_man 0 = .ok (.iload_n 2, 1) := by decide +kernel
theorem dX8_man_1 : decode cX8_man 1 = .ok (.ifCond .lt 14, 3) := by decide +kernel
theorem dX8_man_4 : decode cX8_man 4 = .ok (.iload_n 2, 1) := by decide +kernel
theorem dX8_man_5 : decode cX8_man 5 = .ok (.sipush 10000, 3) := by decide +kernel
theorem dX8_man_8 : decode cX8_man 8 = .ok (.if_icmp .ge 7, 3) := by decide +kernel
theorem dX8_man_11 : decode cX8_man 11 = .ok (.iconst 1, 1) := by decide +kernel
theorem dX8_man_12 : decode cX8_man 12 = .ok (.goto 4, 3) := by decide +kernel
theorem dX8_man_15 : decode cX8_man 15 = .ok (.iconst 0, 1) := by decide +kernel
theorem dX8_man_16 : decode cX8_man 16 = .ok (.istore_n 3, 1) := by decide +kernel
theorem dX8_man_17 : decode cX8_man 17 = .ok (.iload_n 1, 1) := by decide +kernel
theorem dX8_man_18 : decode cX8_man 18 = .ok (.ifCond .lt 13, 3) := by decide +kernel
theorem dX8_man_21 : decode cX8_man 21 = .ok (.iload_n 1, 1) := by decide +kernel
theorem dX8_man_22 : decode cX8_man 22 = .ok (.bipush 60, 2) := by decide +kernel
theorem dX8_man_24 : decode cX8_man 24 = .ok (.if_icmp .ge 7, 3) := by decide +kernel
theorem dX8_man_27 : decode cX8_man 27 = .ok (.iload_n 3, 1) := by decide +kernel
theorem dX8_man_28 : decode cX8_man 28 = .ok (.ifCond .ne 6, 3) := by decide +kernel
theorem dX8_man_31 : decode cX8_man 31 = .ok (.bipush (-2), 2) := by decide +kernel
theorem dX8_man_33 : decode cX8_man 33 = .ok (.ireturn, 1) := by decide +kernel
theorem dX8_man_34 : decode cX8_man 34 = .ok (.aload_n 0, 1) := by decide +kernel
theorem dX8_man_35 : decode cX8_man 35 = .ok (.getfield 10, 3) := by decide +kernel
theorem dX8_man_38 : decode cX8_man 38 = .ok (.getfield 97, 3) := by decide +kernel
theorem dX8_man_41 : decode cX8_man 41 = .ok (.bipush 6, 2) := by decide +kernel
theorem dX8_man_43 : decode cX8_man 43 = .ok (.if_icmp .lt 6, 3) := by decide +kernel
theorem dX8_man_46 : decode cX8_man 46 = .ok (.bipush (-4), 2) := by decide +kernel
theorem dX8_man_48 : decode cX8_man 48 = .ok (.ireturn, 1) := by decide +kernel
theorem dX8_man_49 : decode cX8_man 49 = .ok (.aload_n 0, 1) := by decide +kernel
theorem dX8_man_50 : decode cX8_man 50 = .ok (.getfield 10, 3) := by decide +kernel
theorem dX8_man_53 : decode cX8_man 53 = .ok (.aload_n 0, 1) := by decide +kernel
theorem dX8_man_54 : decode cX8_man 54 = .ok (.getfield 10, 3) := by decide +kernel
theorem dX8_man_57 : decode cX8_man 57 = .ok (.getfield 97, 3) := by decide +kernel
theorem dX8_man_60 : decode cX8_man 60 = .ok (.invokevirtual 122, 3) := by decide +kernel
theorem dX8_man_63 : decode cX8_man 63 = .ok (.iload_n 1, 1) := by decide +kernel
theorem dX8_man_64 : decode cX8_man 64 = .ok (.bipush 10, 2) := by decide +kernel
theorem dX8_man_66 : decode cX8_man 66 = .ok (.idiv, 1) := by decide +kernel
theorem dX8_man_67 : decode cX8_man 67 = .ok (.iload_n 1, 1) := by decide +kernel
theorem dX8_man_68 : decode cX8_man 68 = .ok (.bipush 10, 2) := by decide +kernel
theorem dX8_man_70 : decode cX8_man 70 = .ok (.irem, 1) := by decide +kernel
theorem dX8_man_71 : decode cX8_man 71 = .ok (.iload_n 2, 1) := by decide +kernel
theorem dX8_man_72 : decode cX8_man 72 = .ok (.bipush 100, 2) := by decide +kernel
theorem dX8_man_74 : decode cX8_man 74 = .ok (.idiv, 1) := by decide +kernel
theorem dX8_man_75 : decode cX8_man 75 = .ok (.iload_n 2, 1) := by decide +kernel
theorem dX8_man_76 : decode cX8_man 76 = .ok (.bipush 100, 2) := by decide +kernel
theorem dX8_man_78 : decode cX8_man 78 = .ok (.irem, 1) := by decide +kernel
theorem dX8_man_79 : decode cX8_man 79 = .ok (.invokevirtual 130, 3) := by decide +kernel
theorem dX8_man_82 : decode cX8_man 82 = .ok (.aload_n 0, 1) := by decide +kernel
theorem dX8_man_83 : decode cX8_man 83 = .ok (.getfield 10, 3) := by decide +kernel
theorem dX8_man_86 : decode cX8_man 86 = .ok (.dup, 1) := by decide +kernel
theorem dX8_man_87 : decode cX8_man 87 = .ok (.getfield 97, 3) := by decide +kernel
theorem dX8_man_90 : decode cX8_man 90 = .ok (.iconst 1, 1) := by decide +kernel
theorem dX8_man_91 : decode cX8_man 91 = .ok (.iadd, 1) := by decide +kernel
theorem dX8_man_92 : decode cX8_man 92 = .ok (.putfield 97, 3) := by decide +kernel
theorem dX8_man_95 : decode cX8_man 95 = .ok (.aload_n 0, 1) := by decide +kernel
theorem dX8_man_96 : decode cX8_man 96 = .ok (.getfield 10, 3) := by decide +kernel
theorem dX8_man_99 : decode cX8_man 99 = .ok (.getfield 97, 3) := by decide +kernel
theorem dX8_man_102 : decode cX8_man 102 = .ok (.iconst 1, 1) := by decide +kernel
theorem dX8_man_103 : decode cX8_man 103 = .ok (.isub, 1) := by decide +kernel
theorem dX8_man_104 : decode cX8_man 104 = .ok (.ireturn, 1) := by decide +kernel
theorem dX8_put_0 : decode cX8_put 0 = .ok (.aload_n 0, 1) := by decide +kernel
theorem dX8_put_1 : decode cX8_put 1 = .ok (.getfield 10, 3) := by decide +kernel
theorem dX8_put_4 : decode cX8_put 4 = .ok (.iload_n 1, 1) := by decide +kernel
theorem dX8_put_5 : decode cX8_put 5 = .ok (.invokevirtual 115, 3) := by decide +kernel
theorem dX8_put_8 : decode cX8_put 8 = .ok (.ifCond .ne 6, 3) := by decide +kernel
theorem dX8_put_11 : decode cX8_put 11 = .ok (.bipush (-5), 2) := by decide +kernel
theorem dX8_put_13 : decode cX8_put 13 = .ok (.ireturn, 1) := by decide +kernel
theorem dX8_put_14 : decode cX8_put 14 = .ok (.iload_n 2, 1) := by decide +kernel
theorem dX8_put_15 : decode cX8_put 15 = .ok (.iconst 2, 1) := by decide +kernel
theorem dX8_put_16 : decode cX8_put 16 = .ok (.if_icmp .ne 8, 3) := by decide +kernel
theorem dX8_put_19 : decode cX8_put 19 = .ok (.bipush 9, 2) := by decide +kernel
theorem dX8_put_21 : decode cX8_put 21 = .ok (.goto 5, 3) := by decide +kernel
theorem dX8_put_24 : decode cX8_put 24 = .ok (.bipush 99, 2) := by decide +kernel
theorem dX8_put_26 : decode cX8_put 26 = .ok (.istore 4, 2) := by decide +kernel
theorem dX8_put_28 : decode cX8_put 28 = .ok (.iload_n 2, 1) := by decide +kernel
theorem dX8_put_29 : decode cX8_put 29 = .ok (.ifCond .lt 18, 3) := by decide +kernel
theorem dX8_put_32 : decode cX8_put 32 = .ok (.iload_n 2, 1) := by decide +kernel
theorem dX8_put_33 : decode cX8_put 33 = .ok (.iconst 2, 1) := by decide +kernel
theorem dX8_put_34 : decode cX8_put 34 = .ok (.if_icmp .gt 13, 3) := by decide +kernel
theorem dX8_put_37 : decode cX8_put 37 = .ok (.iload_n 3, 1) := by decide +kernel
theorem dX8_put_38 : decode cX8_put 38 = .ok (.ifCond .lt 9, 3) := by decide +kernel
theorem dX8_put_41 : decode cX8_put 41 = .ok (.iload_n 3, 1) := by decide +kernel
theorem dX8_put_42 : decode cX8_put 42 = .ok (.iload 4, 2) := by decide +kernel
theorem dX8_put_44 : decode cX8_put 44 = .ok (.if_icmp .le 6, 3) := by decide +kernel
theorem dX8_put_47 : decode cX8_put 47 = .ok (.bipush (-7), 2) := by decide +kernel
theorem dX8_put_49 : decode cX8_put 49 = .ok (.ireturn, 1) := by decide +kernel
theorem dX8_put_50 : decode cX8_put 50 = .ok (.aload_n 0, 1) := by decide +kernel
theorem dX8_put_51 : decode cX8_put 51 = .ok (.getfield 10, 3) := by decide +kernel
theorem dX8_put_54 : decode cX8_put 54 = .ok (.iload_n 1, 1) := by decide +kernel
theorem dX8_put_55 : decode cX8_put 55 = .ok (.invokevirtual 122, 3) := by decide +kernel
theorem dX8_put_58 : decode cX8_put 58 = .ok (.iload_n 2, 1) := by decide +kernel
theorem dX8_put_59 : decode cX8_put 59 = .ok (.invokevirtual 134, 3) := by decide +kernel
theorem dX8_put_62 : decode cX8_put 62 = .ok (.istore 5, 2) := by decide +kernel
theorem dX8_put_64 : decode cX8_put 64 = .ok (.aload_n 0, 1) := by decide +kernel
theorem dX8_put_65 : decode cX8_put 65 = .ok (.getfield 10, 3) := by decide +kernel
theorem dX8_put_68 : decode cX8_put 68 = .ok (.iload_n 1, 1) := by decide +kernel
theorem dX8_put_69 : decode cX8_put 69 = .ok (.invokevirtual 122, 3) := by decide +kernel
theorem dX8_put_72 : decode cX8_put 72 = .ok (.iload_n 2, 1) := by decide +kernel
theorem dX8_put_73 : decode cX8_put 73 = .ok (.iload_n 3, 1) := by decide +kernel
theorem dX8_put_74 : decode cX8_put 74 = .ok (.invokevirtual 138, 3) := by decide +kernel
theorem dX8_put_77 : decode cX8_put 77 = .ok (.iload 5, 2) := by decide +kernel
theorem dX8_put_79 : decode cX8_put 79 = .ok (.ireturn, 1) := by decide +kernel
theorem dX8_told_0 : decode cX8_told 0 = .ok (.aload_n 0, 1) := by decide +kernel
theorem dX8_told_1 : decode cX8_told 1 = .ok (.getfield 10, 3) := by decide +kernel
theorem dX8_told_4 : decode cX8_told 4 = .ok (.iload_n 1, 1) := by decide +kernel
theorem dX8_told_5 : decode cX8_told 5 = .ok (.invokevirtual 115, 3) := by decide +kernel
theorem dX8_told_8 : decode cX8_told 8 = .ok (.ifCond .ne 6, 3) := by decide +kernel
theorem dX8_told_11 : decode cX8_told 11 = .ok (.bipush (-5), 2) := by decide +kernel
theorem dX8_told_13 : decode cX8_told 13 = .ok (.ireturn, 1) := by decide +kernel
theorem dX8_told_14 : decode cX8_told 14 = .ok (.iload_n 2, 1) := by decide +kernel
theorem dX8_told_15 : decode cX8_told 15 = .ok (.ifCond .lt 9, 3) := by decide +kernel
theorem dX8_told_18 : decode cX8_told 18 = .ok (.iload_n 2, 1) := by decide +kernel
theorem dX8_told_19 : decode cX8_told 19 = .ok (.bipush 6, 2) := by decide +kernel
theorem dX8_told_21 : decode cX8_told 21 = .ok (.if_icmp .le 8, 3) := by decide +kernel
theorem dX8_told_24 : decode cX8_told 24 = .ok (.bipush (-7), 2) := by decide +kernel
theorem dX8_told_26 : decode cX8_told 26 = .ok (.goto 15, 3) := by decide +kernel
theorem dX8_told_29 : decode cX8_told 29 = .ok (.aload_n 0, 1) := by decide +kernel
theorem dX8_told_30 : decode cX8_told 30 = .ok (.getfield 10, 3) := by decide +kernel
theorem dX8_told_33 : decode cX8_told 33 = .ok (.iload_n 1, 1) := by decide +kernel
theorem dX8_told_34 : decode cX8_told 34 = .ok (.invokevirtual 122, 3) := by decide +kernel
theorem dX8_told_37 : decode cX8_told 37 = .ok (.iload_n 2, 1) := by decide +kernel
theorem dX8_told_38 : decode cX8_told 38 = .ok (.invokevirtual 134, 3) := by decide +kernel
theorem dX8_told_41 : decode cX8_told 41 = .ok (.ireturn, 1) := by decide +kernel
theorem dX8_bout_0 : decode cX8_bout 0 = .ok (.aload_n 0, 1) := by decide +kernel
theorem dX8_bout_1 : decode cX8_bout 1 = .ok (.iload_n 1, 1) := by decide +kernel
theorem dX8_bout_2 : decode cX8_bout 2 = .ok (.invokevirtual 142, 3) := by decide +kernel
theorem dX8_bout_5 : decode cX8_bout 5 = .ok (.ifCond .ne 6, 3) := by decide +kernel
theorem dX8_bout_8 : decode cX8_bout 8 = .ok (.bipush (-5), 2) := by decide +kernel
theorem dX8_bout_10 : decode cX8_bout 10 = .ok (.ireturn, 1) := by decide +kernel
theorem dX8_bout_11 : decode cX8_bout 11 = .ok (.iload 4, 2) := by decide +kernel
theorem dX8_bout_13 : decode cX8_bout 13 = .ok (.bipush 10, 2) := by decide +kernel
theorem dX8_bout_15 : decode cX8_bout 15 = .ok (.if_icmp .lt 14, 3) := by decide +kernel
theorem dX8_bout_18 : decode cX8_bout 18 = .ok (.iload 4, 2) := by decide +kernel
theorem dX8_bout_20 : decode cX8_bout 20 = .ok (.bipush 19, 2) := by decide +kernel
theorem dX8_bout_22 : decode cX8_bout 22 = .ok (.if_icmp .gt 7, 3) := by decide +kernel
theorem dX8_bout_25 : decode cX8_bout 25 = .ok (.iconst 1, 1) := by decide +kernel
theorem dX8_bout_26 : decode cX8_bout 26 = .ok (.goto 4, 3) := by decide +kernel
theorem dX8_bout_29 : decode cX8_bout 29 = .ok (.iconst 0, 1) := by decide +kernel
theorem dX8_bout_30 : decode cX8_bout 30 = .ok (.istore 5, 2) := by decide +kernel
theorem dX8_bout_32 : decode cX8_bout 32 = .ok (.iload_n 2, 1) := by decide +kernel
theorem dX8_bout_33 : decode cX8_bout 33 = .ok (.iload_n 3, 1) := by decide +kernel
theorem dX8_bout_34 : decode cX8_bout 34 = .ok (.invokestatic 145, 3) := by decide +kernel
theorem dX8_bout_37 : decode cX8_bout 37 = .ok (.ifCond .eq 19, 3) := by decide +kernel
theorem dX8_bout_40 : decode cX8_bout 40 = .ok (.iload 4, 2) := by decide +kernel
theorem dX8_bout_42 : decode cX8_bout 42 = .ok (.ifCond .eq 17, 3) := by decide +kernel
theorem dX8_bout_45 : decode cX8_bout 45 = .ok (.iload 4, 2) := by decide +kernel
theorem dX8_bout_47 : decode cX8_bout 47 = .ok (.iconst 1, 1) := by decide +kernel
theorem dX8_bout_48 : decode cX8_bout 48 = .ok (.if_icmp .eq 11, 3) := by decide +kernel
theorem dX8_bout_51 : decode cX8_bout 51 = .ok (.iload 5, 2) := by decide +kernel
theorem dX8_bout_53 : decode cX8_bout 53 = .ok (.ifCond .ne 6, 3) := by decide +kernel
theorem dX8_bout_56 : decode cX8_bout 56 = .ok (.bipush (-7), 2) := by decide +kernel
theorem dX8_bout_58 : decode cX8_bout 58 = .ok (.ireturn, 1) := by decide +kernel
theorem dX8_bout_59 : decode cX8_bout 59 = .ok (.aload_n 0, 1) := by decide +kernel
theorem dX8_bout_60 : decode cX8_bout 60 = .ok (.getfield 60, 3) := by decide +kernel
theorem dX8_bout_63 : decode cX8_bout 63 = .ok (.aload_n 0, 1) := by decide +kernel
theorem dX8_bout_64 : decode cX8_bout 64 = .ok (.iload_n 1, 1) := by decide +kernel
theorem dX8_bout_65 : decode cX8_bout 65 = .ok (.invokevirtual 149, 3) := by decide +kernel
theorem dX8_bout_68 : decode cX8_bout 68 = .ok (.aload_n 0, 1) := by decide +kernel
theorem dX8_bout_69 : decode cX8_bout 69 = .ok (.iload_n 1, 1) := by decide +kernel
theorem dX8_bout_70 : decode cX8_bout 70 = .ok (.invokevirtual 152, 3) := by decide +kernel
theorem dX8_bout_73 : decode cX8_bout 73 = .ok (.aload_n 0, 1) := by decide +kernel
theorem dX8_bout_74 : decode cX8_bout 74 = .ok (.invokevirtual 118, 3) := by decide +kernel
theorem dX8_bout_77 : decode cX8_bout 77 = .ok (.invokevirtual 155, 3) := by decide +kernel
theorem dX8_bout_80 : decode cX8_bout 80 = .ok (.aload_n 0, 1) := by decide +kernel
theorem dX8_bout_81 : decode cX8_bout 81 = .ok (.getfield 60, 3) := by decide +kernel
theorem dX8_bout_84 : decode cX8_bout 84 = .ok (.iload_n 2, 1) := by decide +kernel
theorem dX8_bout_85 : decode cX8_bout 85 = .ok (.iload_n 3, 1) := by decide +kernel
theorem dX8_bout_86 : decode cX8_bout 86 = .ok (.invokevirtual 159, 3) := by decide +kernel
theorem dX8_bout_89 : decode cX8_bout 89 = .ok (.iload 5, 2) := by decide +kernel
theorem dX8_bout_91 : decode cX8_bout 91 = .ok (.ifCond .eq 16, 3) := by decide +kernel
theorem dX8_bout_94 : decode cX8_bout 94 = .ok (.aload_n 0, 1) := by decide +kernel
theorem dX8_bout_95 : decode cX8_bout 95 = .ok (.getfield 60, 3) := by decide +kernel
theorem dX8_bout_98 : decode cX8_bout 98 = .ok (.iload 4, 2) := by decide +kernel
theorem dX8_bout_100 : decode cX8_bout 100 = .ok (.bipush 10, 2) := by decide +kernel
theorem dX8_bout_102 : decode cX8_bout 102 = .ok (.isub, 1) := by decide +kernel
theorem dX8_bout_103 : decode cX8_bout 103 = .ok (.invokevirtual 162, 3) := by decide +kernel
theorem dX8_bout_106 : decode cX8_bout 106 = .ok (.ireturn, 1) := by decide +kernel
theorem dX8_bout_107 : decode cX8_bout 107 = .ok (.iload 4, 2) := by decide +kernel
theorem dX8_bout_109 : decode cX8_bout 109 = .ok (.ifCond .ne 18, 3) := by decide +kernel
theorem dX8_bout_112 : decode cX8_bout 112 = .ok (.aload_n 0, 1) := by decide +kernel
theorem dX8_bout_113 : decode cX8_bout 113 = .ok (.iload_n 1, 1) := by decide +kernel
theorem dX8_bout_114 : decode cX8_bout 114 = .ok (.bipush 10, 2) := by decide +kernel
theorem dX8_bout_116 : decode cX8_bout 116 = .ok (.idiv, 1) := by decide +kernel
theorem dX8_bout_117 : decode cX8_bout 117 = .ok (.iload_n 1, 1) := by decide +kernel
theorem dX8_bout_118 : decode cX8_bout 118 = .ok (.bipush 10, 2) := by decide +kernel
theorem dX8_bout_120 : decode cX8_bout 120 = .ok (.irem, 1) := by decide +kernel
theorem dX8_bout_121 : decode cX8_bout 121 = .ok (.invokevirtual 165, 3) := by decide +kernel
theorem dX8_bout_124 : decode cX8_bout 124 = .ok (.goto 10, 3) := by decide +kernel
theorem dX8_bout_127 : decode cX8_bout 127 = .ok (.aload_n 0, 1) := by decide +kernel
theorem dX8_bout_128 : decode cX8_bout 128 = .ok (.getfield 60, 3) := by decide +kernel
theorem dX8_bout_131 : decode cX8_bout 131 = .ok (.getfield 169, 3) := by decide +kernel
theorem dX8_bout_134 : decode cX8_bout 134 = .ok (.ireturn, 1) := by decide +kernel
theorem dX8_fight_0 : decode cX8_fight 0 = .ok (.aload_n 0, 1) := by decide +kernel
theorem dX8_fight_1 : decode cX8_fight 1 = .ok (.iload_n 1, 1) := by decide +kernel
theorem dX8_fight_2 : decode cX8_fight 2 = .ok (.iload_n 2, 1) := by decide +kernel
theorem dX8_fight_3 : decode cX8_fight 3 = .ok (.invokevirtual 172, 3) := by decide +kernel
theorem dX8_fight_6 : decode cX8_fight 6 = .ok (.ifCond .ne 6, 3) := by decide +kernel
theorem dX8_fight_9 : decode cX8_fight 9 = .ok (.bipush (-5), 2) := by decide +kernel
theorem dX8_fight_11 : decode cX8_fight 11 = .ok (.ireturn, 1) := by decide +kernel
theorem dX8_fight_12 : decode cX8_fight 12 = .ok (.iload_n 3, 1) := by decide +kernel
theorem dX8_fight_13 : decode cX8_fight 13 = .ok (.iload 4, 2) := by decide +kernel
theorem dX8_fight_15 : decode cX8_fight 15 = .ok (.invokestatic 145, 3) := by decide +kernel
theorem dX8_fight_18 : decode cX8_fight 18 = .ok (.ifCond .ne 6, 3) := by decide +kernel
theorem dX8_fight_21 : decode cX8_fight 21 = .ok (.bipush (-7), 2) := by decide +kernel
theorem dX8_fight_23 : decode cX8_fight 23 = .ok (.ireturn, 1) := by decide +kernel
theorem dX8_fight_24 : decode cX8_fight 24 = .ok (.aload_n 0, 1) := by decide +kernel
theorem dX8_fight_25 : decode cX8_fight 25 = .ok (.aload_n 0, 1) := by decide +kernel
theorem dX8_fight_26 : decode cX8_fight 26 = .ok (.getfield 10, 3) := by decide +kernel
theorem dX8_fight_29 : decode cX8_fight 29 = .ok (.iload_n 1, 1) := by decide +kernel
theorem dX8_fight_30 : decode cX8_fight 30 = .ok (.invokevirtual 122, 3) := by decide +kernel
theorem dX8_fight_33 : decode cX8_fight 33 = .ok (.aload_n 0, 1) := by decide +kernel
theorem dX8_fight_34 : decode cX8_fight 34 = .ok (.getfield 10, 3) := by decide +kernel
theorem dX8_fight_37 : decode cX8_fight 37 = .ok (.iload_n 2, 1) := by decide +kernel
theorem dX8_fight_38 : decode cX8_fight 38 = .ok (.invokevirtual 122, 3) := by decide +kernel
theorem dX8_fight_41 : decode cX8_fight 41 = .ok (.iload_n 3, 1) := by decide +kernel
theorem dX8_fight_42 : decode cX8_fight 42 = .ok (.iload 4, 2) := by decide +kernel
theorem dX8_fight_44 : decode cX8_fight 44 = .ok (.invokevirtual 175, 3) := by decide +kernel
theorem dX8_fight_47 : decode cX8_fight 47 = .ok (.aload_n 0, 1) := by decide +kernel
theorem dX8_fight_48 : decode cX8_fight 48 = .ok (.iload_n 1, 1) := by decide +kernel
theorem dX8_fight_49 : decode cX8_fight 49 = .ok (.iload_n 2, 1) := by decide +kernel
theorem dX8_fight_50 : decode cX8_fight 50 = .ok (.invokevirtual 165, 3) := by decide +kernel
theorem dX8_fight_53 : decode cX8_fight 53 = .ok (.ireturn, 1) := by decide +kernel
theorem dX8_best_0 : decode cX8_best 0 = .ok (.aload_n 0, 1) := by decide +kernel
theorem dX8_best_1 : decode cX8_best 1 = .ok (.iload_n 1, 1) := by decide +kernel
theorem dX8_best_2 : decode cX8_best 2 = .ok (.invokevirtual 142, 3) := by decide +kernel
theorem dX8_best_5 : decode cX8_best 5 = .ok (.ifCond .ne 6, 3) := by decide +kernel
theorem dX8_best_8 : decode cX8_best 8 = .ok (.bipush (-5), 2) := by decide +kernel
theorem dX8_best_10 : decode cX8_best 10 = .ok (.ireturn, 1) := by decide +kernel
theorem dX8_best_11 : decode cX8_best 11 = .ok (.iload_n 2, 1) := by decide +kernel
theorem dX8_best_12 : decode cX8_best 12 = .ok (.invokestatic 179, 3) := by decide +kernel
theorem dX8_best_15 : decode cX8_best 15 = .ok (.ifCond .eq 24, 3) := by decide +kernel
theorem dX8_best_18 : decode cX8_best 18 = .ok (.iload_n 3, 1) := by decide +kernel
theorem dX8_best_19 : decode cX8_best 19 = .ok (.iconst 1, 1) := by decide +kernel
theorem dX8_best_20 : decode cX8_best 20 = .ok (.if_icmp .lt 19, 3) := by decide +kernel
theorem dX8_best_23 : decode cX8_best 23 = .ok (.iload_n 3, 1) := by decide +kernel
theorem dX8_best_24 : decode cX8_best 24 = .ok (.iconst 3, 1) := by decide +kernel
theorem dX8_best_25 : decode cX8_best 25 = .ok (.if_icmp .gt 14, 3) := by decide +kernel
theorem dX8_best_28 : decode cX8_best 28 = .ok (.iload 4, 2) := by decide +kernel
theorem dX8_best_30 : decode cX8_best 30 = .ok (.ifCond .eq 12, 3) := by decide +kernel
theorem dX8_best_33 : decode cX8_best 33 = .ok (.iload 4, 2) := by decide +kernel
theorem dX8_best_35 : decode cX8_best 35 = .ok (.iconst 1, 1) := by decide +kernel
theorem dX8_best_36 : decode cX8_best 36 = .ok (.if_icmp .eq 6, 3) := by decide +kernel
theorem dX8_best_39 : decode cX8_best 39 = .ok (.bipush (-7), 2) := by decide +kernel
theorem dX8_best_41 : decode cX8_best 41 = .ok (.ireturn, 1) := by decide +kernel
theorem dX8_best_42 : decode cX8_best 42 = .ok (.aload_n 0, 1) := by decide +kernel
theorem dX8_best_43 : decode cX8_best 43 = .ok (.getfield 60, 3) := by decide +kernel
theorem dX8_best_46 : decode cX8_best 46 = .ok (.aload_n 0, 1) := by decide +kernel
theorem dX8_best_47 : decode cX8_best 47 = .ok (.iload_n 1, 1) := by decide +kernel
theorem dX8_best_48 : decode cX8_best 48 = .ok (.invokevirtual 149, 3) := by decide +kernel
theorem dX8_best_51 : decode cX8_best 51 = .ok (.aload_n 0, 1) := by decide +kernel
theorem dX8_best_52 : decode cX8_best 52 = .ok (.iload_n 1, 1) := by decide +kernel
theorem dX8_best_53 : decode cX8_best 53 = .ok (.invokevirtual 152, 3) := by decide +kernel
theorem dX8_best_56 : decode cX8_best 56 = .ok (.aload_n 0, 1) := by decide +kernel
theorem dX8_best_57 : decode cX8_best 57 = .ok (.invokevirtual 118, 3) := by decide +kernel
theorem dX8_best_60 : decode cX8_best 60 = .ok (.invokevirtual 155, 3) := by decide +kernel
theorem dX8_best_63 : decode cX8_best 63 = .ok (.iconst (-1), 1) := by decide +kernel
theorem dX8_best_64 : decode cX8_best 64 = .ok (.istore 5, 2) := by decide +kernel
theorem dX8_best_66 : decode cX8_best 66 = .ok (.iconst (-1), 1) := by decide +kernel
theorem dX8_best_67 : decode cX8_best 67 = .ok (.istore 6, 2) := by decide +kernel
theorem dX8_best_69 : decode cX8_best 69 = .ok (.iconst 0, 1) := by decide +kernel
theorem dX8_best_70 : decode cX8_best 70 = .ok (.istore 7, 2) := by decide +kernel
theorem dX8_best_72 : decode cX8_best 72 = .ok (.iload 7, 2) := by decide +kernel
theorem dX8_best_74 : decode cX8_best 74 = .ok (.iload_n 3, 1) := by decide +kernel
theorem dX8_best_75 : decode cX8_best 75 = .ok (.invokestatic 182, 3) := by decide +kernel
theorem dX8_best_78 : decode cX8_best 78 = .ok (.if_icmp .ge 63, 3) := by decide +kernel
theorem dX8_best_81 : decode cX8_best 81 = .ok (.aload_n 0, 1) := by decide +kernel
theorem dX8_best_82 : decode cX8_best 82 = .ok (.getfield 60, 3) := by decide +kernel
theorem dX8_best_85 : decode cX8_best 85 = .ok (.iload 7, 2) := by decide +kernel
theorem dX8_best_87 : decode cX8_best 87 = .ok (.iload_n 3, 1) := by decide +kernel
theorem dX8_best_88 : decode cX8_best 88 = .ok (.invokestatic 185, 3) := by decide +kernel
theorem dX8_best_91 : decode cX8_best 91 = .ok (.iload_n 2, 1) := by decide +kernel
theorem dX8_best_92 : decode cX8_best 92 = .ok (.invokevirtual 159, 3) := by decide +kernel
theorem dX8_best_95 : decode cX8_best 95 = .ok (.aload_n 0, 1) := by decide +kernel
theorem dX8_best_96 : decode cX8_best 96 = .ok (.getfield 60, 3) := by decide +kernel
theorem dX8_best_99 : decode cX8_best 99 = .ok (.getfield 188, 3) := by decide +kernel
theorem dX8_best_102 : decode cX8_best 102 = .ok (.ifCond .le 33, 3) := by decide +kernel
theorem dX8_best_105 : decode cX8_best 105 = .ok (.iload 5, 2) := by decide +kernel
theorem dX8_best_107 : decode cX8_best 107 = .ok (.ifCond .lt 15, 3) := by decide +kernel
theorem dX8_best_110 : decode cX8_best 110 = .ok (.aload_n 0, 1) := by decide +kernel
theorem dX8_best_111 : decode cX8_best 111 = .ok (.getfield 60, 3) := by decide +kernel
theorem dX8_best_114 : decode cX8_best 114 = .ok (.getfield 169, 3) := by decide +kernel
theorem dX8_best_117 : decode cX8_best 117 = .ok (.iload 6, 2) := by decide +kernel
theorem dX8_best_119 : decode cX8_best 119 = .ok (.if_icmp .ge 16, 3) := by decide +kernel
theorem dX8_best_122 : decode cX8_best 122 = .ok (.iload 7, 2) := by decide +kernel
theorem dX8_best_124 : decode cX8_best 124 = .ok (.istore 5, 2) := by decide +kernel
theorem dX8_best_126 : decode cX8_best 126 = .ok (.aload_n 0, 1) := by decide +kernel
theorem dX8_best_127 : decode cX8_best 127 = .ok (.getfield 60, 3) := by decide +kernel
theorem dX8_best_130 : decode cX8_best 130 = .ok (.getfield 169, 3) := by decide +kernel
theorem dX8_best_133 : decode cX8_best 133 = .ok (.istore 6, 2) := by decide +kernel
theorem dX8_best_135 : decode cX8_best 135 = .ok (.iinc 7 1, 3) := by decide +kernel
theorem dX8_best_138 : decode cX8_best 138 = .ok (.goto (-66), 3) := by decide +kernel
theorem dX8_best_141 : decode cX8_best 141 = .ok (.iload 4, 2) := by decide +kernel
theorem dX8_best_143 : decode cX8_best 143 = .ok (.ifCond .ne 8, 3) := by decide +kernel
theorem dX8_best_146 : decode cX8_best 146 = .ok (.iload 5, 2) := by decide +kernel
theorem dX8_best_148 : decode cX8_best 148 = .ok (.goto 5, 3) := by decide +kernel
theorem dX8_best_151 : decode cX8_best 151 = .ok (.iload 6, 2) := by decide +kernel
theorem dX8_best_153 : decode cX8_best 153 = .ok (.ireturn, 1) := by decide +kernel
theorem dX8_sure_0 : decode cX8_sure 0 = .ok (.aload_n 0, 1) := by decide +kernel
theorem dX8_sure_1 : decode cX8_sure 1 = .ok (.iload_n 1, 1) := by decide +kernel
theorem dX8_sure_2 : decode cX8_sure 2 = .ok (.invokevirtual 142, 3) := by decide +kernel
theorem dX8_sure_5 : decode cX8_sure 5 = .ok (.ifCond .ne 6, 3) := by decide +kernel
theorem dX8_sure_8 : decode cX8_sure 8 = .ok (.bipush (-5), 2) := by decide +kernel
theorem dX8_sure_10 : decode cX8_sure 10 = .ok (.ireturn, 1) := by decide +kernel
theorem dX8_sure_11 : decode cX8_sure 11 = .ok (.iload_n 2, 1) := by decide +kernel
theorem dX8_sure_12 : decode cX8_sure 12 = .ok (.iconst 1, 1) := by decide +kernel
theorem dX8_sure_13 : decode cX8_sure 13 = .ok (.if_icmp .lt 17, 3) := by decide +kernel
theorem dX8_sure_16 : decode cX8_sure 16 = .ok (.iload_n 2, 1) := by decide +kernel
theorem dX8_sure_17 : decode cX8_sure 17 = .ok (.iconst 2, 1) := by decide +kernel
theorem dX8_sure_18 : decode cX8_sure 18 = .ok (.if_icmp .gt 12, 3) := by decide +kernel
theorem dX8_sure_21 : decode cX8_sure 21 = .ok (.iload_n 3, 1) := by decide +kernel
theorem dX8_sure_22 : decode cX8_sure 22 = .ok (.ifCond .eq 11, 3) := by decide +kernel
theorem dX8_sure_25 : decode cX8_sure 25 = .ok (.iload_n 3, 1) := by decide +kernel
theorem dX8_sure_26 : decode cX8_sure 26 = .ok (.iconst 1, 1) := by decide +kernel
theorem dX8_sure_27 : decode cX8_sure 27 = .ok (.if_icmp .eq 6, 3) := by decide +kernel
theorem dX8_sure_30 : decode cX8_sure 30 = .ok (.bipush (-7), 2) := by decide +kernel
theorem dX8_sure_32 : decode cX8_sure 32 = .ok (.ireturn, 1) := by decide +kernel
theorem dX8_sure_33 : decode cX8_sure 33 = .ok (.aload_n 0, 1) := by decide +kernel
theorem dX8_sure_34 : decode cX8_sure 34 = .ok (.getfield 60, 3) := by decide +kernel
theorem dX8_sure_37 : decode cX8_sure 37 = .ok (.aload_n 0, 1) := by decide +kernel
theorem dX8_sure_38 : decode cX8_sure 38 = .ok (.iload_n 1, 1) := by decide +kernel
theorem dX8_sure_39 : decode cX8_sure 39 = .ok (.invokevirtual 149, 3) := by decide +kernel
theorem dX8_sure_42 : decode cX8_sure 42 = .ok (.aload_n 0, 1) := by decide +kernel
theorem dX8_sure_43 : decode cX8_sure 43 = .ok (.iload_n 1, 1) := by decide +kernel
theorem dX8_sure_44 : decode cX8_sure 44 = .ok (.invokevirtual 152, 3) := by decide +kernel
theorem dX8_sure_47 : decode cX8_sure 47 = .ok (.aload_n 0, 1) := by decide +kernel
theorem dX8_sure_48 : decode cX8_sure 48 = .ok (.invokevirtual 118, 3) := by decide +kernel
theorem dX8_sure_51 : decode cX8_sure 51 = .ok (.invokevirtual 155, 3) := by decide +kernel
theorem dX8_sure_54 : decode cX8_sure 54 = .ok (.iconst 0, 1) := by decide +kernel
theorem dX8_sure_55 : decode cX8_sure 55 = .ok (.istore 4, 2) := by decide +kernel
theorem dX8_sure_57 : decode cX8_sure 57 = .ok (.aload_n 0, 1) := by decide +kernel
theorem dX8_sure_58 : decode cX8_sure 58 = .ok (.iconst 0, 1) := by decide +kernel
theorem dX8_sure_59 : decode cX8_sure 59 = .ok (.iload_n 2, 1) := by decide +kernel
theorem dX8_sure_60 : decode cX8_sure 60 = .ok (.invokevirtual 191, 3) := by decide +kernel
theorem dX8_sure_63 : decode cX8_sure 63 = .ok (.istore 5, 2) := by decide +kernel
theorem dX8_sure_65 : decode cX8_sure 65 = .ok (.iconst 1, 1) := by decide +kernel
theorem dX8_sure_66 : decode cX8_sure 66 = .ok (.istore 6, 2) := by decide +kernel
theorem dX8_sure_68 : decode cX8_sure 68 = .ok (.iload 6, 2) := by decide +kernel
theorem dX8_sure_70 : decode cX8_sure 70 = .ok (.iload_n 2, 1) := by decide +kernel
theorem dX8_sure_71 : decode cX8_sure 71 = .ok (.invokestatic 182, 3) := by decide +kernel
theorem dX8_sure_74 : decode cX8_sure 74 = .ok (.if_icmp .ge 33, 3) := by decide +kernel
theorem dX8_sure_77 : decode cX8_sure 77 = .ok (.aload_n 0, 1) := by decide +kernel
theorem dX8_sure_78 : decode cX8_sure 78 = .ok (.iload 6, 2) := by decide +kernel
theorem dX8_sure_80 : decode cX8_sure 80 = .ok (.iload_n 2, 1) := by decide +kernel
theorem dX8_sure_81 : decode cX8_sure 81 = .ok (.invokevirtual 191, 3) := by decide +kernel
theorem dX8_sure_84 : decode cX8_sure 84 = .ok (.istore 7, 2) := by decide +kernel
theorem dX8_sure_86 : decode cX8_sure 86 = .ok (.iload 7, 2) := by decide +kernel
theorem dX8_sure_88 : decode cX8_sure 88 = .ok (.iload 5, 2) := by decide +kernel
theorem dX8_sure_90 : decode cX8_sure 90 = .ok (.if_icmp .le 11, 3) := by decide +kernel
theorem dX8_sure_93 : decode cX8_sure 93 = .ok (.iload 6, 2) := by decide +kernel
theorem dX8_sure_95 : decode cX8_sure 95 = .ok (.istore 4, 2) := by decide +kernel
theorem dX8_sure_97 : decode cX8_sure 97 = .ok (.iload 7, 2) := by decide +kernel
theorem dX8_sure_99 : decode cX8_sure 99 = .ok (.istore 5, 2) := by decide +kernel
theorem dX8_sure_101 : decode cX8_sure 101 = .ok (.iinc 6 1, 3) := by decide +kernel
theorem dX8_sure_104 : decode cX8_sure 104 = .ok (.goto (-36), 3) := by decide +kernel
theorem dX8_sure_107 : decode cX8_sure 107 = .ok (.iload_n 3, 1) := by decide +kernel
theorem dX8_sure_108 : decode cX8_sure 108 = .ok (.ifCond .ne 8, 3) := by decide +kernel
theorem dX8_sure_111 : decode cX8_sure 111 = .ok (.iload 4, 2) := by decide +kernel
theorem dX8_sure_113 : decode cX8_sure 113 = .ok (.goto 5, 3) := by decide +kernel
theorem dX8_sure_116 : decode cX8_sure 116 = .ok (.iload 5, 2) := by decide +kernel
theorem dX8_sure_118 : decode cX8_sure 118 = .ok (.ireturn, 1) := by decide +kernel
theorem dX8_chance_0 : decode cX8_chance 0 = .ok (.aload_n 0, 1) := by decide +kernel
theorem dX8_chance_1 : decode cX8_chance 1 = .ok (.iload_n 1, 1) := by decide +kernel
theorem dX8_chance_2 : decode cX8_chance 2 = .ok (.invokevirtual 142, 3) := by decide +kernel
theorem dX8_chance_5 : decode cX8_chance 5 = .ok (.ifCond .eq 22, 3) := by decide +kernel
theorem dX8_chance_8 : decode cX8_chance 8 = .ok (.iload_n 2, 1) := by decide +kernel
theorem dX8_chance_9 : decode cX8_chance 9 = .ok (.iconst 1, 1) := by decide +kernel
theorem dX8_chance_10 : decode cX8_chance 10 = .ok (.if_icmp .lt 17, 3) := by decide +kernel
theorem dX8_chance_13 : decode cX8_chance 13 = .ok (.iload_n 2, 1) := by decide +kernel
theorem dX8_chance_14 : decode cX8_chance 14 = .ok (.iconst 2, 1) := by decide +kernel
theorem dX8_chance_15 : decode cX8_chance 15 = .ok (.if_icmp .gt 12, 3) := by decide +kernel
theorem dX8_chance_18 : decode cX8_chance 18 = .ok (.iload_n 3, 1) := by decide +kernel
theorem dX8_chance_19 : decode cX8_chance 19 = .ok (.ifCond .eq 12, 3) := by decide +kernel
theorem dX8_chance_22 : decode cX8_chance 22 = .ok (.iload_n 3, 1) := by decide +kernel
theorem dX8_chance_23 : decode cX8_chance 23 = .ok (.iconst 1, 1) := by decide +kernel
theorem dX8_chance_24 : decode cX8_chance 24 = .ok (.if_icmp .eq 7, 3) := by decide +kernel
theorem dX8_chance_27 : decode cX8_chance 27 = .ok (.ldc2_w 194, 3) := by decide +kernel
theorem dX8_chance_30 : decode cX8_chance 30 = .ok (.lreturn, 1) := by decide +kernel
theorem dX8_chance_31 : decode cX8_chance 31 = .ok (.aload_n 0, 1) := by decide +kernel
theorem dX8_chance_32 : decode cX8_chance 32 = .ok (.getfield 60, 3) := by decide +kernel
theorem dX8_chance_35 : decode cX8_chance 35 = .ok (.aload_n 0, 1) := by decide +kernel
theorem dX8_chance_36 : decode cX8_chance 36 = .ok (.iload_n 1, 1) := by decide +kernel
theorem dX8_chance_37 : decode cX8_chance 37 = .ok (.invokevirtual 149, 3) := by decide +kernel
theorem dX8_chance_40 : decode cX8_chance 40 = .ok (.aload_n 0, 1) := by decide +kernel
theorem dX8_chance_41 : decode cX8_chance 41 = .ok (.iload_n 1, 1) := by decide +kernel
theorem dX8_chance_42 : decode cX8_chance 42 = .ok (.invokevirtual 152, 3) := by decide +kernel
theorem dX8_chance_45 : decode cX8_chance 45 = .ok (.aload_n 0, 1) := by decide +kernel
theorem dX8_chance_46 : decode cX8_chance 46 = .ok (.invokevirtual 118, 3) := by decide +kernel
theorem dX8_chance_49 : decode cX8_chance 49 = .ok (.invokevirtual 155, 3) := by decide +kernel
theorem dX8_chance_52 : decode cX8_chance 52 = .ok (.iconst 0, 1) := by decide +kernel
theorem dX8_chance_53 : decode cX8_chance 53 = .ok (.istore 4, 2) := by decide +kernel
theorem dX8_chance_55 : decode cX8_chance 55 = .ok (.iconst 0, 1) := by decide +kernel
theorem dX8_chance_56 : decode cX8_chance 56 = .ok (.istore 5, 2) := by decide +kernel
theorem dX8_chance_58 : decode cX8_chance 58 = .ok (.iload 5, 2) := by decide +kernel
theorem dX8_chance_60 : decode cX8_chance 60 = .ok (.iload_n 2, 1) := by decide +kernel
theorem dX8_chance_61 : decode cX8_chance 61 = .ok (.invokestatic 182, 3) := by decide +kernel
theorem dX8_chance_64 : decode cX8_chance 64 = .ok (.if_icmp .ge 21, 3) := by decide +kernel
theorem dX8_chance_67 : decode cX8_chance 67 = .ok (.iload 4, 2) := by decide +kernel
theorem dX8_chance_69 : decode cX8_chance 69 = .ok (.aload_n 0, 1) := by decide +kernel
theorem dX8_chance_70 : decode cX8_chance 70 = .ok (.iload 5, 2) := by decide +kernel
theorem dX8_chance_72 : decode cX8_chance 72 = .ok (.iload_n 2, 1) := by decide +kernel
theorem dX8_chance_73 : decode cX8_chance 73 = .ok (.invokevirtual 191, 3) := by decide +kernel
theorem dX8_chance_76 : decode cX8_chance 76 = .ok (.iadd, 1) := by decide +kernel
theorem dX8_chance_77 : decode cX8_chance 77 = .ok (.istore 4, 2) := by decide +kernel
theorem dX8_chance_79 : decode cX8_chance 79 = .ok (.iinc 5 1, 3) := by decide +kernel
theorem dX8_chance_82 : decode cX8_chance 82 = .ok (.goto (-24), 3) := by decide +kernel
theorem dX8_chance_85 : decode cX8_chance 85 = .ok (.iload 4, 2) := by decide +kernel
theorem dX8_chance_87 : decode cX8_chance 87 = .ok (.iload_n 2, 1) := by decide +kernel
theorem dX8_chance_88 : decode cX8_chance 88 = .ok (.invokestatic 182, 3) := by decide +kernel
theorem dX8_chance_91 : decode cX8_chance 91 = .ok (.iload_n 2, 1) := by decide +kernel
theorem dX8_chance_92 : decode cX8_chance 92 = .ok (.invokestatic 182, 3) := by decide +kernel
theorem dX8_chance_95 : decode cX8_chance 95 = .ok (.imul, 1) := by decide +kernel
theorem dX8_chance_96 : decode cX8_chance 96 = .ok (.iload_n 3, 1) := by decide +kernel
theorem dX8_chance_97 : decode cX8_chance 97 = .ok (.invokestatic 196, 3) := by decide +kernel
theorem dX8_chance_100 : decode cX8_chance 100 = .ok (.lreturn, 1) := by decide +kernel
theorem dX8_knees_0 : decode cX8_knees 0 = .ok (.aload_n 0, 1) := by decide +kernel
theorem dX8_knees_1 : decode cX8_knees 1 = .ok (.iload_n 1, 1) := by decide +kernel
theorem dX8_knees_2 : decode cX8_knees 2 = .ok (.invokevirtual 142, 3) := by decide +kernel
theorem dX8_knees_5 : decode cX8_knees 5 = .ok (.ifCond .ne 6, 3) := by decide +kernel
theorem dX8_knees_8 : decode cX8_knees 8 = .ok (.bipush (-5), 2) := by decide +kernel
theorem dX8_knees_10 : decode cX8_knees 10 = .ok (.ireturn, 1) := by decide +kernel
theorem dX8_knees_11 : decode cX8_knees 11 = .ok (.iload_n 2, 1) := by decide +kernel
theorem dX8_knees_12 : decode cX8_knees 12 = .ok (.iload_n 3, 1) := by decide +kernel
theorem dX8_knees_13 : decode cX8_knees 13 = .ok (.invokestatic 145, 3) := by decide +kernel
theorem dX8_knees_16 : decode cX8_knees 16 = .ok (.ifCond .ne 6, 3) := by decide +kernel
theorem dX8_knees_19 : decode cX8_knees 19 = .ok (.bipush (-7), 2) := by decide +kernel
theorem dX8_knees_21 : decode cX8_knees 21 = .ok (.ireturn, 1) := by decide +kernel
theorem dX8_knees_22 : decode cX8_knees 22 = .ok (.aload_n 0, 1) := by decide +kernel
theorem dX8_knees_23 : decode cX8_knees 23 = .ok (.getfield 25, 3) := by decide +kernel
theorem dX8_knees_26 : decode cX8_knees 26 = .ok (.aload_n 0, 1) := by decide +kernel
theorem dX8_knees_27 : decode cX8_knees 27 = .ok (.iload_n 1, 1) := by decide +kernel
theorem dX8_knees_28 : decode cX8_knees 28 = .ok (.invokevirtual 149, 3) := by decide +kernel
theorem dX8_knees_31 : decode cX8_knees 31 = .ok (.invokevirtual 200, 3) := by decide +kernel
theorem dX8_knees_34 : decode cX8_knees 34 = .ok (.iconst 0, 1) := by decide +kernel
theorem dX8_knees_35 : decode cX8_knees 35 = .ok (.istore 4, 2) := by decide +kernel
theorem dX8_knees_37 : decode cX8_knees 37 = .ok (.iload 4, 2) := by decide +kernel
theorem dX8_knees_39 : decode cX8_knees 39 = .ok (.bipush 10, 2) := by decide +kernel
theorem dX8_knees_41 : decode cX8_knees 41 = .ok (.if_icmp .ge 60, 3) := by decide +kernel
theorem dX8_knees_44 : decode cX8_knees 44 = .ok (.aload_n 0, 1) := by decide +kernel
theorem dX8_knees_45 : decode cX8_knees 45 = .ok (.getfield 25, 3) := by decide +kernel
theorem dX8_knees_48 : decode cX8_knees 48 = .ok (.iload 4, 2) := by decide +kernel
theorem dX8_knees_50 : decode cX8_knees 50 = .ok (.putfield 204, 3) := by decide +kernel
theorem dX8_knees_53 : decode cX8_knees 53 = .ok (.aload_n 0, 1) := by decide +kernel
theorem dX8_knees_54 : decode cX8_knees 54 = .ok (.getfield 60, 3) := by decide +kernel
theorem dX8_knees_57 : decode cX8_knees 57 = .ok (.aload_n 0, 1) := by decide +kernel
theorem dX8_knees_58 : decode cX8_knees 58 = .ok (.getfield 25, 3) := by decide +kernel
theorem dX8_knees_61 : decode cX8_knees 61 = .ok (.aload_n 0, 1) := by decide +kernel
theorem dX8_knees_62 : decode cX8_knees 62 = .ok (.iload_n 1, 1) := by decide +kernel
theorem dX8_knees_63 : decode cX8_knees 63 = .ok (.invokevirtual 152, 3) := by decide +kernel
theorem dX8_knees_66 : decode cX8_knees 66 = .ok (.aload_n 0, 1) := by decide +kernel
theorem dX8_knees_67 : decode cX8_knees 67 = .ok (.invokevirtual 118, 3) := by decide +kernel
theorem dX8_knees_70 : decode cX8_knees 70 = .ok (.invokevirtual 155, 3) := by decide +kernel
theorem dX8_knees_73 : decode cX8_knees 73 = .ok (.aload_n 0, 1) := by decide +kernel
theorem dX8_knees_74 : decode cX8_knees 74 = .ok (.getfield 60, 3) := by decide +kernel
theorem dX8_knees_77 : decode cX8_knees 77 = .ok (.iload_n 2, 1) := by decide +kernel
theorem dX8_knees_78 : decode cX8_knees 78 = .ok (.iload_n 3, 1) := by decide +kernel
theorem dX8_knees_79 : decode cX8_knees 79 = .ok (.invokevirtual 159, 3) := by decide +kernel
theorem dX8_knees_82 : decode cX8_knees 82 = .ok (.aload_n 0, 1) := by decide +kernel
theorem dX8_knees_83 : decode cX8_knees 83 = .ok (.getfield 60, 3) := by decide +kernel
theorem dX8_knees_86 : decode cX8_knees 86 = .ok (.getfield 188, 3) := by decide +kernel
theorem dX8_knees_89 : decode cX8_knees 89 = .ok (.ifCond .ge 6, 3) := by decide +kernel
theorem dX8_knees_92 : decode cX8_knees 92 = .ok (.iload 4, 2) := by decide +kernel
theorem dX8_knees_94 : decode cX8_knees 94 = .ok (.ireturn, 1) := by decide +kernel
theorem dX8_knees_95 : decode cX8_knees 95 = .ok (.iinc 4 1, 3) := by decide +kernel
theorem dX8_knees_98 : decode cX8_knees 98 = .ok (.goto (-61), 3) := by decide +kernel
theorem dX8_knees_101 : decode cX8_knees 101 = .ok (.iconst (-1), 1) := by decide +kernel
theorem dX8_knees_102 : decode cX8_knees 102 = .ok (.ireturn, 1) := by decide +kernel
theorem dX8_beats_0 : decode cX8_beats 0 = .ok (.aload_n 0, 1) := by decide +kernel
theorem dX8_beats_1 : decode cX8_beats 1 = .ok (.getfield 10, 3) := by decide +kernel
theorem dX8_beats_4 : decode cX8_beats 4 = .ok (.iload_n 1, 1) := by decide +kernel
theorem dX8_beats_5 : decode cX8_beats 5 = .ok (.invokevirtual 115, 3) := by decide +kernel
theorem dX8_beats_8 : decode cX8_beats 8 = .ok (.ifCond .ne 6, 3) := by decide +kernel
theorem dX8_beats_11 : decode cX8_beats 11 = .ok (.bipush (-5), 2) := by decide +kernel
theorem dX8_beats_13 : decode cX8_beats 13 = .ok (.ireturn, 1) := by decide +kernel
theorem dX8_beats_14 : decode cX8_beats 14 = .ok (.iload_n 2, 1) := by decide +kernel
theorem dX8_beats_15 : decode cX8_beats 15 = .ok (.iload_n 3, 1) := by decide +kernel
theorem dX8_beats_16 : decode cX8_beats 16 = .ok (.invokestatic 145, 3) := by decide +kernel
theorem dX8_beats_19 : decode cX8_beats 19 = .ok (.ifCond .ne 6, 3) := by decide +kernel
theorem dX8_beats_22 : decode cX8_beats 22 = .ok (.bipush (-7), 2) := by decide +kernel
theorem dX8_beats_24 : decode cX8_beats 24 = .ok (.ireturn, 1) := by decide +kernel
theorem dX8_beats_25 : decode cX8_beats 25 = .ok (.iconst 0, 1) := by decide +kernel
theorem dX8_beats_26 : decode cX8_beats 26 = .ok (.istore 4, 2) := by decide +kernel
theorem dX8_beats_28 : decode cX8_beats 28 = .ok (.iconst 0, 1) := by decide +kernel
theorem dX8_beats_29 : decode cX8_beats 29 = .ok (.istore 5, 2) := by decide +kernel
theorem dX8_beats_31 : decode cX8_beats 31 = .ok (.iload 5, 2) := by decide +kernel
theorem dX8_beats_33 : decode cX8_beats 33 = .ok (.aload_n 0, 1) := by decide +kernel
theorem dX8_beats_34 : decode cX8_beats 34 = .ok (.getfield 10, 3) := by decide +kernel
theorem dX8_beats_37 : decode cX8_beats 37 = .ok (.getfield 97, 3) := by decide +kernel
theorem dX8_beats_40 : decode cX8_beats 40 = .ok (.if_icmp .ge 54, 3) := by decide +kernel
theorem dX8_beats_43 : decode cX8_beats 43 = .ok (.iload 5, 2) := by decide +kernel
theorem dX8_beats_45 : decode cX8_beats 45 = .ok (.iload_n 1, 1) := by decide +kernel
theorem dX8_beats_46 : decode cX8_beats 46 = .ok (.if_icmp .eq 42, 3) := by decide +kernel
theorem dX8_beats_49 : decode cX8_beats 49 = .ok (.aload_n 0, 1) := by decide +kernel
theorem dX8_beats_50 : decode cX8_beats 50 = .ok (.iload_n 1, 1) := by decide +kernel
theorem dX8_beats_51 : decode cX8_beats 51 = .ok (.iload 5, 2) := by decide +kernel
theorem dX8_beats_53 : decode cX8_beats 53 = .ok (.invokevirtual 207, 3) := by decide +kernel
theorem dX8_beats_56 : decode cX8_beats 56 = .ok (.aload_n 0, 1) := by decide +kernel
theorem dX8_beats_57 : decode cX8_beats 57 = .ok (.getfield 60, 3) := by decide +kernel
theorem dX8_beats_60 : decode cX8_beats 60 = .ok (.iload_n 2, 1) := by decide +kernel
theorem dX8_beats_61 : decode cX8_beats 61 = .ok (.iload_n 3, 1) := by decide +kernel
theorem dX8_beats_62 : decode cX8_beats 62 = .ok (.invokevirtual 159, 3) := by decide +kernel
theorem dX8_beats_65 : decode cX8_beats 65 = .ok (.iload 4, 2) := by decide +kernel
theorem dX8_beats_67 : decode cX8_beats 67 = .ok (.aload_n 0, 1) := by decide +kernel
theorem dX8_beats_68 : decode cX8_beats 68 = .ok (.getfield 60, 3) := by decide +kernel
theorem dX8_beats_71 : decode cX8_beats 71 = .ok (.getfield 188, 3) := by decide +kernel
theorem dX8_beats_74 : decode cX8_beats 74 = .ok (.ifCond .le 10, 3) := by decide +kernel
theorem dX8_beats_77 : decode cX8_beats 77 = .ok (.iconst 1, 1) := by decide +kernel
theorem dX8_beats_78 : decode cX8_beats 78 = .ok (.iload 5, 2) := by decide +kernel
theorem dX8_beats_80 : decode cX8_beats 80 = .ok (.ishl, 1) := by decide +kernel
theorem dX8_beats_81 : decode cX8_beats 81 = .ok (.goto 4, 3) := by decide +kernel
theorem dX8_beats_84 : decode cX8_beats 84 = .ok (.iconst 0, 1) := by decide +kernel
theorem dX8_beats_85 : decode cX8_beats 85 = .ok (.ior, 1) := by decide +kernel
theorem dX8_beats_86 : decode cX8_beats 86 = .ok (.istore 4, 2) := by decide +kernel
theorem dX8_beats_88 : decode cX8_beats 88 = .ok (.iinc 5 1, 3) := by decide +kernel
theorem dX8_beats_91 : decode cX8_beats 91 = .ok (.goto (-60), 3) := by decide +kernel
theorem dX8_beats_94 : decode cX8_beats 94 = .ok (.iload 4, 2) := by decide +kernel
theorem dX8_beats_96 : decode cX8_beats 96 = .ok (.ireturn, 1) := by decide +kernel
theorem dX8_meet_0 : decode cX8_meet 0 = .ok (.aload_n 0, 1) := by decide +kernel
theorem dX8_meet_1 : decode cX8_meet 1 = .ok (.iload_n 1, 1) := by decide +kernel
theorem dX8_meet_2 : decode cX8_meet 2 = .ok (.invokevirtual 210, 3) := by decide +kernel
theorem dX8_meet_5 : decode cX8_meet 5 = .ok (.istore_n 3, 1) := by decide +kernel
theorem dX8_meet_6 : decode cX8_meet 6 = .ok (.iload_n 3, 1) := by decide +kernel
theorem dX8_meet_7 : decode cX8_meet 7 = .ok (.ifCond .eq 5, 3) := by decide +kernel
theorem dX8_meet_10 : decode cX8_meet 10 = .ok (.iload_n 3, 1) := by decide +kernel
theorem dX8_meet_11 : decode cX8_meet 11 = .ok (.ireturn, 1) := by decide +kernel
theorem dX8_meet_12 : decode cX8_meet 12 = .ok (.iload_n 2, 1) := by decide +kernel
theorem dX8_meet_13 : decode cX8_meet 13 = .ok (.iconst 1, 1) := by decide +kernel
theorem dX8_meet_14 : decode cX8_meet 14 = .ok (.if_icmp .lt 9, 3) := by decide +kernel
theorem dX8_meet_17 : decode cX8_meet 17 = .ok (.iload_n 2, 1) := by decide +kernel
theorem dX8_meet_18 : decode cX8_meet 18 = .ok (.bipush 9, 2) := by decide +kernel
theorem dX8_meet_20 : decode cX8_meet 20 = .ok (.if_icmp .le 6, 3) := by decide +kernel
theorem dX8_meet_23 : decode cX8_meet 23 = .ok (.bipush (-7), 2) := by decide +kernel
theorem dX8_meet_25 : decode cX8_meet 25 = .ok (.ireturn, 1) := by decide +kernel
theorem dX8_meet_26 : decode cX8_meet 26 = .ok (.aload_n 0, 1) := by decide +kernel
theorem dX8_meet_27 : decode cX8_meet 27 = .ok (.getfield 10, 3) := by decide +kernel
theorem dX8_meet_30 : decode cX8_meet 30 = .ok (.getfield 100, 3) := by decide +kernel
theorem dX8_meet_33 : decode cX8_meet 33 = .ok (.iload_n 2, 1) := by decide +kernel
theorem dX8_meet_34 : decode cX8_meet 34 = .ok (.iadd, 1) := by decide +kernel
theorem dX8_meet_35 : decode cX8_meet 35 = .ok (.sipush 999, 3) := by decide +kernel
theorem dX8_meet_38 : decode cX8_meet 38 = .ok (.if_icmp .le 6, 3) := by decide +kernel
theorem dX8_meet_41 : decode cX8_meet 41 = .ok (.bipush (-4), 2) := by decide +kernel
theorem dX8_meet_43 : decode cX8_meet 43 = .ok (.ireturn, 1) := by decide +kernel
theorem dX8_meet_44 : decode cX8_meet 44 = .ok (.aload_n 0, 1) := by decide +kernel
theorem dX8_meet_45 : decode cX8_meet 45 = .ok (.aload_n 0, 1) := by decide +kernel
theorem dX8_meet_46 : decode cX8_meet 46 = .ok (.getfield 10, 3) := by decide +kernel
theorem dX8_meet_49 : decode cX8_meet 49 = .ok (.aload_n 0, 1) := by decide +kernel
theorem dX8_meet_50 : decode cX8_meet 50 = .ok (.iload_n 1, 1) := by decide +kernel
theorem dX8_meet_51 : decode cX8_meet 51 = .ok (.invokevirtual 213, 3) := by decide +kernel
theorem dX8_meet_54 : decode cX8_meet 54 = .ok (.iload_n 2, 1) := by decide +kernel
theorem dX8_meet_55 : decode cX8_meet 55 = .ok (.invokevirtual 217, 3) := by decide +kernel
theorem dX8_meet_58 : decode cX8_meet 58 = .ok (.aload_n 0, 1) := by decide +kernel
theorem dX8_meet_59 : decode cX8_meet 59 = .ok (.getfield 10, 3) := by decide +kernel
theorem dX8_meet_62 : decode cX8_meet 62 = .ok (.invokevirtual 221, 3) := by decide +kernel
theorem dX8_meet_65 : decode cX8_meet 65 = .ok (.ireturn, 1) := by decide +kernel
theorem dX8_run_0 : decode cX8_run 0 = .ok (.aload_n 0, 1) := by decide +kernel
theorem dX8_run_1 : decode cX8_run 1 = .ok (.iload_n 1, 1) := by decide +kernel
theorem dX8_run_2 : decode cX8_run 2 = .ok (.invokevirtual 210, 3) := by decide +kernel
theorem dX8_run_5 : decode cX8_run 5 = .ok (.istore 4, 2) := by decide +kernel
theorem dX8_run_7 : decode cX8_run 7 = .ok (.iload 4, 2) := by decide +kernel
theorem dX8_run_9 : decode cX8_run 9 = .ok (.ifCond .eq 6, 3) := by decide +kernel
theorem dX8_run_12 : decode cX8_run 12 = .ok (.iload 4, 2) := by decide +kernel
theorem dX8_run_14 : decode cX8_run 14 = .ok (.ireturn, 1) := by decide +kernel
theorem dX8_run_15 : decode cX8_run 15 = .ok (.iload_n 3, 1) := by decide +kernel
theorem dX8_run_16 : decode cX8_run 16 = .ok (.bipush 10, 2) := by decide +kernel
theorem dX8_run_18 : decode cX8_run 18 = .ok (.if_icmp .lt 21, 3) := by decide +kernel
theorem dX8_run_21 : decode cX8_run 21 = .ok (.aload_n 0, 1) := by decide +kernel
theorem dX8_run_22 : decode cX8_run 22 = .ok (.getfield 10, 3) := by decide +kernel
theorem dX8_run_25 : decode cX8_run 25 = .ok (.iload_n 3, 1) := by decide +kernel
theorem dX8_run_26 : decode cX8_run 26 = .ok (.bipush 10, 2) := by decide +kernel
theorem dX8_run_28 : decode cX8_run 28 = .ok (.isub, 1) := by decide +kernel
theorem dX8_run_29 : decode cX8_run 29 = .ok (.invokevirtual 115, 3) := by decide +kernel
theorem dX8_run_32 : decode cX8_run 32 = .ok (.ifCond .eq 7, 3) := by decide +kernel
theorem dX8_run_35 : decode cX8_run 35 = .ok (.iconst 1, 1) := by decide +kernel
theorem dX8_run_36 : decode cX8_run 36 = .ok (.goto 4, 3) := by decide +kernel
theorem dX8_run_39 : decode cX8_run 39 = .ok (.iconst 0, 1) := by decide +kernel
theorem dX8_run_40 : decode cX8_run 40 = .ok (.istore 5, 2) := by decide +kernel
theorem dX8_run_42 : decode cX8_run 42 = .ok (.iload_n 2, 1) := by decide +kernel
theorem dX8_run_43 : decode cX8_run 43 = .ok (.ifCond .lt 18, 3) := by decide +kernel
theorem dX8_run_46 : decode cX8_run 46 = .ok (.iload_n 2, 1) := by decide +kernel
theorem dX8_run_47 : decode cX8_run 47 = .ok (.bipush 9, 2) := by decide +kernel
theorem dX8_run_49 : decode cX8_run 49 = .ok (.if_icmp .gt 12, 3) := by decide +kernel
theorem dX8_run_52 : decode cX8_run 52 = .ok (.iload_n 3, 1) := by decide +kernel
theorem dX8_run_53 : decode cX8_run 53 = .ok (.ifCond .eq 11, 3) := by decide +kernel
theorem dX8_run_56 : decode cX8_run 56 = .ok (.iload 5, 2) := by decide +kernel
theorem dX8_run_58 : decode cX8_run 58 = .ok (.ifCond .ne 6, 3) := by decide +kernel
theorem dX8_run_61 : decode cX8_run 61 = .ok (.bipush (-7), 2) := by decide +kernel
theorem dX8_run_63 : decode cX8_run 63 = .ok (.ireturn, 1) := by decide +kernel
theorem dX8_run_64 : decode cX8_run 64 = .ok (.aload_n 0, 1) := by decide +kernel
theorem dX8_run_65 : decode cX8_run 65 = .ok (.getfield 16, 3) := by decide +kernel
theorem dX8_run_68 : decode cX8_run 68 = .ok (.aload_n 0, 1) := by decide +kernel
theorem dX8_run_69 : decode cX8_run 69 = .ok (.getfield 10, 3) := by decide +kernel
theorem dX8_run_72 : decode cX8_run 72 = .ok (.invokevirtual 224, 3) := by decide +kernel
theorem dX8_run_75 : decode cX8_run 75 = .ok (.aload_n 0, 1) := by decide +kernel
theorem dX8_run_76 : decode cX8_run 76 = .ok (.aload_n 0, 1) := by decide +kernel
theorem dX8_run_77 : decode cX8_run 77 = .ok (.getfield 16, 3) := by decide +kernel
theorem dX8_run_80 : decode cX8_run 80 = .ok (.aload_n 0, 1) := by decide +kernel
theorem dX8_run_81 : decode cX8_run 81 = .ok (.iload_n 1, 1) := by decide +kernel
theorem dX8_run_82 : decode cX8_run 82 = .ok (.invokevirtual 213, 3) := by decide +kernel
theorem dX8_run_85 : decode cX8_run 85 = .ok (.iload_n 2, 1) := by decide +kernel
theorem dX8_run_86 : decode cX8_run 86 = .ok (.invokevirtual 217, 3) := by decide +kernel
theorem dX8_run_89 : decode cX8_run 89 = .ok (.iload 5, 2) := by decide +kernel
theorem dX8_run_91 : decode cX8_run 91 = .ok (.ifCond .eq 20, 3) := by decide +kernel
theorem dX8_run_94 : decode cX8_run 94 = .ok (.aload_n 0, 1) := by decide +kernel
theorem dX8_run_95 : decode cX8_run 95 = .ok (.getfield 16, 3) := by decide +kernel
theorem dX8_run_98 : decode cX8_run 98 = .ok (.iload_n 3, 1) := by decide +kernel
theorem dX8_run_99 : decode cX8_run 99 = .ok (.bipush 10, 2) := by decide +kernel
theorem dX8_run_101 : decode cX8_run 101 = .ok (.isub, 1) := by decide +kernel
theorem dX8_run_102 : decode cX8_run 102 = .ok (.invokevirtual 122, 3) := by decide +kernel
theorem dX8_run_105 : decode cX8_run 105 = .ok (.getfield 227, 3) := by decide +kernel
theorem dX8_run_108 : decode cX8_run 108 = .ok (.goto 10, 3) := by decide +kernel
theorem dX8_run_111 : decode cX8_run 111 = .ok (.aload_n 0, 1) := by decide +kernel
theorem dX8_run_112 : decode cX8_run 112 = .ok (.getfield 16, 3) := by decide +kernel
theorem dX8_run_115 : decode cX8_run 115 = .ok (.invokevirtual 221, 3) := by decide +kernel
theorem dX8_run_118 : decode cX8_run 118 = .ok (.ireturn, 1) := by decide +kernel
theorem dX8_judge_0 : decode cX8_judge 0 = .ok (.aload_n 0, 1) := by decide +kernel
theorem dX8_judge_1 : decode cX8_judge 1 = .ok (.iload_n 1, 1) := by decide +kernel
theorem dX8_judge_2 : decode cX8_judge 2 = .ok (.iload_n 2, 1) := by decide +kernel
theorem dX8_judge_3 : decode cX8_judge 3 = .ok (.iload_n 3, 1) := by decide +kernel
theorem dX8_judge_4 : decode cX8_judge 4 = .ok (.iload 4, 2) := by decide +kernel
theorem dX8_judge_6 : decode cX8_judge 6 = .ok (.invokevirtual 230, 3) := by decide +kernel
theorem dX8_judge_9 : decode cX8_judge 9 = .ok (.istore 5, 2) := by decide +kernel
theorem dX8_judge_11 : decode cX8_judge 11 = .ok (.iload 5, 2) := by decide +kernel
theorem dX8_judge_13 : decode cX8_judge 13 = .ok (.ifCond .eq 6, 3) := by decide +kernel
theorem dX8_judge_16 : decode cX8_judge 16 = .ok (.iload 5, 2) := by decide +kernel
theorem dX8_judge_18 : decode cX8_judge 18 = .ok (.ireturn, 1) := by decide +kernel
theorem dX8_judge_19 : decode cX8_judge 19 = .ok (.aload_n 0, 1) := by decide +kernel
theorem dX8_judge_20 : decode cX8_judge 20 = .ok (.getfield 60, 3) := by decide +kernel
theorem dX8_judge_23 : decode cX8_judge 23 = .ok (.aload_n 0, 1) := by decide +kernel
theorem dX8_judge_24 : decode cX8_judge 24 = .ok (.iload_n 2, 1) := by decide +kernel
theorem dX8_judge_25 : decode cX8_judge 25 = .ok (.invokevirtual 149, 3) := by decide +kernel
theorem dX8_judge_28 : decode cX8_judge 28 = .ok (.aload_n 0, 1) := by decide +kernel
theorem dX8_judge_29 : decode cX8_judge 29 = .ok (.iload_n 2, 1) := by decide +kernel
theorem dX8_judge_30 : decode cX8_judge 30 = .ok (.invokevirtual 152, 3) := by decide +kernel
theorem dX8_judge_33 : decode cX8_judge 33 = .ok (.aload_n 0, 1) := by decide +kernel
theorem dX8_judge_34 : decode cX8_judge 34 = .ok (.invokevirtual 118, 3) := by decide +kernel
theorem dX8_judge_37 : decode cX8_judge 37 = .ok (.invokevirtual 155, 3) := by decide +kernel
theorem dX8_judge_40 : decode cX8_judge 40 = .ok (.aload_n 0, 1) := by decide +kernel
theorem dX8_judge_41 : decode cX8_judge 41 = .ok (.getfield 60, 3) := by decide +kernel
theorem dX8_judge_44 : decode cX8_judge 44 = .ok (.iload_n 3, 1) := by decide +kernel
theorem dX8_judge_45 : decode cX8_judge 45 = .ok (.iload 4, 2) := by decide +kernel
theorem dX8_judge_47 : decode cX8_judge 47 = .ok (.invokevirtual 159, 3) := by decide +kernel
theorem dX8_judge_50 : decode cX8_judge 50 = .ok (.aload_n 0, 1) := by decide +kernel
theorem dX8_judge_51 : decode cX8_judge 51 = .ok (.getfield 60, 3) := by decide +kernel
theorem dX8_judge_54 : decode cX8_judge 54 = .ok (.aload_n 0, 1) := by decide +kernel
theorem dX8_judge_55 : decode cX8_judge 55 = .ok (.iload_n 1, 1) := by decide +kernel
theorem dX8_judge_56 : decode cX8_judge 56 = .ok (.invokevirtual 213, 3) := by decide +kernel
theorem dX8_judge_59 : decode cX8_judge 59 = .ok (.invokevirtual 234, 3) := by decide +kernel
theorem dX8_judge_62 : decode cX8_judge 62 = .ok (.ireturn, 1) := by decide +kernel
theorem dX8_kinds_0 : decode cX8_kinds 0 = .ok (.aload_n 0, 1) := by decide +kernel
theorem dX8_kinds_1 : decode cX8_kinds 1 = .ok (.iload_n 1, 1) := by decide +kernel
theorem dX8_kinds_2 : decode cX8_kinds 2 = .ok (.iload_n 2, 1) := by decide +kernel
theorem dX8_kinds_3 : decode cX8_kinds 3 = .ok (.iload_n 3, 1) := by decide +kernel
theorem dX8_kinds_4 : decode cX8_kinds 4 = .ok (.iload 4, 2) := by decide +kernel
theorem dX8_kinds_6 : decode cX8_kinds 6 = .ok (.invokevirtual 230, 3) := by decide +kernel
theorem dX8_kinds_9 : decode cX8_kinds 9 = .ok (.istore 6, 2) := by decide +kernel
theorem dX8_kinds_11 : decode cX8_kinds 11 = .ok (.iload 6, 2) := by decide +kernel
theorem dX8_kinds_13 : decode cX8_kinds 13 = .ok (.ifCond .eq 6, 3) := by decide +kernel
theorem dX8_kinds_16 : decode cX8_kinds 16 = .ok (.iload 6, 2) := by decide +kernel
theorem dX8_kinds_18 : decode cX8_kinds 18 = .ok (.ireturn, 1) := by decide +kernel
theorem dX8_kinds_19 : decode cX8_kinds 19 = .ok (.iload 5, 2) := by decide +kernel
theorem dX8_kinds_21 : decode cX8_kinds 21 = .ok (.ifCond .lt 9, 3) := by decide +kernel
theorem dX8_kinds_24 : decode cX8_kinds 24 = .ok (.iload 5, 2) := by decide +kernel
theorem dX8_kinds_26 : decode cX8_kinds 26 = .ok (.iconst 2, 1) := by decide +kernel
theorem dX8_kinds_27 : decode cX8_kinds 27 = .ok (.if_icmp .le 6, 3) := by decide +kernel
theorem dX8_kinds_30 : decode cX8_kinds 30 = .ok (.bipush (-7), 2) := by decide +kernel
theorem dX8_kinds_32 : decode cX8_kinds 32 = .ok (.ireturn, 1) := by decide +kernel
theorem dX8_kinds_33 : decode cX8_kinds 33 = .ok (.iload 5, 2) := by decide +kernel
theorem dX8_kinds_35 : decode cX8_kinds 35 = .ok (.ifCond .ne 7, 3) := by decide +kernel
theorem dX8_kinds_38 : decode cX8_kinds 38 = .ok (.iconst 5, 1) := by decide +kernel
theorem dX8_kinds_39 : decode cX8_kinds 39 = .ok (.goto 15, 3) := by decide +kernel
theorem dX8_kinds_42 : decode cX8_kinds 42 = .ok (.iload 5, 2) := by decide +kernel
theorem dX8_kinds_44 : decode cX8_kinds 44 = .ok (.iconst 1, 1) := by decide +kernel
theorem dX8_kinds_45 : decode cX8_kinds 45 = .ok (.if_icmp .ne 8, 3) := by decide +kernel
theorem dX8_kinds_48 : decode cX8_kinds 48 = .ok (.bipush 6, 2) := by decide +kernel
theorem dX8_kinds_50 : decode cX8_kinds 50 = .ok (.goto 4, 3) := by decide +kernel
theorem dX8_kinds_53 : decode cX8_kinds 53 = .ok (.iconst 2, 1) := by decide +kernel
theorem dX8_kinds_54 : decode cX8_kinds 54 = .ok (.istore 7, 2) := by decide +kernel
theorem dX8_kinds_56 : decode cX8_kinds 56 = .ok (.iconst 0, 1) := by decide +kernel
theorem dX8_kinds_57 : decode cX8_kinds 57 = .ok (.istore 8, 2) := by decide +kernel
theorem dX8_kinds_59 : decode cX8_kinds 59 = .ok (.iconst 0, 1) := by decide +kernel
theorem dX8_kinds_60 : decode cX8_kinds 60 = .ok (.istore 9, 2) := by decide +kernel
theorem dX8_kinds_62 : decode cX8_kinds 62 = .ok (.iload 9, 2) := by decide +kernel
theorem dX8_kinds_64 : decode cX8_kinds 64 = .ok (.iload 7, 2) := by decide +kernel
theorem dX8_kinds_66 : decode cX8_kinds 66 = .ok (.iconst 5, 1) := by decide +kernel
theorem dX8_kinds_67 : decode cX8_kinds 67 = .ok (.if_icmp .ne 8, 3) := by decide +kernel
theorem dX8_kinds_70 : decode cX8_kinds 70 = .ok (.bipush 6, 2) := by decide +kernel
theorem dX8_kinds_72 : decode cX8_kinds 72 = .ok (.goto 5, 3) := by decide +kernel
theorem dX8_kinds_75 : decode cX8_kinds 75 = .ok (.bipush 10, 2) := by decide +kernel
theorem dX8_kinds_77 : decode cX8_kinds 77 = .ok (.if_icmp .ge 38, 3) := by decide +kernel
theorem dX8_kinds_80 : decode cX8_kinds 80 = .ok (.iload 8, 2) := by decide +kernel
theorem dX8_kinds_82 : decode cX8_kinds 82 = .ok (.aload_n 0, 1) := by decide +kernel
theorem dX8_kinds_83 : decode cX8_kinds 83 = .ok (.iload_n 1, 1) := by decide +kernel
theorem dX8_kinds_84 : decode cX8_kinds 84 = .ok (.iload_n 2, 1) := by decide +kernel
theorem dX8_kinds_85 : decode cX8_kinds 85 = .ok (.iload_n 3, 1) := by decide +kernel
theorem dX8_kinds_86 : decode cX8_kinds 86 = .ok (.iload 4, 2) := by decide +kernel
theorem dX8_kinds_88 : decode cX8_kinds 88 = .ok (.iload 7, 2) := by decide +kernel
theorem dX8_kinds_90 : decode cX8_kinds 90 = .ok (.iload 9, 2) := by decide +kernel
theorem dX8_kinds_92 : decode cX8_kinds 92 = .ok (.invokevirtual 238, 3) := by decide +kernel
theorem dX8_kinds_95 : decode cX8_kinds 95 = .ok (.ifCond .eq 10, 3) := by decide +kernel
theorem dX8_kinds_98 : decode cX8_kinds 98 = .ok (.iconst 1, 1) := by decide +kernel
theorem dX8_kinds_99 : decode cX8_kinds 99 = .ok (.iload 9, 2) := by decide +kernel
theorem dX8_kinds_101 : decode cX8_kinds 101 = .ok (.ishl, 1) := by decide +kernel
theorem dX8_kinds_102 : decode cX8_kinds 102 = .ok (.goto 4, 3) := by decide +kernel
theorem dX8_kinds_105 : decode cX8_kinds 105 = .ok (.iconst 0, 1) := by decide +kernel
theorem dX8_kinds_106 : decode cX8_kinds 106 = .ok (.ior, 1) := by decide +kernel
theorem dX8_kinds_107 : decode cX8_kinds 107 = .ok (.istore 8, 2) := by decide +kernel
theorem dX8_kinds_109 : decode cX8_kinds 109 = .ok (.iinc 9 1, 3) := by decide +kernel
theorem dX8_kinds_112 : decode cX8_kinds 112 = .ok (.goto (-50), 3) := by decide +kernel
theorem dX8_kinds_115 : decode cX8_kinds 115 = .ok (.iload 8, 2) := by decide +kernel
theorem dX8_kinds_117 : decode cX8_kinds 117 = .ok (.ireturn, 1) := by decide +kernel
theorem dX8_acts_0 : decode cX8_acts 0 = .ok (.aload_n 0, 1) := by decide +kernel
theorem dX8_acts_1 : decode cX8_acts 1 = .ok (.iload_n 1, 1) := by decide +kernel
theorem dX8_acts_2 : decode cX8_acts 2 = .ok (.iload_n 2, 1) := by decide +kernel
theorem dX8_acts_3 : decode cX8_acts 3 = .ok (.iload_n 3, 1) := by decide +kernel
theorem dX8_acts_4 : decode cX8_acts 4 = .ok (.iload 4, 2) := by decide +kernel
theorem dX8_acts_6 : decode cX8_acts 6 = .ok (.invokevirtual 230, 3) := by decide +kernel
theorem dX8_acts_9 : decode cX8_acts 9 = .ok (.istore 6, 2) := by decide +kernel
theorem dX8_acts_11 : decode cX8_acts 11 = .ok (.iload 6, 2) := by decide +kernel
theorem dX8_acts_13 : decode cX8_acts 13 = .ok (.ifCond .eq 6, 3) := by decide +kernel
theorem dX8_acts_16 : decode cX8_acts 16 = .ok (.iload 6, 2) := by decide +kernel
theorem dX8_acts_18 : decode cX8_acts 18 = .ok (.ireturn, 1) := by decide +kernel
theorem dX8_acts_19 : decode cX8_acts 19 = .ok (.iload 5, 2) := by decide +kernel
theorem dX8_acts_21 : decode cX8_acts 21 = .ok (.ifCond .lt 10, 3) := by decide +kernel
theorem dX8_acts_24 : decode cX8_acts 24 = .ok (.iload 5, 2) := by decide +kernel
theorem dX8_acts_26 : decode cX8_acts 26 = .ok (.bipush 9, 2) := by decide +kernel
theorem dX8_acts_28 : decode cX8_acts 28 = .ok (.if_icmp .lt 6, 3) := by decide +kernel
theorem dX8_acts_31 : decode cX8_acts 31 = .ok (.bipush (-7), 2) := by decide +kernel
theorem dX8_acts_33 : decode cX8_acts 33 = .ok (.ireturn, 1) := by decide +kernel
theorem dX8_acts_34 : decode cX8_acts 34 = .ok (.aload_n 0, 1) := by decide +kernel
theorem dX8_acts_35 : decode cX8_acts 35 = .ok (.getfield 60, 3) := by decide +kernel
theorem dX8_acts_38 : decode cX8_acts 38 = .ok (.aload_n 0, 1) := by decide +kernel
theorem dX8_acts_39 : decode cX8_acts 39 = .ok (.iload_n 2, 1) := by decide +kernel
theorem dX8_acts_40 : decode cX8_acts 40 = .ok (.invokevirtual 149, 3) := by decide +kernel
theorem dX8_acts_43 : decode cX8_acts 43 = .ok (.aload_n 0, 1) := by decide +kernel
theorem dX8_acts_44 : decode cX8_acts 44 = .ok (.iload_n 2, 1) := by decide +kernel
theorem dX8_acts_45 : decode cX8_acts 45 = .ok (.invokevirtual 152, 3) := by decide +kernel
theorem dX8_acts_48 : decode cX8_acts 48 = .ok (.aload_n 0, 1) := by decide +kernel
theorem dX8_acts_49 : decode cX8_acts 49 = .ok (.invokevirtual 118, 3) := by decide +kernel
theorem dX8_acts_52 : decode cX8_acts 52 = .ok (.invokevirtual 155, 3) := by decide +kernel
theorem dX8_acts_55 : decode cX8_acts 55 = .ok (.iload_n 3, 1) := by decide +kernel
theorem dX8_acts_56 : decode cX8_acts 56 = .ok (.iconst 3, 1) := by decide +kernel
theorem dX8_acts_57 : decode cX8_acts 57 = .ok (.iconst 2, 1) := by decide +kernel
theorem dX8_acts_58 : decode cX8_acts 58 = .ok (.iload 5, 2) := by decide +kernel
theorem dX8_acts_60 : decode cX8_acts 60 = .ok (.imul, 1) := by decide +kernel
theorem dX8_acts_61 : decode cX8_acts 61 = .ok (.ishl, 1) := by decide +kernel
theorem dX8_acts_62 : decode cX8_acts 62 = .ok (.iconst (-1), 1) := by decide +kernel
theorem dX8_acts_63 : decode cX8_acts 63 = .ok (.ixor, 1) := by decide +kernel
theorem dX8_acts_64 : decode cX8_acts 64 = .ok (.iand, 1) := by decide +kernel
theorem dX8_acts_65 : decode cX8_acts 65 = .ok (.istore 7, 2) := by decide +kernel
theorem dX8_acts_67 : decode cX8_acts 67 = .ok (.iconst 0, 1) := by decide +kernel
theorem dX8_acts_68 : decode cX8_acts 68 = .ok (.istore 8, 2) := by decide +kernel
theorem dX8_acts_70 : decode cX8_acts 70 = .ok (.iconst 0, 1) := by decide +kernel
theorem dX8_acts_71 : decode cX8_acts 71 = .ok (.istore 9, 2) := by decide +kernel
theorem dX8_acts_73 : decode cX8_acts 73 = .ok (.iload 9, 2) := by decide +kernel
theorem dX8_acts_75 : decode cX8_acts 75 = .ok (.iconst 4, 1) := by decide +kernel
theorem dX8_acts_76 : decode cX8_acts 76 = .ok (.if_icmp .ge 56, 3) := by decide +kernel
theorem dX8_acts_79 : decode cX8_acts 79 = .ok (.aload_n 0, 1) := by decide +kernel
theorem dX8_acts_80 : decode cX8_acts 80 = .ok (.getfield 60, 3) := by decide +kernel
theorem dX8_acts_83 : decode cX8_acts 83 = .ok (.iload 7, 2) := by decide +kernel
theorem dX8_acts_85 : decode cX8_acts 85 = .ok (.iload 9, 2) := by decide +kernel
theorem dX8_acts_87 : decode cX8_acts 87 = .ok (.iconst 2, 1) := by decide +kernel
theorem dX8_acts_88 : decode cX8_acts 88 = .ok (.iload 5, 2) := by decide +kernel
theorem dX8_acts_90 : decode cX8_acts 90 = .ok (.imul, 1) := by decide +kernel
theorem dX8_acts_91 : decode cX8_acts 91 = .ok (.ishl, 1) := by decide +kernel
theorem dX8_acts_92 : decode cX8_acts 92 = .ok (.ior, 1) := by decide +kernel
theorem dX8_acts_93 : decode cX8_acts 93 = .ok (.iload 4, 2) := by decide +kernel
theorem dX8_acts_95 : decode cX8_acts 95 = .ok (.invokevirtual 159, 3) := by decide +kernel
theorem dX8_acts_98 : decode cX8_acts 98 = .ok (.iload 8, 2) := by decide +kernel
theorem dX8_acts_100 : decode cX8_acts 100 = .ok (.aload_n 0, 1) := by decide +kernel
theorem dX8_acts_101 : decode cX8_acts 101 = .ok (.getfield 60, 3) := by decide +kernel
theorem dX8_acts_104 : decode cX8_acts 104 = .ok (.aload_n 0, 1) := by decide +kernel
theorem dX8_acts_105 : decode cX8_acts 105 = .ok (.iload_n 1, 1) := by decide +kernel
theorem dX8_acts_106 : decode cX8_acts 106 = .ok (.invokevirtual 213, 3) := by decide +kernel
theorem dX8_acts_109 : decode cX8_acts 109 = .ok (.invokevirtual 234, 3) := by decide +kernel
theorem dX8_acts_112 : decode cX8_acts 112 = .ok (.ifCond .ge 10, 3) := by decide +kernel
theorem dX8_acts_115 : decode cX8_acts 115 = .ok (.iconst 1, 1) := by decide +kernel
theorem dX8_acts_116 : decode cX8_acts 116 = .ok (.iload 9, 2) := by decide +kernel
theorem dX8_acts_118 : decode cX8_acts 118 = .ok (.ishl, 1) := by decide +kernel
theorem dX8_acts_119 : decode cX8_acts 119 = .ok (.goto 4, 3) := by decide +kernel
theorem dX8_acts_122 : decode cX8_acts 122 = .ok (.iconst 0, 1) := by decide +kernel
theorem dX8_acts_123 : decode cX8_acts 123 = .ok (.ior, 1) := by decide +kernel
theorem dX8_acts_124 : decode cX8_acts 124 = .ok (.istore 8, 2) := by decide +kernel
theorem dX8_acts_126 : decode cX8_acts 126 = .ok (.iinc 9 1, 3) := by decide +kernel
theorem dX8_acts_129 : decode cX8_acts 129 = .ok (.goto (-56), 3) := by decide +kernel
theorem dX8_acts_132 : decode cX8_acts 132 = .ok (.iload 8, 2) := by decide +kernel
theorem dX8_acts_134 : decode cX8_acts 134 = .ok (.ireturn, 1) := by decide +kernel
theorem dX8_heavy_0 : decode cX8_heavy 0 = .ok (.aload_n 0, 1) := by decide +kernel
theorem dX8_heavy_1 : decode cX8_heavy 1 = .ok (.iload_n 1, 1) := by decide +kernel
theorem dX8_heavy_2 : decode cX8_heavy 2 = .ok (.iload_n 2, 1) := by decide +kernel
theorem dX8_heavy_3 : decode cX8_heavy 3 = .ok (.iload_n 3, 1) := by decide +kernel
theorem dX8_heavy_4 : decode cX8_heavy 4 = .ok (.iload 4, 2) := by decide +kernel
theorem dX8_heavy_6 : decode cX8_heavy 6 = .ok (.invokevirtual 230, 3) := by decide +kernel
theorem dX8_heavy_9 : decode cX8_heavy 9 = .ok (.istore 6, 2) := by decide +kernel
theorem dX8_heavy_11 : decode cX8_heavy 11 = .ok (.iload 6, 2) := by decide +kernel
theorem dX8_heavy_13 : decode cX8_heavy 13 = .ok (.ifCond .eq 6, 3) := by decide +kernel
theorem dX8_heavy_16 : decode cX8_heavy 16 = .ok (.iload 6, 2) := by decide +kernel
theorem dX8_heavy_18 : decode cX8_heavy 18 = .ok (.ireturn, 1) := by decide +kernel
theorem dX8_heavy_19 : decode cX8_heavy 19 = .ok (.iload 5, 2) := by decide +kernel
theorem dX8_heavy_21 : decode cX8_heavy 21 = .ok (.ifCond .eq 26, 3) := by decide +kernel
theorem dX8_heavy_24 : decode cX8_heavy 24 = .ok (.iload 5, 2) := by decide +kernel
theorem dX8_heavy_26 : decode cX8_heavy 26 = .ok (.iconst 1, 1) := by decide +kernel
theorem dX8_heavy_27 : decode cX8_heavy 27 = .ok (.if_icmp .eq 20, 3) := by decide +kernel
theorem dX8_heavy_30 : decode cX8_heavy 30 = .ok (.iload 5, 2) := by decide +kernel
theorem dX8_heavy_32 : decode cX8_heavy 32 = .ok (.bipush 10, 2) := by decide +kernel
theorem dX8_heavy_34 : decode cX8_heavy 34 = .ok (.if_icmp .eq 13, 3) := by decide +kernel
theorem dX8_heavy_37 : decode cX8_heavy 37 = .ok (.iload 5, 2) := by decide +kernel
theorem dX8_heavy_39 : decode cX8_heavy 39 = .ok (.bipush 11, 2) := by decide +kernel
theorem dX8_heavy_41 : decode cX8_heavy 41 = .ok (.if_icmp .eq 6, 3) := by decide +kernel
theorem dX8_heavy_44 : decode cX8_heavy 44 = .ok (.bipush (-7), 2) := by decide +kernel
theorem dX8_heavy_46 : decode cX8_heavy 46 = .ok (.ireturn, 1) := by decide +kernel
theorem dX8_heavy_47 : decode cX8_heavy 47 = .ok (.iload 5, 2) := by decide +kernel
theorem dX8_heavy_49 : decode cX8_heavy 49 = .ok (.bipush 10, 2) := by decide +kernel
theorem dX8_heavy_51 : decode cX8_heavy 51 = .ok (.if_icmp .ge 7, 3) := by decide +kernel
theorem dX8_heavy_54 : decode cX8_heavy 54 = .ok (.iconst 0, 1) := by decide +kernel
theorem dX8_heavy_55 : decode cX8_heavy 55 = .ok (.goto 4, 3) := by decide +kernel
theorem dX8_heavy_58 : decode cX8_heavy 58 = .ok (.iconst 1, 1) := by decide +kernel
theorem dX8_heavy_59 : decode cX8_heavy 59 = .ok (.istore 7, 2) := by decide +kernel
theorem dX8_heavy_61 : decode cX8_heavy 61 = .ok (.iconst (-1), 1) := by decide +kernel
theorem dX8_heavy_62 : decode cX8_heavy 62 = .ok (.istore 8, 2) := by decide +kernel
theorem dX8_heavy_64 : decode cX8_heavy 64 = .ok (.iconst 0, 1) := by decide +kernel
theorem dX8_heavy_65 : decode cX8_heavy 65 = .ok (.istore 9, 2) := by decide +kernel
theorem dX8_heavy_67 : decode cX8_heavy 67 = .ok (.iconst 0, 1) := by decide +kernel
theorem dX8_heavy_68 : decode cX8_heavy 68 = .ok (.istore 10, 2) := by decide +kernel
theorem dX8_heavy_70 : decode cX8_heavy 70 = .ok (.iload 10, 2) := by decide +kernel
theorem dX8_heavy_72 : decode cX8_heavy 72 = .ok (.bipush 99, 2) := by decide +kernel
theorem dX8_heavy_74 : decode cX8_heavy 74 = .ok (.if_icmp .gt 42, 3) := by decide +kernel
theorem dX8_heavy_77 : decode cX8_heavy 77 = .ok (.aload_n 0, 1) := by decide +kernel
theorem dX8_heavy_78 : decode cX8_heavy 78 = .ok (.iload_n 1, 1) := by decide +kernel
theorem dX8_heavy_79 : decode cX8_heavy 79 = .ok (.iload_n 2, 1) := by decide +kernel
theorem dX8_heavy_80 : decode cX8_heavy 80 = .ok (.iload_n 3, 1) := by decide +kernel
theorem dX8_heavy_81 : decode cX8_heavy 81 = .ok (.iload 4, 2) := by decide +kernel
theorem dX8_heavy_83 : decode cX8_heavy 83 = .ok (.iload 7, 2) := by decide +kernel
theorem dX8_heavy_85 : decode cX8_heavy 85 = .ok (.iload 10, 2) := by decide +kernel
theorem dX8_heavy_87 : decode cX8_heavy 87 = .ok (.invokevirtual 238, 3) := by decide +kernel
theorem dX8_heavy_90 : decode cX8_heavy 90 = .ok (.ifCond .eq 20, 3) := by decide +kernel
theorem dX8_heavy_93 : decode cX8_heavy 93 = .ok (.iload 9, 2) := by decide +kernel
theorem dX8_heavy_95 : decode cX8_heavy 95 = .ok (.ifCond .ne 8, 3) := by decide +kernel
theorem dX8_heavy_98 : decode cX8_heavy 98 = .ok (.iload 10, 2) := by decide +kernel
theorem dX8_heavy_100 : decode cX8_heavy 100 = .ok (.goto 5, 3) := by decide +kernel
theorem dX8_heavy_103 : decode cX8_heavy 103 = .ok (.iload 8, 2) := by decide +kernel
theorem dX8_heavy_105 : decode cX8_heavy 105 = .ok (.istore 8, 2) := by decide +kernel
theorem dX8_heavy_107 : decode cX8_heavy 107 = .ok (.iinc 9 1, 3) := by decide +kernel
theorem dX8_heavy_110 : decode cX8_heavy 110 = .ok (.iinc 10 1, 3) := by decide +kernel
theorem dX8_heavy_113 : decode cX8_heavy 113 = .ok (.goto (-43), 3) := by decide +kernel
theorem dX8_heavy_116 : decode cX8_heavy 116 = .ok (.iload 5, 2) := by decide +kernel
theorem dX8_heavy_118 : decode cX8_heavy 118 = .ok (.bipush 10, 2) := by decide +kernel
theorem dX8_heavy_120 : decode cX8_heavy 120 = .ok (.irem, 1) := by decide +kernel
theorem dX8_heavy_121 : decode cX8_heavy 121 = .ok (.ifCond .ne 8, 3) := by decide +kernel
theorem dX8_heavy_124 : decode cX8_heavy 124 = .ok (.iload 9, 2) := by decide +kernel
theorem dX8_heavy_126 : decode cX8_heavy 126 = .ok (.goto 5, 3) := by decide +kernel
theorem dX8_heavy_129 : decode cX8_heavy 129 = .ok (.iload 8, 2) := by decide +kernel
theorem dX8_heavy_131 : decode cX8_heavy 131 = .ok (.ireturn, 1) := by decide +kernel
theorem dX8_laws_0 : decode cX8_laws 0 = .ok (.aload_n 0, 1) := by decide +kernel
theorem dX8_laws_1 : decode cX8_laws 1 = .ok (.iload_n 1, 1) := by decide +kernel
theorem dX8_laws_2 : decode cX8_laws 2 = .ok (.iload_n 2, 1) := by decide +kernel
theorem dX8_laws_3 : decode cX8_laws 3 = .ok (.iload_n 3, 1) := by decide +kernel
theorem dX8_laws_4 : decode cX8_laws 4 = .ok (.iload 4, 2) := by decide +kernel
theorem dX8_laws_6 : decode cX8_laws 6 = .ok (.invokevirtual 230, 3) := by decide +kernel
theorem dX8_laws_9 : decode cX8_laws 9 = .ok (.istore 5, 2) := by decide +kernel
theorem dX8_laws_11 : decode cX8_laws 11 = .ok (.iload 5, 2) := by decide +kernel
theorem dX8_laws_13 : decode cX8_laws 13 = .ok (.ifCond .eq 6, 3) := by decide +kernel
theorem dX8_laws_16 : decode cX8_laws 16 = .ok (.iload 5, 2) := by decide +kernel
theorem dX8_laws_18 : decode cX8_laws 18 = .ok (.ireturn, 1) := by decide +kernel
theorem dX8_laws_19 : decode cX8_laws 19 = .ok (.iconst 0, 1) := by decide +kernel
theorem dX8_laws_20 : decode cX8_laws 20 = .ok (.istore 6, 2) := by decide +kernel
theorem dX8_laws_22 : decode cX8_laws 22 = .ok (.iconst 0, 1) := by decide +kernel
theorem dX8_laws_23 : decode cX8_laws 23 = .ok (.istore 7, 2) := by decide +kernel
theorem dX8_laws_25 : decode cX8_laws 25 = .ok (.iload 7, 2) := by decide +kernel
theorem dX8_laws_27 : decode cX8_laws 27 = .ok (.aload_n 0, 1) := by decide +kernel
theorem dX8_laws_28 : decode cX8_laws 28 = .ok (.getfield 64, 3) := by decide +kernel
theorem dX8_laws_31 : decode cX8_laws 31 = .ok (.if_icmp .ge 70, 3) := by decide +kernel
theorem dX8_laws_34 : decode cX8_laws 34 = .ok (.aload_n 0, 1) := by decide +kernel
theorem dX8_laws_35 : decode cX8_laws 35 = .ok (.getfield 60, 3) := by decide +kernel
theorem dX8_laws_38 : decode cX8_laws 38 = .ok (.aload_n 0, 1) := by decide +kernel
theorem dX8_laws_39 : decode cX8_laws 39 = .ok (.iload_n 2, 1) := by decide +kernel
theorem dX8_laws_40 : decode cX8_laws 40 = .ok (.invokevirtual 149, 3) := by decide +kernel
theorem dX8_laws_43 : decode cX8_laws 43 = .ok (.aload_n 0, 1) := by decide +kernel
theorem dX8_laws_44 : decode cX8_laws 44 = .ok (.iload_n 2, 1) := by decide +kernel
theorem dX8_laws_45 : decode cX8_laws 45 = .ok (.invokevirtual 152, 3) := by decide +kernel
theorem dX8_laws_48 : decode cX8_laws 48 = .ok (.aload_n 0, 1) := by decide +kernel
theorem dX8_laws_49 : decode cX8_laws 49 = .ok (.iload 7, 2) := by decide +kernel
theorem dX8_laws_51 : decode cX8_laws 51 = .ok (.invokevirtual 111, 3) := by decide +kernel
theorem dX8_laws_54 : decode cX8_laws 54 = .ok (.invokevirtual 155, 3) := by decide +kernel
theorem dX8_laws_57 : decode cX8_laws 57 = .ok (.aload_n 0, 1) := by decide +kernel
theorem dX8_laws_58 : decode cX8_laws 58 = .ok (.getfield 60, 3) := by decide +kernel
theorem dX8_laws_61 : decode cX8_laws 61 = .ok (.iload_n 3, 1) := by decide +kernel
theorem dX8_laws_62 : decode cX8_laws 62 = .ok (.iload 4, 2) := by decide +kernel
theorem dX8_laws_64 : decode cX8_laws 64 = .ok (.invokevirtual 159, 3) := by decide +kernel
theorem dX8_laws_67 : decode cX8_laws 67 = .ok (.iload 6, 2) := by decide +kernel
theorem dX8_laws_69 : decode cX8_laws 69 = .ok (.aload_n 0, 1) := by decide +kernel
theorem dX8_laws_70 : decode cX8_laws 70 = .ok (.getfield 60, 3) := by decide +kernel
theorem dX8_laws_73 : decode cX8_laws 73 = .ok (.aload_n 0, 1) := by decide +kernel
theorem dX8_laws_74 : decode cX8_laws 74 = .ok (.iload_n 1, 1) := by decide +kernel
theorem dX8_laws_75 : decode cX8_laws 75 = .ok (.invokevirtual 213, 3) := by decide +kernel
theorem dX8_laws_78 : decode cX8_laws 78 = .ok (.invokevirtual 234, 3) := by decide +kernel
theorem dX8_laws_81 : decode cX8_laws 81 = .ok (.ifCond .ge 10, 3) := by decide +kernel
theorem dX8_laws_84 : decode cX8_laws 84 = .ok (.iconst 1, 1) := by decide +kernel
theorem dX8_laws_85 : decode cX8_laws 85 = .ok (.iload 7, 2) := by decide +kernel
theorem dX8_laws_87 : decode cX8_laws 87 = .ok (.ishl, 1) := by decide +kernel
theorem dX8_laws_88 : decode cX8_laws 88 = .ok (.goto 4, 3) := by decide +kernel
theorem dX8_laws_91 : decode cX8_laws 91 = .ok (.iconst 0, 1) := by decide +kernel
theorem dX8_laws_92 : decode cX8_laws 92 = .ok (.ior, 1) := by decide +kernel
theorem dX8_laws_93 : decode cX8_laws 93 = .ok (.istore 6, 2) := by decide +kernel
theorem dX8_laws_95 : decode cX8_laws 95 = .ok (.iinc 7 1, 3) := by decide +kernel
theorem dX8_laws_98 : decode cX8_laws 98 = .ok (.goto (-73), 3) := by decide +kernel
theorem dX8_laws_101 : decode cX8_laws 101 = .ok (.iload 6, 2) := by decide +kernel
theorem dX8_laws_103 : decode cX8_laws 103 = .ok (.ireturn, 1) := by decide +kernel
theorem dX8_whose_0 : decode cX8_whose 0 = .ok (.aload_n 0, 1) := by decide +kernel
theorem dX8_whose_1 : decode cX8_whose 1 = .ok (.iload_n 1, 1) := by decide +kernel
theorem dX8_whose_2 : decode cX8_whose 2 = .ok (.invokevirtual 242, 3) := by decide +kernel
theorem dX8_whose_5 : decode cX8_whose 5 = .ok (.istore 5, 2) := by decide +kernel
theorem dX8_whose_7 : decode cX8_whose 7 = .ok (.iload 5, 2) := by decide +kernel
theorem dX8_whose_9 : decode cX8_whose 9 = .ok (.ifCond .eq 6, 3) := by decide +kernel
theorem dX8_whose_12 : decode cX8_whose 12 = .ok (.iload 5, 2) := by decide +kernel
theorem dX8_whose_14 : decode cX8_whose 14 = .ok (.ireturn, 1) := by decide +kernel
theorem dX8_whose_15 : decode cX8_whose 15 = .ok (.aload_n 0, 1) := by decide +kernel
theorem dX8_whose_16 : decode cX8_whose 16 = .ok (.getfield 10, 3) := by decide +kernel
theorem dX8_whose_19 : decode cX8_whose 19 = .ok (.iload_n 2, 1) := by decide +kernel
theorem dX8_whose_20 : decode cX8_whose 20 = .ok (.invokevirtual 115, 3) := by decide +kernel
theorem dX8_whose_23 : decode cX8_whose 23 = .ok (.ifCond .ne 6, 3) := by decide +kernel
theorem dX8_whose_26 : decode cX8_whose 26 = .ok (.bipush (-5), 2) := by decide +kernel
theorem dX8_whose_28 : decode cX8_whose 28 = .ok (.ireturn, 1) := by decide +kernel
theorem dX8_whose_29 : decode cX8_whose 29 = .ok (.iload_n 3, 1) := by decide +kernel
theorem dX8_whose_30 : decode cX8_whose 30 = .ok (.iload 4, 2) := by decide +kernel
theorem dX8_whose_32 : decode cX8_whose 32 = .ok (.invokestatic 145, 3) := by decide +kernel
theorem dX8_whose_35 : decode cX8_whose 35 = .ok (.ifCond .ne 6, 3) := by decide +kernel
theorem dX8_whose_38 : decode cX8_whose 38 = .ok (.bipush (-7), 2) := by decide +kernel
theorem dX8_whose_40 : decode cX8_whose 40 = .ok (.ireturn, 1) := by decide +kernel
theorem dX8_whose_41 : decode cX8_whose 41 = .ok (.iconst 0, 1) := by decide +kernel
theorem dX8_whose_42 : decode cX8_whose 42 = .ok (.istore 6, 2) := by decide +kernel
theorem dX8_whose_44 : decode cX8_whose 44 = .ok (.iconst 0, 1) := by decide +kernel
theorem dX8_whose_45 : decode cX8_whose 45 = .ok (.istore 7, 2) := by decide +kernel
theorem dX8_whose_47 : decode cX8_whose 47 = .ok (.iload 7, 2) := by decide +kernel
theorem dX8_whose_49 : decode cX8_whose 49 = .ok (.aload_n 0, 1) := by decide +kernel
theorem dX8_whose_50 : decode cX8_whose 50 = .ok (.getfield 10, 3) := by decide +kernel
theorem dX8_whose_53 : decode cX8_whose 53 = .ok (.getfield 97, 3) := by decide +kernel
theorem dX8_whose_56 : decode cX8_whose 56 = .ok (.if_icmp .ge 60, 3) := by decide +kernel
theorem dX8_whose_59 : decode cX8_whose 59 = .ok (.iload 7, 2) := by decide +kernel
theorem dX8_whose_61 : decode cX8_whose 61 = .ok (.iload_n 2, 1) := by decide +kernel
theorem dX8_whose_62 : decode cX8_whose 62 = .ok (.if_icmp .eq 48, 3) := by decide +kernel
theorem dX8_whose_65 : decode cX8_whose 65 = .ok (.aload_n 0, 1) := by decide +kernel
theorem dX8_whose_66 : decode cX8_whose 66 = .ok (.iload_n 2, 1) := by decide +kernel
theorem dX8_whose_67 : decode cX8_whose 67 = .ok (.iload 7, 2) := by decide +kernel
theorem dX8_whose_69 : decode cX8_whose 69 = .ok (.invokevirtual 207, 3) := by decide +kernel
theorem dX8_whose_72 : decode cX8_whose 72 = .ok (.aload_n 0, 1) := by decide +kernel
theorem dX8_whose_73 : decode cX8_whose 73 = .ok (.getfield 60, 3) := by decide +kernel
theorem dX8_whose_76 : decode cX8_whose 76 = .ok (.iload_n 3, 1) := by decide +kernel
theorem dX8_whose_77 : decode cX8_whose 77 = .ok (.iload 4, 2) := by decide +kernel
theorem dX8_whose_79 : decode cX8_whose 79 = .ok (.invokevirtual 159, 3) := by decide +kernel
theorem dX8_whose_82 : decode cX8_whose 82 = .ok (.iload 6, 2) := by decide +kernel
theorem dX8_whose_84 : decode cX8_whose 84 = .ok (.aload_n 0, 1) := by decide +kernel
theorem dX8_whose_85 : decode cX8_whose 85 = .ok (.getfield 60, 3) := by decide +kernel
theorem dX8_whose_88 : decode cX8_whose 88 = .ok (.aload_n 0, 1) := by decide +kernel
theorem dX8_whose_89 : decode cX8_whose 89 = .ok (.iload_n 1, 1) := by decide +kernel
theorem dX8_whose_90 : decode cX8_whose 90 = .ok (.invokevirtual 213, 3) := by decide +kernel
theorem dX8_whose_93 : decode cX8_whose 93 = .ok (.invokevirtual 234, 3) := by decide +kernel
theorem dX8_whose_96 : decode cX8_whose 96 = .ok (.ifCond .ge 10, 3) := by decide +kernel
theorem dX8_whose_99 : decode cX8_whose 99 = .ok (.iconst 1, 1) := by decide +kernel
theorem dX8_whose_100 : decode cX8_whose 100 = .ok (.iload 7, 2) := by decide +kernel
theorem dX8_whose_102 : decode cX8_whose 102 = .ok (.ishl, 1) := by decide +kernel
theorem dX8_whose_103 : decode cX8_whose 103 = .ok (.goto 4, 3) := by decide +kernel
theorem dX8_whose_106 : decode cX8_whose 106 = .ok (.iconst 0, 1) := by decide +kernel
theorem dX8_whose_107 : decode cX8_whose 107 = .ok (.ior, 1) := by decide +kernel
theorem dX8_whose_108 : decode cX8_whose 108 = .ok (.istore 6, 2) := by decide +kernel
theorem dX8_whose_110 : decode cX8_whose 110 = .ok (.iinc 7 1, 3) := by decide +kernel
theorem dX8_whose_113 : decode cX8_whose 113 = .ok (.goto (-66), 3) := by decide +kernel
theorem dX8_whose_116 : decode cX8_whose 116 = .ok (.iload 6, 2) := by decide +kernel
theorem dX8_whose_118 : decode cX8_whose 118 = .ok (.ireturn, 1) := by decide +kernel
theorem dX8_film_0 : decode cX8_film 0 = .ok (.aload_n 0, 1) := by decide +kernel
theorem dX8_film_1 : decode cX8_film 1 = .ok (.iload_n 1, 1) := by decide +kernel
theorem dX8_film_2 : decode cX8_film 2 = .ok (.invokevirtual 245, 3) := by decide +kernel
theorem dX8_film_5 : decode cX8_film 5 = .ok (.ifCond .ne 6, 3) := by decide +kernel
theorem dX8_film_8 : decode cX8_film 8 = .ok (.bipush (-2), 2) := by decide +kernel
theorem dX8_film_10 : decode cX8_film 10 = .ok (.ireturn, 1) := by decide +kernel
theorem dX8_film_11 : decode cX8_film 11 = .ok (.aload_n 0, 1) := by decide +kernel
theorem dX8_film_12 : decode cX8_film 12 = .ok (.iload_n 2, 1) := by decide +kernel
theorem dX8_film_13 : decode cX8_film 13 = .ok (.invokevirtual 142, 3) := by decide +kernel
theorem dX8_film_16 : decode cX8_film 16 = .ok (.ifCond .ne 6, 3) := by decide +kernel
theorem dX8_film_19 : decode cX8_film 19 = .ok (.bipush (-5), 2) := by decide +kernel
theorem dX8_film_21 : decode cX8_film 21 = .ok (.ireturn, 1) := by decide +kernel
theorem dX8_film_22 : decode cX8_film 22 = .ok (.iload_n 3, 1) := by decide +kernel
theorem dX8_film_23 : decode cX8_film 23 = .ok (.iload 4, 2) := by decide +kernel
theorem dX8_film_25 : decode cX8_film 25 = .ok (.invokestatic 145, 3) := by decide +kernel
theorem dX8_film_28 : decode cX8_film 28 = .ok (.ifCond .ne 6, 3) := by decide +kernel
theorem dX8_film_31 : decode cX8_film 31 = .ok (.bipush (-7), 2) := by decide +kernel
theorem dX8_film_33 : decode cX8_film 33 = .ok (.ireturn, 1) := by decide +kernel
theorem dX8_film_34 : decode cX8_film 34 = .ok (.aload_n 0, 1) := by decide +kernel
theorem dX8_film_35 : decode cX8_film 35 = .ok (.getfield 60, 3) := by decide +kernel
theorem dX8_film_38 : decode cX8_film 38 = .ok (.aload_n 0, 1) := by decide +kernel
theorem dX8_film_39 : decode cX8_film 39 = .ok (.iload_n 2, 1) := by decide +kernel
theorem dX8_film_40 : decode cX8_film 40 = .ok (.invokevirtual 149, 3) := by decide +kernel
theorem dX8_film_43 : decode cX8_film 43 = .ok (.aload_n 0, 1) := by decide +kernel
theorem dX8_film_44 : decode cX8_film 44 = .ok (.iload_n 2, 1) := by decide +kernel
theorem dX8_film_45 : decode cX8_film 45 = .ok (.invokevirtual 152, 3) := by decide +kernel
theorem dX8_film_48 : decode cX8_film 48 = .ok (.aload_n 0, 1) := by decide +kernel
theorem dX8_film_49 : decode cX8_film 49 = .ok (.invokevirtual 118, 3) := by decide +kernel
theorem dX8_film_52 : decode cX8_film 52 = .ok (.invokevirtual 155, 3) := by decide +kernel
theorem dX8_film_55 : decode cX8_film 55 = .ok (.aload_n 0, 1) := by decide +kernel
theorem dX8_film_56 : decode cX8_film 56 = .ok (.getfield 60, 3) := by decide +kernel
theorem dX8_film_59 : decode cX8_film 59 = .ok (.iload_n 3, 1) := by decide +kernel
theorem dX8_film_60 : decode cX8_film 60 = .ok (.iload 4, 2) := by decide +kernel
theorem dX8_film_62 : decode cX8_film 62 = .ok (.invokevirtual 159, 3) := by decide +kernel
theorem dX8_film_65 : decode cX8_film 65 = .ok (.aload_n 0, 1) := by decide +kernel
theorem dX8_film_66 : decode cX8_film 66 = .ok (.iload_n 1, 1) := by decide +kernel
theorem dX8_film_67 : decode cX8_film 67 = .ok (.invokevirtual 213, 3) := by decide +kernel
theorem dX8_film_70 : decode cX8_film 70 = .ok (.iconst 0, 1) := by decide +kernel
theorem dX8_film_71 : decode cX8_film 71 = .ok (.aload_n 0, 1) := by decide +kernel
theorem dX8_film_72 : decode cX8_film 72 = .ok (.getfield 60, 3) := by decide +kernel
theorem dX8_film_75 : decode cX8_film 75 = .ok (.getfield 169, 3) := by decide +kernel
theorem dX8_film_78 : decode cX8_film 78 = .ok (.invokevirtual 248, 3) := by decide +kernel
theorem dX8_film_81 : decode cX8_film 81 = .ok (.iconst 0, 1) := by decide +kernel
theorem dX8_film_82 : decode cX8_film 82 = .ok (.istore 5, 2) := by decide +kernel
theorem dX8_film_84 : decode cX8_film 84 = .ok (.iload 5, 2) := by decide +kernel
theorem dX8_film_86 : decode cX8_film 86 = .ok (.aload_n 0, 1) := by decide +kernel
theorem dX8_film_87 : decode cX8_film 87 = .ok (.getfield 60, 3) := by decide +kernel
theorem dX8_film_90 : decode cX8_film 90 = .ok (.getfield 169, 3) := by decide +kernel
theorem dX8_film_93 : decode cX8_film 93 = .ok (.if_icmp .ge 30, 3) := by decide +kernel
theorem dX8_film_96 : decode cX8_film 96 = .ok (.aload_n 0, 1) := by decide +kernel
theorem dX8_film_97 : decode cX8_film 97 = .ok (.iload_n 1, 1) := by decide +kernel
theorem dX8_film_98 : decode cX8_film 98 = .ok (.invokevirtual 213, 3) := by decide +kernel
theorem dX8_film_101 : decode cX8_film 101 = .ok (.iload 5, 2) := by decide +kernel
theorem dX8_film_103 : decode cX8_film 103 = .ok (.aload_n 0, 1) := by decide +kernel
theorem dX8_film_104 : decode cX8_film 104 = .ok (.getfield 60, 3) := by decide +kernel
theorem dX8_film_107 : decode cX8_film 107 = .ok (.iload 5, 2) := by decide +kernel
theorem dX8_film_109 : decode cX8_film 109 = .ok (.iconst 1, 1) := by decide +kernel
theorem dX8_film_110 : decode cX8_film 110 = .ok (.iadd, 1) := by decide +kernel
theorem dX8_film_111 : decode cX8_film 111 = .ok (.invokevirtual 162, 3) := by decide +kernel
theorem dX8_film_114 : decode cX8_film 114 = .ok (.invokevirtual 251, 3) := by decide +kernel
theorem dX8_film_117 : decode cX8_film 117 = .ok (.iinc 5 1, 3) := by decide +kernel
theorem dX8_film_120 : decode cX8_film 120 = .ok (.goto (-36), 3) := by decide +kernel
theorem dX8_film_123 : decode cX8_film 123 = .ok (.aload_n 0, 1) := by decide +kernel
theorem dX8_film_124 : decode cX8_film 124 = .ok (.getfield 60, 3) := by decide +kernel
theorem dX8_film_127 : decode cX8_film 127 = .ok (.getfield 169, 3) := by decide +kernel
theorem dX8_film_130 : decode cX8_film 130 = .ok (.ireturn, 1) := by decide +kernel
theorem dX8_drawn_0 : decode cX8_drawn 0 = .ok (.aload_n 0, 1) := by decide +kernel
theorem dX8_drawn_1 : decode cX8_drawn 1 = .ok (.iload_n 2, 1) := by decide +kernel
theorem dX8_drawn_2 : decode cX8_drawn 2 = .ok (.iload_n 3, 1) := by decide +kernel
theorem dX8_drawn_3 : decode cX8_drawn 3 = .ok (.invokevirtual 172, 3) := by decide +kernel
theorem dX8_drawn_6 : decode cX8_drawn 6 = .ok (.ifCond .ne 6, 3) := by decide +kernel
theorem dX8_drawn_9 : decode cX8_drawn 9 = .ok (.bipush (-5), 2) := by decide +kernel
theorem dX8_drawn_11 : decode cX8_drawn 11 = .ok (.ireturn, 1) := by decide +kernel
theorem dX8_drawn_12 : decode cX8_drawn 12 = .ok (.iload_n 1, 1) := by decide +kernel
theorem dX8_drawn_13 : decode cX8_drawn 13 = .ok (.invokestatic 254, 3) := by decide +kernel
theorem dX8_drawn_16 : decode cX8_drawn 16 = .ok (.ifCond .eq 14, 3) := by decide +kernel
theorem dX8_drawn_19 : decode cX8_drawn 19 = .ok (.iload 4, 2) := by decide +kernel
theorem dX8_drawn_21 : decode cX8_drawn 21 = .ok (.ifCond .eq 12, 3) := by decide +kernel
theorem dX8_drawn_24 : decode cX8_drawn 24 = .ok (.iload 4, 2) := by decide +kernel
theorem dX8_drawn_26 : decode cX8_drawn 26 = .ok (.iconst 1, 1) := by decide +kernel
theorem dX8_drawn_27 : decode cX8_drawn 27 = .ok (.if_icmp .eq 6, 3) := by decide +kernel
theorem dX8_drawn_30 : decode cX8_drawn 30 = .ok (.bipush (-7), 2) := by decide +kernel
theorem dX8_drawn_32 : decode cX8_drawn 32 = .ok (.ireturn, 1) := by decide +kernel
theorem dX8_drawn_33 : decode cX8_drawn 33 = .ok (.aload_n 0, 1) := by decide +kernel
theorem dX8_drawn_34 : decode cX8_drawn 34 = .ok (.iload_n 2, 1) := by decide +kernel
theorem dX8_drawn_35 : decode cX8_drawn 35 = .ok (.iload_n 3, 1) := by decide +kernel
theorem dX8_drawn_36 : decode cX8_drawn 36 = .ok (.invokevirtual 207, 3) := by decide +kernel
theorem dX8_drawn_39 : decode cX8_drawn 39 = .ok (.aload_n 0, 1) := by decide +kernel
theorem dX8_drawn_40 : decode cX8_drawn 40 = .ok (.iload_n 1, 1) := by decide +kernel
theorem dX8_drawn_41 : decode cX8_drawn 41 = .ok (.invokevirtual 257, 3) := by decide +kernel
theorem dX8_drawn_44 : decode cX8_drawn 44 = .ok (.iload 4, 2) := by decide +kernel
theorem dX8_drawn_46 : decode cX8_drawn 46 = .ok (.ifCond .ne 12, 3) := by decide +kernel
theorem dX8_drawn_49 : decode cX8_drawn 49 = .ok (.aload_n 0, 1) := by decide +kernel
theorem dX8_drawn_50 : decode cX8_drawn 50 = .ok (.iload_n 2, 1) := by decide +kernel
theorem dX8_drawn_51 : decode cX8_drawn 51 = .ok (.iload_n 3, 1) := by decide +kernel
theorem dX8_drawn_52 : decode cX8_drawn 52 = .ok (.invokevirtual 165, 3) := by decide +kernel
theorem dX8_drawn_55 : decode cX8_drawn 55 = .ok (.goto 10, 3) := by decide +kernel
theorem dX8_drawn_58 : decode cX8_drawn 58 = .ok (.aload_n 0, 1) := by decide +kernel
theorem dX8_drawn_59 : decode cX8_drawn 59 = .ok (.getfield 60, 3) := by decide +kernel
theorem dX8_drawn_62 : decode cX8_drawn 62 = .ok (.getfield 169, 3) := by decide +kernel
theorem dX8_drawn_65 : decode cX8_drawn 65 = .ok (.ireturn, 1) := by decide +kernel
theorem dX8_odds_0 : decode cX8_odds 0 = .ok (.iload_n 1, 1) := by decide +kernel
theorem dX8_odds_1 : decode cX8_odds 1 = .ok (.invokestatic 254, 3) := by decide +kernel
theorem dX8_odds_4 : decode cX8_odds 4 = .ok (.ifCond .eq 18, 3) := by decide +kernel
theorem dX8_odds_7 : decode cX8_odds 7 = .ok (.iload_n 2, 1) := by decide +kernel
theorem dX8_odds_8 : decode cX8_odds 8 = .ok (.iconst 1, 1) := by decide +kernel
theorem dX8_odds_9 : decode cX8_odds 9 = .ok (.if_icmp .lt 13, 3) := by decide +kernel
theorem dX8_odds_12 : decode cX8_odds 12 = .ok (.iload_n 2, 1) := by decide +kernel
theorem dX8_odds_13 : decode cX8_odds 13 = .ok (.bipush 40, 2) := by decide +kernel
theorem dX8_odds_15 : decode cX8_odds 15 = .ok (.if_icmp .gt 7, 3) := by decide +kernel
theorem dX8_odds_18 : decode cX8_odds 18 = .ok (.iconst 1, 1) := by decide +kernel
theorem dX8_odds_19 : decode cX8_odds 19 = .ok (.goto 4, 3) := by decide +kernel
theorem dX8_odds_22 : decode cX8_odds 22 = .ok (.iconst 0, 1) := by decide +kernel
theorem dX8_odds_23 : decode cX8_odds 23 = .ok (.istore 6, 2) := by decide +kernel
theorem dX8_odds_25 : decode cX8_odds 25 = .ok (.iload 6, 2) := by decide +kernel
theorem dX8_odds_27 : decode cX8_odds 27 = .ok (.ifCond .eq 24, 3) := by decide +kernel
theorem dX8_odds_30 : decode cX8_odds 30 = .ok (.aload_n 0, 1) := by decide +kernel
theorem dX8_odds_31 : decode cX8_odds 31 = .ok (.iload_n 3, 1) := by decide +kernel
theorem dX8_odds_32 : decode cX8_odds 32 = .ok (.iload 4, 2) := by decide +kernel
theorem dX8_odds_34 : decode cX8_odds 34 = .ok (.invokevirtual 172, 3) := by decide +kernel
theorem dX8_odds_37 : decode cX8_odds 37 = .ok (.ifCond .eq 14, 3) := by decide +kernel
theorem dX8_odds_40 : decode cX8_odds 40 = .ok (.iload 5, 2) := by decide +kernel
theorem dX8_odds_42 : decode cX8_odds 42 = .ok (.ifCond .eq 13, 3) := by decide +kernel
theorem dX8_odds_45 : decode cX8_odds 45 = .ok (.iload 5, 2) := by decide +kernel
theorem dX8_odds_47 : decode cX8_odds 47 = .ok (.iconst 1, 1) := by decide +kernel
theorem dX8_odds_48 : decode cX8_odds 48 = .ok (.if_icmp .eq 7, 3) := by decide +kernel
theorem dX8_odds_51 : decode cX8_odds 51 = .ok (.ldc2_w 194, 3) := by decide +kernel
theorem dX8_odds_54 : decode cX8_odds 54 = .ok (.lreturn, 1) := by decide +kernel
theorem dX8_odds_55 : decode cX8_odds 55 = .ok (.aload_n 0, 1) := by decide +kernel
theorem dX8_odds_56 : decode cX8_odds 56 = .ok (.iload_n 3, 1) := by decide +kernel
theorem dX8_odds_57 : decode cX8_odds 57 = .ok (.iload 4, 2) := by decide +kernel
theorem dX8_odds_59 : decode cX8_odds 59 = .ok (.invokevirtual 207, 3) := by decide +kernel
theorem dX8_odds_62 : decode cX8_odds 62 = .ok (.iconst 0, 1) := by decide +kernel
theorem dX8_odds_63 : decode cX8_odds 63 = .ok (.istore 7, 2) := by decide +kernel
theorem dX8_odds_65 : decode cX8_odds 65 = .ok (.iconst 0, 1) := by decide +kernel
theorem dX8_odds_66 : decode cX8_odds 66 = .ok (.istore 8, 2) := by decide +kernel
theorem dX8_odds_68 : decode cX8_odds 68 = .ok (.iload 8, 2) := by decide +kernel
theorem dX8_odds_70 : decode cX8_odds 70 = .ok (.iload_n 2, 1) := by decide +kernel
theorem dX8_odds_71 : decode cX8_odds 71 = .ok (.if_icmp .ge 37, 3) := by decide +kernel
theorem dX8_odds_74 : decode cX8_odds 74 = .ok (.aload_n 0, 1) := by decide +kernel
theorem dX8_odds_75 : decode cX8_odds 75 = .ok (.iload_n 1, 1) := by decide +kernel
theorem dX8_odds_76 : decode cX8_odds 76 = .ok (.iload 8, 2) := by decide +kernel
theorem dX8_odds_78 : decode cX8_odds 78 = .ok (.iadd, 1) := by decide +kernel
theorem dX8_odds_79 : decode cX8_odds 79 = .ok (.invokevirtual 257, 3) := by decide +kernel
theorem dX8_odds_82 : decode cX8_odds 82 = .ok (.iload 7, 2) := by decide +kernel
theorem dX8_odds_84 : decode cX8_odds 84 = .ok (.aload_n 0, 1) := by decide +kernel
theorem dX8_odds_85 : decode cX8_odds 85 = .ok (.getfield 60, 3) := by decide +kernel
theorem dX8_odds_88 : decode cX8_odds 88 = .ok (.getfield 188, 3) := by decide +kernel
theorem dX8_odds_91 : decode cX8_odds 91 = .ok (.ifCond .le 7, 3) := by decide +kernel
theorem dX8_odds_94 : decode cX8_odds 94 = .ok (.iconst 1, 1) := by decide +kernel
theorem dX8_odds_95 : decode cX8_odds 95 = .ok (.goto 4, 3) := by decide +kernel
theorem dX8_odds_98 : decode cX8_odds 98 = .ok (.iconst 0, 1) := by decide +kernel
theorem dX8_odds_99 : decode cX8_odds 99 = .ok (.iadd, 1) := by decide +kernel
theorem dX8_odds_100 : decode cX8_odds 100 = .ok (.istore 7, 2) := by decide +kernel
theorem dX8_odds_102 : decode cX8_odds 102 = .ok (.iinc 8 1, 3) := by decide +kernel
theorem dX8_odds_105 : decode cX8_odds 105 = .ok (.goto (-37), 3) := by decide +kernel
theorem dX8_odds_108 : decode cX8_odds 108 = .ok (.iload 7, 2) := by decide +kernel
theorem dX8_odds_110 : decode cX8_odds 110 = .ok (.iload_n 2, 1) := by decide +kernel
theorem dX8_odds_111 : decode cX8_odds 111 = .ok (.iload 5, 2) := by decide +kernel
theorem dX8_odds_113 : decode cX8_odds 113 = .ok (.invokestatic 196, 3) := by decide +kernel
theorem dX8_odds_116 : decode cX8_odds 116 = .ok (.lreturn, 1) := by decide +kernel
theorem dX8_image_0 : decode cX8_image 0 = .ok (.aload_n 0, 1) := by decide +kernel
theorem dX8_image_1 : decode cX8_image 1 = .ok (.getfield 19, 3) := by decide +kernel
theorem dX8_image_4 : decode cX8_image 4 = .ok (.aload_n 0, 1) := by decide +kernel
theorem dX8_image_5 : decode cX8_image 5 = .ok (.getfield 10, 3) := by decide +kernel
theorem dX8_image_8 : decode cX8_image 8 = .ok (.invokevirtual 224, 3) := by decide +kernel
theorem dX8_image_11 : decode cX8_image 11 = .ok (.aload_n 0, 1) := by decide +kernel
theorem dX8_image_12 : decode cX8_image 12 = .ok (.iconst 1, 1) := by decide +kernel
theorem dX8_image_13 : decode cX8_image 13 = .ok (.putfield 68, 3) := by decide +kernel
theorem dX8_image_16 : decode cX8_image 16 = .ok (.aload_n 0, 1) := by decide +kernel
theorem dX8_image_17 : decode cX8_image 17 = .ok (.getfield 10, 3) := by decide +kernel
theorem dX8_image_20 : decode cX8_image 20 = .ok (.getfield 97, 3) := by decide +kernel
theorem dX8_image_23 : decode cX8_image 23 = .ok (.ireturn, 1) := by decide +kernel
theorem dX8_back_0 : decode cX8_back 0 = .ok (.aload_n 0, 1) := by decide +kernel
theorem dX8_back_1 : decode cX8_back 1 = .ok (.getfield 68, 3) := by decide +kernel
theorem dX8_back_4 : decode cX8_back 4 = .ok (.ifCond .ne 6, 3) := by decide +kernel
theorem dX8_back_7 : decode cX8_back 7 = .ok (.bipush (-3), 2) := by decide +kernel
theorem dX8_back_9 : decode cX8_back 9 = .ok (.ireturn, 1) := by decide +kernel
theorem dX8_back_10 : decode cX8_back 10 = .ok (.aload_n 0, 1) := by decide +kernel
theorem dX8_back_11 : decode cX8_back 11 = .ok (.getfield 10, 3) := by decide +kernel
theorem dX8_back_14 : decode cX8_back 14 = .ok (.aload_n 0, 1) := by decide +kernel
theorem dX8_back_15 : decode cX8_back 15 = .ok (.getfield 19, 3) := by decide +kernel
theorem dX8_back_18 : decode cX8_back 18 = .ok (.invokevirtual 224, 3) := by decide +kernel
theorem dX8_back_21 : decode cX8_back 21 = .ok (.aload_n 0, 1) := by decide +kernel
theorem dX8_back_22 : decode cX8_back 22 = .ok (.getfield 10, 3) := by decide +kernel
theorem dX8_back_25 : decode cX8_back 25 = .ok (.getfield 97, 3) := by decide +kernel
theorem dX8_back_28 : decode cX8_back 28 = .ok (.ireturn, 1) := by decide +kernel
theorem dX8_sheet_0 : decode cX8_sheet 0 = .ok (.aload_n 0, 1) := by decide +kernel
theorem dX8_sheet_1 : decode cX8_sheet 1 = .ok (.iload_n 1, 1) := by decide +kernel
theorem dX8_sheet_2 : decode cX8_sheet 2 = .ok (.invokevirtual 245, 3) := by decide +kernel
theorem dX8_sheet_5 : decode cX8_sheet 5 = .ok (.ifCond .eq 24, 3) := by decide +kernel
theorem dX8_sheet_8 : decode cX8_sheet 8 = .ok (.iload_n 2, 1) := by decide +kernel
theorem dX8_sheet_9 : decode cX8_sheet 9 = .ok (.iconst (-1), 1) := by decide +kernel
theorem dX8_sheet_10 : decode cX8_sheet 10 = .ok (.if_icmp .lt 19, 3) := by decide +kernel
theorem dX8_sheet_13 : decode cX8_sheet 13 = .ok (.iload_n 2, 1) := by decide +kernel
theorem dX8_sheet_14 : decode cX8_sheet 14 = .ok (.iconst 2, 1) := by decide +kernel
theorem dX8_sheet_15 : decode cX8_sheet 15 = .ok (.if_icmp .gt 14, 3) := by decide +kernel
theorem dX8_sheet_18 : decode cX8_sheet 18 = .ok (.iload_n 2, 1) := by decide +kernel
theorem dX8_sheet_19 : decode cX8_sheet 19 = .ok (.iconst (-1), 1) := by decide +kernel
theorem dX8_sheet_20 : decode cX8_sheet 20 = .ok (.if_icmp .eq 12, 3) := by decide +kernel
theorem dX8_sheet_23 : decode cX8_sheet 23 = .ok (.iload_n 3, 1) := by decide +kernel
theorem dX8_sheet_24 : decode cX8_sheet 24 = .ok (.bipush 40, 2) := by decide +kernel
theorem dX8_sheet_26 : decode cX8_sheet 26 = .ok (.if_icmp .le 6, 3) := by decide +kernel
theorem dX8_sheet_29 : decode cX8_sheet 29 = .ok (.bipush (-2), 2) := by decide +kernel
theorem dX8_sheet_31 : decode cX8_sheet 31 = .ok (.ireturn, 1) := by decide +kernel
theorem dX8_sheet_32 : decode cX8_sheet 32 = .ok (.iload_n 2, 1) := by decide +kernel
theorem dX8_sheet_33 : decode cX8_sheet 33 = .ok (.iconst (-1), 1) := by decide +kernel
theorem dX8_sheet_34 : decode cX8_sheet 34 = .ok (.if_icmp .eq 10, 3) := by decide +kernel
theorem dX8_sheet_37 : decode cX8_sheet 37 = .ok (.iload_n 3, 1) := by decide +kernel
theorem dX8_sheet_38 : decode cX8_sheet 38 = .ok (.ifCond .ge 6, 3) := by decide +kernel
theorem dX8_sheet_41 : decode cX8_sheet 41 = .ok (.bipush (-14), 2) := by decide +kernel
theorem dX8_sheet_43 : decode cX8_sheet 43 = .ok (.ireturn, 1) := by decide +kernel
theorem dX8_sheet_44 : decode cX8_sheet 44 = .ok (.aload_n 0, 1) := by decide +kernel
theorem dX8_sheet_45 : decode cX8_sheet 45 = .ok (.iload_n 1, 1) := by decide +kernel
theorem dX8_sheet_46 : decode cX8_sheet 46 = .ok (.invokevirtual 213, 3) := by decide +kernel
theorem dX8_sheet_49 : decode cX8_sheet 49 = .ok (.iload_n 2, 1) := by decide +kernel
theorem dX8_sheet_50 : decode cX8_sheet 50 = .ok (.iload_n 2, 1) := by decide +kernel
theorem dX8_sheet_51 : decode cX8_sheet 51 = .ok (.iconst (-1), 1) := by decide +kernel
theorem dX8_sheet_52 : decode cX8_sheet 52 = .ok (.if_icmp .ne 7, 3) := by decide +kernel
theorem dX8_sheet_55 : decode cX8_sheet 55 = .ok (.iconst 0, 1) := by decide +kernel
theorem dX8_sheet_56 : decode cX8_sheet 56 = .ok (.goto 4, 3) := by decide +kernel
theorem dX8_sheet_59 : decode cX8_sheet 59 = .ok (.iload_n 3, 1) := by decide +kernel
theorem dX8_sheet_60 : decode cX8_sheet 60 = .ok (.invokevirtual 248, 3) := by decide +kernel
theorem dX8_sheet_63 : decode cX8_sheet 63 = .ok (.iconst 1, 1) := by decide +kernel
theorem dX8_sheet_64 : decode cX8_sheet 64 = .ok (.ireturn, 1) := by decide +kernel
theorem dX8_cell_0 : decode cX8_cell 0 = .ok (.aload_n 0, 1) := by decide +kernel
theorem dX8_cell_1 : decode cX8_cell 1 = .ok (.iload_n 1, 1) := by decide +kernel
theorem dX8_cell_2 : decode cX8_cell 2 = .ok (.invokevirtual 260, 3) := by decide +kernel
theorem dX8_cell_5 : decode cX8_cell 5 = .ok (.istore 4, 2) := by decide +kernel
theorem dX8_cell_7 : decode cX8_cell 7 = .ok (.iload 4, 2) := by decide +kernel
theorem dX8_cell_9 : decode cX8_cell 9 = .ok (.ifCond .eq 6, 3) := by decide +kernel
theorem dX8_cell_12 : decode cX8_cell 12 = .ok (.iload 4, 2) := by decide +kernel
theorem dX8_cell_14 : decode cX8_cell 14 = .ok (.ireturn, 1) := by decide +kernel
theorem dX8_cell_15 : decode cX8_cell 15 = .ok (.aload_n 0, 1) := by decide +kernel
theorem dX8_cell_16 : decode cX8_cell 16 = .ok (.iload_n 1, 1) := by decide +kernel
theorem dX8_cell_17 : decode cX8_cell 17 = .ok (.invokevirtual 213, 3) := by decide +kernel
theorem dX8_cell_20 : decode cX8_cell 20 = .ok (.iload_n 2, 1) := by decide +kernel
theorem dX8_cell_21 : decode cX8_cell 21 = .ok (.iconst 1, 1) := by decide +kernel
theorem dX8_cell_22 : decode cX8_cell 22 = .ok (.invokevirtual 263, 3) := by decide +kernel
theorem dX8_cell_25 : decode cX8_cell 25 = .ok (.ifCond .ne 6, 3) := by decide +kernel
theorem dX8_cell_28 : decode cX8_cell 28 = .ok (.bipush (-12), 2) := by decide +kernel
theorem dX8_cell_30 : decode cX8_cell 30 = .ok (.ireturn, 1) := by decide +kernel
theorem dX8_cell_31 : decode cX8_cell 31 = .ok (.aload_n 0, 1) := by decide +kernel
theorem dX8_cell_32 : decode cX8_cell 32 = .ok (.iload_n 1, 1) := by decide +kernel
theorem dX8_cell_33 : decode cX8_cell 33 = .ok (.invokevirtual 213, 3) := by decide +kernel
theorem dX8_cell_36 : decode cX8_cell 36 = .ok (.iload_n 2, 1) := by decide +kernel
theorem dX8_cell_37 : decode cX8_cell 37 = .ok (.iload_n 3, 1) := by decide +kernel
theorem dX8_cell_38 : decode cX8_cell 38 = .ok (.invokevirtual 251, 3) := by decide +kernel
theorem dX8_cell_41 : decode cX8_cell 41 = .ok (.iconst 1, 1) := by decide +kernel
theorem dX8_cell_42 : decode cX8_cell 42 = .ok (.ireturn, 1) := by decide +kernel
theorem dX8_copy_0 : decode cX8_copy 0 = .ok (.aload_n 0, 1) := by decide +kernel
theorem dX8_copy_1 : decode cX8_copy 1 = .ok (.iload_n 1, 1) := by decide +kernel
theorem dX8_copy_2 : decode cX8_copy 2 = .ok (.invokevirtual 245, 3) := by decide +kernel
theorem dX8_copy_5 : decode cX8_copy 5 = .ok (.ifCond .eq 11, 3) := by decide +kernel
theorem dX8_copy_8 : decode cX8_copy 8 = .ok (.aload_n 0, 1) := by decide +kernel
theorem dX8_copy_9 : decode cX8_copy 9 = .ok (.iload_n 3, 1) := by decide +kernel
theorem dX8_copy_10 : decode cX8_copy 10 = .ok (.invokevirtual 245, 3) := by decide +kernel
theorem dX8_copy_13 : decode cX8_copy 13 = .ok (.ifCond .ne 6, 3) := by decide +kernel
theorem dX8_copy_16 : decode cX8_copy 16 = .ok (.bipush (-2), 2) := by decide +kernel
theorem dX8_copy_18 : decode cX8_copy 18 = .ok (.ireturn, 1) := by decide +kernel
theorem dX8_copy_19 : decode cX8_copy 19 = .ok (.aload_n 0, 1) := by decide +kernel
theorem dX8_copy_20 : decode cX8_copy 20 = .ok (.iload_n 1, 1) := by decide +kernel
theorem dX8_copy_21 : decode cX8_copy 21 = .ok (.invokevirtual 213, 3) := by decide +kernel
theorem dX8_copy_24 : decode cX8_copy 24 = .ok (.astore 6, 2) := by decide +kernel
theorem dX8_copy_26 : decode cX8_copy 26 = .ok (.aload_n 0, 1) := by decide +kernel
theorem dX8_copy_27 : decode cX8_copy 27 = .ok (.iload_n 3, 1) := by decide +kernel
theorem dX8_copy_28 : decode cX8_copy 28 = .ok (.invokevirtual 213, 3) := by decide +kernel
theorem dX8_copy_31 : decode cX8_copy 31 = .ok (.astore 7, 2) := by decide +kernel
theorem dX8_copy_33 : decode cX8_copy 33 = .ok (.aload 6, 2) := by decide +kernel
theorem dX8_copy_35 : decode cX8_copy 35 = .ok (.getfield 266, 3) := by decide +kernel
theorem dX8_copy_38 : decode cX8_copy 38 = .ok (.iconst (-1), 1) := by decide +kernel
theorem dX8_copy_39 : decode cX8_copy 39 = .ok (.if_icmp .eq 12, 3) := by decide +kernel
theorem dX8_copy_42 : decode cX8_copy 42 = .ok (.aload 7, 2) := by decide +kernel
theorem dX8_copy_44 : decode cX8_copy 44 = .ok (.getfield 266, 3) := by decide +kernel
theorem dX8_copy_47 : decode cX8_copy 47 = .ok (.iconst (-1), 1) := by decide +kernel
theorem dX8_copy_48 : decode cX8_copy 48 = .ok (.if_icmp .ne 6, 3) := by decide +kernel
theorem dX8_copy_51 : decode cX8_copy 51 = .ok (.bipush (-11), 2) := by decide +kernel
theorem dX8_copy_53 : decode cX8_copy 53 = .ok (.ireturn, 1) := by decide +kernel
theorem dX8_copy_54 : decode cX8_copy 54 = .ok (.aload 6, 2) := by decide +kernel
