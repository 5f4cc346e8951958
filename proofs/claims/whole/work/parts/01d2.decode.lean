theorem dX8_copy_56 : decode cX8_copy 56 = .ok (.getfield 266, 3) := by decide +kernel
theorem dX8_copy_59 : decode cX8_copy 59 = .ok (.aload 7, 2) := by decide +kernel
theorem dX8_copy_61 : decode cX8_copy 61 = .ok (.getfield 266, 3) := by decide +kernel
theorem dX8_copy_64 : decode cX8_copy 64 = .ok (.if_icmp .eq 6, 3) := by decide +kernel
theorem dX8_copy_67 : decode cX8_copy 67 = .ok (.bipush (-13), 2) := by decide +kernel
theorem dX8_copy_69 : decode cX8_copy 69 = .ok (.ireturn, 1) := by decide +kernel
theorem dX8_copy_70 : decode cX8_copy 70 = .ok (.aload 6, 2) := by decide +kernel
theorem dX8_copy_72 : decode cX8_copy 72 = .ok (.iload_n 2, 1) := by decide +kernel
theorem dX8_copy_73 : decode cX8_copy 73 = .ok (.iload 5, 2) := by decide +kernel
theorem dX8_copy_75 : decode cX8_copy 75 = .ok (.invokevirtual 263, 3) := by decide +kernel
theorem dX8_copy_78 : decode cX8_copy 78 = .ok (.ifCond .eq 15, 3) := by decide +kernel
theorem dX8_copy_81 : decode cX8_copy 81 = .ok (.aload 7, 2) := by decide +kernel
theorem dX8_copy_83 : decode cX8_copy 83 = .ok (.iload 4, 2) := by decide +kernel
theorem dX8_copy_85 : decode cX8_copy 85 = .ok (.iload 5, 2) := by decide +kernel
theorem dX8_copy_87 : decode cX8_copy 87 = .ok (.invokevirtual 263, 3) := by decide +kernel
theorem dX8_copy_90 : decode cX8_copy 90 = .ok (.ifCond .ne 6, 3) := by decide +kernel
theorem dX8_copy_93 : decode cX8_copy 93 = .ok (.bipush (-12), 2) := by decide +kernel
theorem dX8_copy_95 : decode cX8_copy 95 = .ok (.ireturn, 1) := by decide +kernel
theorem dX8_copy_96 : decode cX8_copy 96 = .ok (.aload 6, 2) := by decide +kernel
theorem dX8_copy_98 : decode cX8_copy 98 = .ok (.getfield 269, 3) := by decide +kernel
theorem dX8_copy_101 : decode cX8_copy 101 = .ok (.iload_n 2, 1) := by decide +kernel
theorem dX8_copy_102 : decode cX8_copy 102 = .ok (.aload 7, 2) := by decide +kernel
theorem dX8_copy_104 : decode cX8_copy 104 = .ok (.getfield 269, 3) := by decide +kernel
theorem dX8_copy_107 : decode cX8_copy 107 = .ok (.iload 4, 2) := by decide +kernel
theorem dX8_copy_109 : decode cX8_copy 109 = .ok (.iload 5, 2) := by decide +kernel
theorem dX8_copy_111 : decode cX8_copy 111 = .ok (.invokestatic 273, 3) := by decide +kernel
theorem dX8_copy_114 : decode cX8_copy 114 = .ok (.iload 5, 2) := by decide +kernel
theorem dX8_copy_116 : decode cX8_copy 116 = .ok (.ireturn, 1) := by decide +kernel
theorem dX8_menBy_0 : decode cX8_menBy 0 = .ok (.aload_n 0, 1) := by decide +kernel
theorem dX8_menBy_1 : decode cX8_menBy 1 = .ok (.iload_n 1, 1) := by decide +kernel
theorem dX8_menBy_2 : decode cX8_menBy 2 = .ok (.invokevirtual 245, 3) := by decide +kernel
theorem dX8_menBy_5 : decode cX8_menBy 5 = .ok (.ifCond .eq 24, 3) := by decide +kernel
theorem dX8_menBy_8 : decode cX8_menBy 8 = .ok (.iload_n 2, 1) := by decide +kernel
theorem dX8_menBy_9 : decode cX8_menBy 9 = .ok (.ifCond .lt 20, 3) := by decide +kernel
theorem dX8_menBy_12 : decode cX8_menBy 12 = .ok (.iload_n 2, 1) := by decide +kernel
theorem dX8_menBy_13 : decode cX8_menBy 13 = .ok (.iconst 2, 1) := by decide +kernel
theorem dX8_menBy_14 : decode cX8_menBy 14 = .ok (.if_icmp .gt 15, 3) := by decide +kernel
theorem dX8_menBy_17 : decode cX8_menBy 17 = .ok (.iload 4, 2) := by decide +kernel
theorem dX8_menBy_19 : decode cX8_menBy 19 = .ok (.ifCond .lt 10, 3) := by decide +kernel
theorem dX8_menBy_22 : decode cX8_menBy 22 = .ok (.iload 4, 2) := by decide +kernel
theorem dX8_menBy_24 : decode cX8_menBy 24 = .ok (.bipush 6, 2) := by decide +kernel
theorem dX8_menBy_26 : decode cX8_menBy 26 = .ok (.if_icmp .le 6, 3) := by decide +kernel
theorem dX8_menBy_29 : decode cX8_menBy 29 = .ok (.bipush (-2), 2) := by decide +kernel
theorem dX8_menBy_31 : decode cX8_menBy 31 = .ok (.ireturn, 1) := by decide +kernel
theorem dX8_menBy_32 : decode cX8_menBy 32 = .ok (.aload_n 0, 1) := by decide +kernel
theorem dX8_menBy_33 : decode cX8_menBy 33 = .ok (.iload_n 1, 1) := by decide +kernel
theorem dX8_menBy_34 : decode cX8_menBy 34 = .ok (.invokevirtual 260, 3) := by decide +kernel
theorem dX8_menBy_37 : decode cX8_menBy 37 = .ok (.istore 5, 2) := by decide +kernel
theorem dX8_menBy_39 : decode cX8_menBy 39 = .ok (.iload 5, 2) := by decide +kernel
theorem dX8_menBy_41 : decode cX8_menBy 41 = .ok (.ifCond .eq 6, 3) := by decide +kernel
theorem dX8_menBy_44 : decode cX8_menBy 44 = .ok (.iload 5, 2) := by decide +kernel
theorem dX8_menBy_46 : decode cX8_menBy 46 = .ok (.ireturn, 1) := by decide +kernel
theorem dX8_menBy_47 : decode cX8_menBy 47 = .ok (.aload_n 0, 1) := by decide +kernel
theorem dX8_menBy_48 : decode cX8_menBy 48 = .ok (.iload_n 1, 1) := by decide +kernel
theorem dX8_menBy_49 : decode cX8_menBy 49 = .ok (.invokevirtual 213, 3) := by decide +kernel
theorem dX8_menBy_52 : decode cX8_menBy 52 = .ok (.astore 6, 2) := by decide +kernel
theorem dX8_menBy_54 : decode cX8_menBy 54 = .ok (.aload 6, 2) := by decide +kernel
theorem dX8_menBy_56 : decode cX8_menBy 56 = .ok (.getfield 266, 3) := by decide +kernel
theorem dX8_menBy_59 : decode cX8_menBy 59 = .ok (.iload_n 2, 1) := by decide +kernel
theorem dX8_menBy_60 : decode cX8_menBy 60 = .ok (.if_icmp .eq 6, 3) := by decide +kernel
theorem dX8_menBy_63 : decode cX8_menBy 63 = .ok (.bipush (-13), 2) := by decide +kernel
theorem dX8_menBy_65 : decode cX8_menBy 65 = .ok (.ireturn, 1) := by decide +kernel
theorem dX8_menBy_66 : decode cX8_menBy 66 = .ok (.iconst 0, 1) := by decide +kernel
theorem dX8_menBy_67 : decode cX8_menBy 67 = .ok (.istore 7, 2) := by decide +kernel
theorem dX8_menBy_69 : decode cX8_menBy 69 = .ok (.iconst 0, 1) := by decide +kernel
theorem dX8_menBy_70 : decode cX8_menBy 70 = .ok (.istore 8, 2) := by decide +kernel
theorem dX8_menBy_72 : decode cX8_menBy 72 = .ok (.iload 8, 2) := by decide +kernel
theorem dX8_menBy_74 : decode cX8_menBy 74 = .ok (.iload 4, 2) := by decide +kernel
theorem dX8_menBy_76 : decode cX8_menBy 76 = .ok (.if_icmp .ge 64, 3) := by decide +kernel
theorem dX8_menBy_79 : decode cX8_menBy 79 = .ok (.iload_n 3, 1) := by decide +kernel
theorem dX8_menBy_80 : decode cX8_menBy 80 = .ok (.iconst 2, 1) := by decide +kernel
theorem dX8_menBy_81 : decode cX8_menBy 81 = .ok (.iload 8, 2) := by decide +kernel
theorem dX8_menBy_83 : decode cX8_menBy 83 = .ok (.imul, 1) := by decide +kernel
theorem dX8_menBy_84 : decode cX8_menBy 84 = .ok (.iadd, 1) := by decide +kernel
theorem dX8_menBy_85 : decode cX8_menBy 85 = .ok (.istore 9, 2) := by decide +kernel
theorem dX8_menBy_87 : decode cX8_menBy 87 = .ok (.aload 6, 2) := by decide +kernel
theorem dX8_menBy_89 : decode cX8_menBy 89 = .ok (.iload 9, 2) := by decide +kernel
theorem dX8_menBy_91 : decode cX8_menBy 91 = .ok (.iconst 2, 1) := by decide +kernel
theorem dX8_menBy_92 : decode cX8_menBy 92 = .ok (.invokevirtual 263, 3) := by decide +kernel
theorem dX8_menBy_95 : decode cX8_menBy 95 = .ok (.ifCond .ne 6, 3) := by decide +kernel
theorem dX8_menBy_98 : decode cX8_menBy 98 = .ok (.bipush (-12), 2) := by decide +kernel
theorem dX8_menBy_100 : decode cX8_menBy 100 = .ok (.ireturn, 1) := by decide +kernel
theorem dX8_menBy_101 : decode cX8_menBy 101 = .ok (.iload 7, 2) := by decide +kernel
theorem dX8_menBy_103 : decode cX8_menBy 103 = .ok (.aload_n 0, 1) := by decide +kernel
theorem dX8_menBy_104 : decode cX8_menBy 104 = .ok (.aload 6, 2) := by decide +kernel
theorem dX8_menBy_106 : decode cX8_menBy 106 = .ok (.iload 9, 2) := by decide +kernel
theorem dX8_menBy_108 : decode cX8_menBy 108 = .ok (.invokevirtual 279, 3) := by decide +kernel
theorem dX8_menBy_111 : decode cX8_menBy 111 = .ok (.aload 6, 2) := by decide +kernel
theorem dX8_menBy_113 : decode cX8_menBy 113 = .ok (.iload 9, 2) := by decide +kernel
theorem dX8_menBy_115 : decode cX8_menBy 115 = .ok (.iconst 1, 1) := by decide +kernel
theorem dX8_menBy_116 : decode cX8_menBy 116 = .ok (.iadd, 1) := by decide +kernel
theorem dX8_menBy_117 : decode cX8_menBy 117 = .ok (.invokevirtual 279, 3) := by decide +kernel
theorem dX8_menBy_120 : decode cX8_menBy 120 = .ok (.invokevirtual 281, 3) := by decide +kernel
theorem dX8_menBy_123 : decode cX8_menBy 123 = .ok (.ifCond .lt 7, 3) := by decide +kernel
theorem dX8_menBy_126 : decode cX8_menBy 126 = .ok (.iconst 1, 1) := by decide +kernel
theorem dX8_menBy_127 : decode cX8_menBy 127 = .ok (.goto 4, 3) := by decide +kernel
theorem dX8_menBy_130 : decode cX8_menBy 130 = .ok (.iconst 0, 1) := by decide +kernel
theorem dX8_menBy_131 : decode cX8_menBy 131 = .ok (.iadd, 1) := by decide +kernel
theorem dX8_menBy_132 : decode cX8_menBy 132 = .ok (.istore 7, 2) := by decide +kernel
theorem dX8_menBy_134 : decode cX8_menBy 134 = .ok (.iinc 8 1, 3) := by decide +kernel
theorem dX8_menBy_137 : decode cX8_menBy 137 = .ok (.goto (-65), 3) := by decide +kernel
theorem dX8_menBy_140 : decode cX8_menBy 140 = .ok (.iload 7, 2) := by decide +kernel
theorem dX8_menBy_142 : decode cX8_menBy 142 = .ok (.ireturn, 1) := by decide +kernel
theorem dX8_taken_0 : decode cX8_taken 0 = .ok (.iload_n 2, 1) := by decide +kernel
theorem dX8_taken_1 : decode cX8_taken 1 = .ok (.ifCond .lt 9, 3) := by decide +kernel
theorem dX8_taken_4 : decode cX8_taken 4 = .ok (.iload_n 2, 1) := by decide +kernel
theorem dX8_taken_5 : decode cX8_taken 5 = .ok (.bipush 6, 2) := by decide +kernel
theorem dX8_taken_7 : decode cX8_taken 7 = .ok (.if_icmp .le 6, 3) := by decide +kernel
theorem dX8_taken_10 : decode cX8_taken 10 = .ok (.bipush (-2), 2) := by decide +kernel
theorem dX8_taken_12 : decode cX8_taken 12 = .ok (.ireturn, 1) := by decide +kernel
theorem dX8_taken_13 : decode cX8_taken 13 = .ok (.iload_n 1, 1) := by decide +kernel
theorem dX8_taken_14 : decode cX8_taken 14 = .ok (.ifCond .lt 9, 3) := by decide +kernel
theorem dX8_taken_17 : decode cX8_taken 17 = .ok (.iload_n 1, 1) := by decide +kernel
theorem dX8_taken_18 : decode cX8_taken 18 = .ok (.bipush 12, 2) := by decide +kernel
theorem dX8_taken_20 : decode cX8_taken 20 = .ok (.if_icmp .lt 6, 3) := by decide +kernel
theorem dX8_taken_23 : decode cX8_taken 23 = .ok (.bipush (-12), 2) := by decide +kernel
theorem dX8_taken_25 : decode cX8_taken 25 = .ok (.ireturn, 1) := by decide +kernel
theorem dX8_taken_26 : decode cX8_taken 26 = .ok (.aload_n 0, 1) := by decide +kernel
theorem dX8_taken_27 : decode cX8_taken 27 = .ok (.getfield 10, 3) := by decide +kernel
theorem dX8_taken_30 : decode cX8_taken 30 = .ok (.iload_n 1, 1) := by decide +kernel
theorem dX8_taken_31 : decode cX8_taken 31 = .ok (.bipush 6, 2) := by decide +kernel
theorem dX8_taken_33 : decode cX8_taken 33 = .ok (.irem, 1) := by decide +kernel
theorem dX8_taken_34 : decode cX8_taken 34 = .ok (.invokevirtual 115, 3) := by decide +kernel
theorem dX8_taken_37 : decode cX8_taken 37 = .ok (.ifCond .ne 6, 3) := by decide +kernel
theorem dX8_taken_40 : decode cX8_taken 40 = .ok (.bipush (-11), 2) := by decide +kernel
theorem dX8_taken_42 : decode cX8_taken 42 = .ok (.ireturn, 1) := by decide +kernel
theorem dX8_taken_43 : decode cX8_taken 43 = .ok (.iload_n 1, 1) := by decide +kernel
theorem dX8_taken_44 : decode cX8_taken 44 = .ok (.bipush 6, 2) := by decide +kernel
theorem dX8_taken_46 : decode cX8_taken 46 = .ok (.if_icmp .ge 7, 3) := by decide +kernel
theorem dX8_taken_49 : decode cX8_taken 49 = .ok (.iconst 1, 1) := by decide +kernel
theorem dX8_taken_50 : decode cX8_taken 50 = .ok (.goto 4, 3) := by decide +kernel
theorem dX8_taken_53 : decode cX8_taken 53 = .ok (.iconst 0, 1) := by decide +kernel
theorem dX8_taken_54 : decode cX8_taken 54 = .ok (.istore_n 3, 1) := by decide +kernel
theorem dX8_taken_55 : decode cX8_taken 55 = .ok (.iload_n 2, 1) := by decide +kernel
theorem dX8_taken_56 : decode cX8_taken 56 = .ok (.bipush 6, 2) := by decide +kernel
theorem dX8_taken_58 : decode cX8_taken 58 = .ok (.if_icmp .ge 7, 3) := by decide +kernel
theorem dX8_taken_61 : decode cX8_taken 61 = .ok (.iconst 1, 1) := by decide +kernel
theorem dX8_taken_62 : decode cX8_taken 62 = .ok (.goto 4, 3) := by decide +kernel
theorem dX8_taken_65 : decode cX8_taken 65 = .ok (.iconst 0, 1) := by decide +kernel
theorem dX8_taken_66 : decode cX8_taken 66 = .ok (.istore 4, 2) := by decide +kernel
theorem dX8_taken_68 : decode cX8_taken 68 = .ok (.iload_n 3, 1) := by decide +kernel
theorem dX8_taken_69 : decode cX8_taken 69 = .ok (.iload 4, 2) := by decide +kernel
theorem dX8_taken_71 : decode cX8_taken 71 = .ok (.if_icmp .ne 22, 3) := by decide +kernel
theorem dX8_taken_74 : decode cX8_taken 74 = .ok (.iload_n 3, 1) := by decide +kernel
theorem dX8_taken_75 : decode cX8_taken 75 = .ok (.ifCond .eq 21, 3) := by decide +kernel
theorem dX8_taken_78 : decode cX8_taken 78 = .ok (.aload_n 0, 1) := by decide +kernel
theorem dX8_taken_79 : decode cX8_taken 79 = .ok (.getfield 10, 3) := by decide +kernel
theorem dX8_taken_82 : decode cX8_taken 82 = .ok (.iload_n 1, 1) := by decide +kernel
theorem dX8_taken_83 : decode cX8_taken 83 = .ok (.invokevirtual 122, 3) := by decide +kernel
theorem dX8_taken_86 : decode cX8_taken 86 = .ok (.iload_n 2, 1) := by decide +kernel
theorem dX8_taken_87 : decode cX8_taken 87 = .ok (.invokevirtual 284, 3) := by decide +kernel
theorem dX8_taken_90 : decode cX8_taken 90 = .ok (.ifCond .ne 6, 3) := by decide +kernel
theorem dX8_taken_93 : decode cX8_taken 93 = .ok (.bipush (-13), 2) := by decide +kernel
theorem dX8_taken_95 : decode cX8_taken 95 = .ok (.ireturn, 1) := by decide +kernel
theorem dX8_taken_96 : decode cX8_taken 96 = .ok (.iload_n 3, 1) := by decide +kernel
theorem dX8_taken_97 : decode cX8_taken 97 = .ok (.ifCond .eq 7, 3) := by decide +kernel
theorem dX8_taken_100 : decode cX8_taken 100 = .ok (.iload_n 1, 1) := by decide +kernel
theorem dX8_taken_101 : decode cX8_taken 101 = .ok (.goto 17, 3) := by decide +kernel
theorem dX8_taken_104 : decode cX8_taken 104 = .ok (.aload_n 0, 1) := by decide +kernel
theorem dX8_taken_105 : decode cX8_taken 105 = .ok (.getfield 10, 3) := by decide +kernel
theorem dX8_taken_108 : decode cX8_taken 108 = .ok (.iload_n 1, 1) := by decide +kernel
theorem dX8_taken_109 : decode cX8_taken 109 = .ok (.bipush 6, 2) := by decide +kernel
theorem dX8_taken_111 : decode cX8_taken 111 = .ok (.irem, 1) := by decide +kernel
theorem dX8_taken_112 : decode cX8_taken 112 = .ok (.invokevirtual 122, 3) := by decide +kernel
theorem dX8_taken_115 : decode cX8_taken 115 = .ok (.getfield 227, 3) := by decide +kernel
theorem dX8_taken_118 : decode cX8_taken 118 = .ok (.ireturn, 1) := by decide +kernel
theorem dX8_isByte_0 : decode cX8_isByte 0 = .ok (.iload_n 0, 1) := by decide +kernel
theorem dX8_isByte_1 : decode cX8_isByte 1 = .ok (.ifCond .lt 14, 3) := by decide +kernel
theorem dX8_isByte_4 : decode cX8_isByte 4 = .ok (.iload_n 0, 1) := by decide +kernel
theorem dX8_isByte_5 : decode cX8_isByte 5 = .ok (.sipush 255, 3) := by decide +kernel
theorem dX8_isByte_8 : decode cX8_isByte 8 = .ok (.if_icmp .gt 7, 3) := by decide +kernel
theorem dX8_isByte_11 : decode cX8_isByte 11 = .ok (.iconst 1, 1) := by decide +kernel
theorem dX8_isByte_12 : decode cX8_isByte 12 = .ok (.goto 4, 3) := by decide +kernel
theorem dX8_isByte_15 : decode cX8_isByte 15 = .ok (.iconst 0, 1) := by decide +kernel
theorem dX8_isByte_16 : decode cX8_isByte 16 = .ok (.ireturn, 1) := by decide +kernel
theorem dX8_isPlan_0 : decode cX8_isPlan 0 = .ok (.iload_n 0, 1) := by decide +kernel
theorem dX8_isPlan_1 : decode cX8_isPlan 1 = .ok (.ifCond .lt 14, 3) := by decide +kernel
theorem dX8_isPlan_4 : decode cX8_isPlan 4 = .ok (.iload_n 0, 1) := by decide +kernel
theorem dX8_isPlan_5 : decode cX8_isPlan 5 = .ok (.ldc_w 287, 3) := by decide +kernel
theorem dX8_isPlan_8 : decode cX8_isPlan 8 = .ok (.if_icmp .gt 7, 3) := by decide +kernel
theorem dX8_isPlan_11 : decode cX8_isPlan 11 = .ok (.iconst 1, 1) := by decide +kernel
theorem dX8_isPlan_12 : decode cX8_isPlan 12 = .ok (.goto 4, 3) := by decide +kernel
theorem dX8_isPlan_15 : decode cX8_isPlan 15 = .ok (.iconst 0, 1) := by decide +kernel
theorem dX8_isPlan_16 : decode cX8_isPlan 16 = .ok (.ireturn, 1) := by decide +kernel
theorem dX8_arePlans_0 : decode cX8_arePlans 0 = .ok (.iload_n 0, 1) := by decide +kernel
theorem dX8_arePlans_1 : decode cX8_arePlans 1 = .ok (.invokestatic 179, 3) := by decide +kernel
theorem dX8_arePlans_4 : decode cX8_arePlans 4 = .ok (.ifCond .eq 14, 3) := by decide +kernel
theorem dX8_arePlans_7 : decode cX8_arePlans 7 = .ok (.iload_n 1, 1) := by decide +kernel
theorem dX8_arePlans_8 : decode cX8_arePlans 8 = .ok (.invokestatic 179, 3) := by decide +kernel
theorem dX8_arePlans_11 : decode cX8_arePlans 11 = .ok (.ifCond .eq 7, 3) := by decide +kernel
theorem dX8_arePlans_14 : decode cX8_arePlans 14 = .ok (.iconst 1, 1) := by decide +kernel
theorem dX8_arePlans_15 : decode cX8_arePlans 15 = .ok (.goto 4, 3) := by decide +kernel
theorem dX8_arePlans_18 : decode cX8_arePlans 18 = .ok (.iconst 0, 1) := by decide +kernel
theorem dX8_arePlans_19 : decode cX8_arePlans 19 = .ok (.ireturn, 1) := by decide +kernel
theorem dX8_isSeed_0 : decode cX8_isSeed 0 = .ok (.iload_n 0, 1) := by decide +kernel
theorem dX8_isSeed_1 : decode cX8_isSeed 1 = .ok (.ifCond .lt 14, 3) := by decide +kernel
theorem dX8_isSeed_4 : decode cX8_isSeed 4 = .ok (.iload_n 0, 1) := by decide +kernel
theorem dX8_isSeed_5 : decode cX8_isSeed 5 = .ok (.ldc_w 288, 3) := by decide +kernel
theorem dX8_isSeed_8 : decode cX8_isSeed 8 = .ok (.if_icmp .gt 7, 3) := by decide +kernel
theorem dX8_isSeed_11 : decode cX8_isSeed 11 = .ok (.iconst 1, 1) := by decide +kernel
theorem dX8_isSeed_12 : decode cX8_isSeed 12 = .ok (.goto 4, 3) := by decide +kernel
theorem dX8_isSeed_15 : decode cX8_isSeed 15 = .ok (.iconst 0, 1) := by decide +kernel
theorem dX8_isSeed_16 : decode cX8_isSeed 16 = .ok (.ireturn, 1) := by decide +kernel
theorem dX8_areTwo_0 : decode cX8_areTwo 0 = .ok (.iload_n 1, 1) := by decide +kernel
theorem dX8_areTwo_1 : decode cX8_areTwo 1 = .ok (.iload_n 2, 1) := by decide +kernel
theorem dX8_areTwo_2 : decode cX8_areTwo 2 = .ok (.if_icmp .eq 29, 3) := by decide +kernel
theorem dX8_areTwo_5 : decode cX8_areTwo 5 = .ok (.aload_n 0, 1) := by decide +kernel
theorem dX8_areTwo_6 : decode cX8_areTwo 6 = .ok (.getfield 10, 3) := by decide +kernel
theorem dX8_areTwo_9 : decode cX8_areTwo 9 = .ok (.iload_n 1, 1) := by decide +kernel
theorem dX8_areTwo_10 : decode cX8_areTwo 10 = .ok (.invokevirtual 115, 3) := by decide +kernel
theorem dX8_areTwo_13 : decode cX8_areTwo 13 = .ok (.ifCond .eq 18, 3) := by decide +kernel
theorem dX8_areTwo_16 : decode cX8_areTwo 16 = .ok (.aload_n 0, 1) := by decide +kernel
theorem dX8_areTwo_17 : decode cX8_areTwo 17 = .ok (.getfield 10, 3) := by decide +kernel
theorem dX8_areTwo_20 : decode cX8_areTwo 20 = .ok (.iload_n 2, 1) := by decide +kernel
theorem dX8_areTwo_21 : decode cX8_areTwo 21 = .ok (.invokevirtual 115, 3) := by decide +kernel
theorem dX8_areTwo_24 : decode cX8_areTwo 24 = .ok (.ifCond .eq 7, 3) := by decide +kernel
theorem dX8_areTwo_27 : decode cX8_areTwo 27 = .ok (.iconst 1, 1) := by decide +kernel
theorem dX8_areTwo_28 : decode cX8_areTwo 28 = .ok (.goto 4, 3) := by decide +kernel
theorem dX8_areTwo_31 : decode cX8_areTwo 31 = .ok (.iconst 0, 1) := by decide +kernel
theorem dX8_areTwo_32 : decode cX8_areTwo 32 = .ok (.ireturn, 1) := by decide +kernel
theorem dX8_isPair_0 : decode cX8_isPair 0 = .ok (.iload_n 1, 1) := by decide +kernel
theorem dX8_isPair_1 : decode cX8_isPair 1 = .ok (.ifCond .lt 22, 3) := by decide +kernel
theorem dX8_isPair_4 : decode cX8_isPair 4 = .ok (.aload_n 0, 1) := by decide +kernel
theorem dX8_isPair_5 : decode cX8_isPair 5 = .ok (.iload_n 1, 1) := by decide +kernel
theorem dX8_isPair_6 : decode cX8_isPair 6 = .ok (.bipush 10, 2) := by decide +kernel
theorem dX8_isPair_8 : decode cX8_isPair 8 = .ok (.idiv, 1) := by decide +kernel
theorem dX8_isPair_9 : decode cX8_isPair 9 = .ok (.iload_n 1, 1) := by decide +kernel
theorem dX8_isPair_10 : decode cX8_isPair 10 = .ok (.bipush 10, 2) := by decide +kernel
theorem dX8_isPair_12 : decode cX8_isPair 12 = .ok (.irem, 1) := by decide +kernel
theorem dX8_isPair_13 : decode cX8_isPair 13 = .ok (.invokevirtual 172, 3) := by decide +kernel
theorem dX8_isPair_16 : decode cX8_isPair 16 = .ok (.ifCond .eq 7, 3) := by decide +kernel
theorem dX8_isPair_19 : decode cX8_isPair 19 = .ok (.iconst 1, 1) := by decide +kernel
theorem dX8_isPair_20 : decode cX8_isPair 20 = .ok (.goto 4, 3) := by decide +kernel
theorem dX8_isPair_23 : decode cX8_isPair 23 = .ok (.iconst 0, 1) := by decide +kernel
theorem dX8_isPair_24 : decode cX8_isPair 24 = .ok (.ireturn, 1) := by decide +kernel
theorem dX8_isSheet_0 : decode cX8_isSheet 0 = .ok (.iload_n 1, 1) := by decide +kernel
theorem dX8_isSheet_1 : decode cX8_isSheet 1 = .ok (.ifCond .lt 12, 3) := by decide +kernel
theorem dX8_isSheet_4 : decode cX8_isSheet 4 = .ok (.iload_n 1, 1) := by decide +kernel
theorem dX8_isSheet_5 : decode cX8_isSheet 5 = .ok (.iconst 4, 1) := by decide +kernel
theorem dX8_isSheet_6 : decode cX8_isSheet 6 = .ok (.if_icmp .ge 7, 3) := by decide +kernel
theorem dX8_isSheet_9 : decode cX8_isSheet 9 = .ok (.iconst 1, 1) := by decide +kernel
theorem dX8_isSheet_10 : decode cX8_isSheet 10 = .ok (.goto 4, 3) := by decide +kernel
theorem dX8_isSheet_13 : decode cX8_isSheet 13 = .ok (.iconst 0, 1) := by decide +kernel
theorem dX8_isSheet_14 : decode cX8_isSheet 14 = .ok (.ireturn, 1) := by decide +kernel
theorem dX8_sheetFault_0 : decode cX8_sheetFault 0 = .ok (.aload_n 0, 1) := by decide +kernel
theorem dX8_sheetFault_1 : decode cX8_sheetFault 1 = .ok (.iload_n 1, 1) := by decide +kernel
theorem dX8_sheetFault_2 : decode cX8_sheetFault 2 = .ok (.invokevirtual 245, 3) := by decide +kernel
theorem dX8_sheetFault_5 : decode cX8_sheetFault 5 = .ok (.ifCond .ne 6, 3) := by decide +kernel
theorem dX8_sheetFault_8 : decode cX8_sheetFault 8 = .ok (.bipush (-2), 2) := by decide +kernel
theorem dX8_sheetFault_10 : decode cX8_sheetFault 10 = .ok (.ireturn, 1) := by decide +kernel
theorem dX8_sheetFault_11 : decode cX8_sheetFault 11 = .ok (.aload_n 0, 1) := by decide +kernel
theorem dX8_sheetFault_12 : decode cX8_sheetFault 12 = .ok (.iload_n 1, 1) := by decide +kernel
theorem dX8_sheetFault_13 : decode cX8_sheetFault 13 = .ok (.invokevirtual 213, 3) := by decide +kernel
theorem dX8_sheetFault_16 : decode cX8_sheetFault 16 = .ok (.getfield 266, 3) := by decide +kernel
theorem dX8_sheetFault_19 : decode cX8_sheetFault 19 = .ok (.iconst (-1), 1) := by decide +kernel
theorem dX8_sheetFault_20 : decode cX8_sheetFault 20 = .ok (.if_icmp .ne 8, 3) := by decide +kernel
theorem dX8_sheetFault_23 : decode cX8_sheetFault 23 = .ok (.bipush (-11), 2) := by decide +kernel
theorem dX8_sheetFault_25 : decode cX8_sheetFault 25 = .ok (.goto 4, 3) := by decide +kernel
theorem dX8_sheetFault_28 : decode cX8_sheetFault 28 = .ok (.iconst 0, 1) := by decide +kernel
theorem dX8_sheetFault_29 : decode cX8_sheetFault 29 = .ok (.ireturn, 1) := by decide +kernel
theorem dX8_plansFault_0 : decode cX8_plansFault 0 = .ok (.aload_n 0, 1) := by decide +kernel
theorem dX8_plansFault_1 : decode cX8_plansFault 1 = .ok (.iload_n 1, 1) := by decide +kernel
theorem dX8_plansFault_2 : decode cX8_plansFault 2 = .ok (.invokevirtual 260, 3) := by decide +kernel
theorem dX8_plansFault_5 : decode cX8_plansFault 5 = .ok (.istore_n 2, 1) := by decide +kernel
theorem dX8_plansFault_6 : decode cX8_plansFault 6 = .ok (.iload_n 2, 1) := by decide +kernel
theorem dX8_plansFault_7 : decode cX8_plansFault 7 = .ok (.ifCond .eq 5, 3) := by decide +kernel
theorem dX8_plansFault_10 : decode cX8_plansFault 10 = .ok (.iload_n 2, 1) := by decide +kernel
theorem dX8_plansFault_11 : decode cX8_plansFault 11 = .ok (.ireturn, 1) := by decide +kernel
theorem dX8_plansFault_12 : decode cX8_plansFault 12 = .ok (.aload_n 0, 1) := by decide +kernel
theorem dX8_plansFault_13 : decode cX8_plansFault 13 = .ok (.iload_n 1, 1) := by decide +kernel
theorem dX8_plansFault_14 : decode cX8_plansFault 14 = .ok (.invokevirtual 213, 3) := by decide +kernel
theorem dX8_plansFault_17 : decode cX8_plansFault 17 = .ok (.astore_n 3, 1) := by decide +kernel
theorem dX8_plansFault_18 : decode cX8_plansFault 18 = .ok (.aload_n 3, 1) := by decide +kernel
theorem dX8_plansFault_19 : decode cX8_plansFault 19 = .ok (.getfield 289, 3) := by decide +kernel
theorem dX8_plansFault_22 : decode cX8_plansFault 22 = .ok (.aload_n 0, 1) := by decide +kernel
theorem dX8_plansFault_23 : decode cX8_plansFault 23 = .ok (.getfield 10, 3) := by decide +kernel
theorem dX8_plansFault_26 : decode cX8_plansFault 26 = .ok (.getfield 97, 3) := by decide +kernel
theorem dX8_plansFault_29 : decode cX8_plansFault 29 = .ok (.if_icmp .eq 6, 3) := by decide +kernel
theorem dX8_plansFault_32 : decode cX8_plansFault 32 = .ok (.bipush (-2), 2) := by decide +kernel
theorem dX8_plansFault_34 : decode cX8_plansFault 34 = .ok (.ireturn, 1) := by decide +kernel
theorem dX8_plansFault_35 : decode cX8_plansFault 35 = .ok (.iconst 0, 1) := by decide +kernel
theorem dX8_plansFault_36 : decode cX8_plansFault 36 = .ok (.istore 4, 2) := by decide +kernel
theorem dX8_plansFault_38 : decode cX8_plansFault 38 = .ok (.iload 4, 2) := by decide +kernel
theorem dX8_plansFault_40 : decode cX8_plansFault 40 = .ok (.aload_n 3, 1) := by decide +kernel
theorem dX8_plansFault_41 : decode cX8_plansFault 41 = .ok (.getfield 289, 3) := by decide +kernel
theorem dX8_plansFault_44 : decode cX8_plansFault 44 = .ok (.if_icmp .ge 24, 3) := by decide +kernel
theorem dX8_plansFault_47 : decode cX8_plansFault 47 = .ok (.aload_n 3, 1) := by decide +kernel
theorem dX8_plansFault_48 : decode cX8_plansFault 48 = .ok (.iload 4, 2) := by decide +kernel
theorem dX8_plansFault_50 : decode cX8_plansFault 50 = .ok (.invokevirtual 279, 3) := by decide +kernel
theorem dX8_plansFault_53 : decode cX8_plansFault 53 = .ok (.invokestatic 179, 3) := by decide +kernel
theorem dX8_plansFault_56 : decode cX8_plansFault 56 = .ok (.ifCond .ne 6, 3) := by decide +kernel
theorem dX8_plansFault_59 : decode cX8_plansFault 59 = .ok (.bipush (-2), 2) := by decide +kernel
theorem dX8_plansFault_61 : decode cX8_plansFault 61 = .ok (.ireturn, 1) := by decide +kernel
theorem dX8_plansFault_62 : decode cX8_plansFault 62 = .ok (.iinc 4 1, 3) := by decide +kernel
theorem dX8_plansFault_65 : decode cX8_plansFault 65 = .ok (.goto (-27), 3) := by decide +kernel
theorem dX8_plansFault_68 : decode cX8_plansFault 68 = .ok (.iconst 0, 1) := by decide +kernel
theorem dX8_plansFault_69 : decode cX8_plansFault 69 = .ok (.ireturn, 1) := by decide +kernel
theorem dX8_cellsFault_0 : decode cX8_cellsFault 0 = .ok (.aload_n 0, 1) := by decide +kernel
theorem dX8_cellsFault_1 : decode cX8_cellsFault 1 = .ok (.iload_n 1, 1) := by decide +kernel
theorem dX8_cellsFault_2 : decode cX8_cellsFault 2 = .ok (.invokevirtual 260, 3) := by decide +kernel
theorem dX8_cellsFault_5 : decode cX8_cellsFault 5 = .ok (.istore_n 2, 1) := by decide +kernel
theorem dX8_cellsFault_6 : decode cX8_cellsFault 6 = .ok (.iload_n 2, 1) := by decide +kernel
theorem dX8_cellsFault_7 : decode cX8_cellsFault 7 = .ok (.ifCond .eq 5, 3) := by decide +kernel
theorem dX8_cellsFault_10 : decode cX8_cellsFault 10 = .ok (.iload_n 2, 1) := by decide +kernel
theorem dX8_cellsFault_11 : decode cX8_cellsFault 11 = .ok (.ireturn, 1) := by decide +kernel
theorem dX8_cellsFault_12 : decode cX8_cellsFault 12 = .ok (.aload_n 0, 1) := by decide +kernel
theorem dX8_cellsFault_13 : decode cX8_cellsFault 13 = .ok (.iload_n 1, 1) := by decide +kernel
theorem dX8_cellsFault_14 : decode cX8_cellsFault 14 = .ok (.invokevirtual 213, 3) := by decide +kernel
theorem dX8_cellsFault_17 : decode cX8_cellsFault 17 = .ok (.getfield 289, 3) := by decide +kernel
theorem dX8_cellsFault_20 : decode cX8_cellsFault 20 = .ok (.bipush 9, 2) := by decide +kernel
theorem dX8_cellsFault_22 : decode cX8_cellsFault 22 = .ok (.if_icmp .le 8, 3) := by decide +kernel
theorem dX8_cellsFault_25 : decode cX8_cellsFault 25 = .ok (.bipush (-2), 2) := by decide +kernel
theorem dX8_cellsFault_27 : decode cX8_cellsFault 27 = .ok (.goto 4, 3) := by decide +kernel
theorem dX8_cellsFault_30 : decode cX8_cellsFault 30 = .ok (.iconst 0, 1) := by decide +kernel
theorem dX8_cellsFault_31 : decode cX8_cellsFault 31 = .ok (.ireturn, 1) := by decide +kernel
theorem dX8_toldFault_0 : decode cX8_toldFault 0 = .ok (.aload_n 0, 1) := by decide +kernel
theorem dX8_toldFault_1 : decode cX8_toldFault 1 = .ok (.iload_n 1, 1) := by decide +kernel
theorem dX8_toldFault_2 : decode cX8_toldFault 2 = .ok (.invokevirtual 242, 3) := by decide +kernel
theorem dX8_toldFault_5 : decode cX8_toldFault 5 = .ok (.istore 5, 2) := by decide +kernel
theorem dX8_toldFault_7 : decode cX8_toldFault 7 = .ok (.iload 5, 2) := by decide +kernel
theorem dX8_toldFault_9 : decode cX8_toldFault 9 = .ok (.ifCond .eq 6, 3) := by decide +kernel
theorem dX8_toldFault_12 : decode cX8_toldFault 12 = .ok (.iload 5, 2) := by decide +kernel
theorem dX8_toldFault_14 : decode cX8_toldFault 14 = .ok (.ireturn, 1) := by decide +kernel
theorem dX8_toldFault_15 : decode cX8_toldFault 15 = .ok (.aload_n 0, 1) := by decide +kernel
theorem dX8_toldFault_16 : decode cX8_toldFault 16 = .ok (.iload_n 2, 1) := by decide +kernel
theorem dX8_toldFault_17 : decode cX8_toldFault 17 = .ok (.invokevirtual 142, 3) := by decide +kernel
theorem dX8_toldFault_20 : decode cX8_toldFault 20 = .ok (.ifCond .ne 6, 3) := by decide +kernel
theorem dX8_toldFault_23 : decode cX8_toldFault 23 = .ok (.bipush (-5), 2) := by decide +kernel
theorem dX8_toldFault_25 : decode cX8_toldFault 25 = .ok (.ireturn, 1) := by decide +kernel
theorem dX8_toldFault_26 : decode cX8_toldFault 26 = .ok (.iload_n 3, 1) := by decide +kernel
theorem dX8_toldFault_27 : decode cX8_toldFault 27 = .ok (.iload 4, 2) := by decide +kernel
theorem dX8_toldFault_29 : decode cX8_toldFault 29 = .ok (.invokestatic 145, 3) := by decide +kernel
theorem dX8_toldFault_32 : decode cX8_toldFault 32 = .ok (.ifCond .eq 7, 3) := by decide +kernel
theorem dX8_toldFault_35 : decode cX8_toldFault 35 = .ok (.iconst 0, 1) := by decide +kernel
theorem dX8_toldFault_36 : decode cX8_toldFault 36 = .ok (.goto 5, 3) := by decide +kernel
theorem dX8_toldFault_39 : decode cX8_toldFault 39 = .ok (.bipush (-7), 2) := by decide +kernel
theorem dX8_toldFault_41 : decode cX8_toldFault 41 = .ok (.ireturn, 1) := by decide +kernel
theorem dX8_sheetAt_0 : decode cX8_sheetAt 0 = .ok (.aload_n 0, 1) := by decide +kernel
theorem dX8_sheetAt_1 : decode cX8_sheetAt 1 = .ok (.getfield 44, 3) := by decide +kernel
theorem dX8_sheetAt_4 : decode cX8_sheetAt 4 = .ok (.iload_n 1, 1) := by decide +kernel
theorem dX8_sheetAt_5 : decode cX8_sheetAt 5 = .ok (.ifCond .lt 16, 3) := by decide +kernel
theorem dX8_sheetAt_8 : decode cX8_sheetAt 8 = .ok (.iload_n 1, 1) := by decide +kernel
theorem dX8_sheetAt_9 : decode cX8_sheetAt 9 = .ok (.aload_n 0, 1) := by decide +kernel
theorem dX8_sheetAt_10 : decode cX8_sheetAt 10 = .ok (.getfield 44, 3) := by decide +kernel
theorem dX8_sheetAt_13 : decode cX8_sheetAt 13 = .ok (.arraylength, 1) := by decide +kernel
theorem dX8_sheetAt_14 : decode cX8_sheetAt 14 = .ok (.if_icmp .ge 7, 3) := by decide +kernel
theorem dX8_sheetAt_17 : decode cX8_sheetAt 17 = .ok (.iload_n 1, 1) := by decide +kernel
theorem dX8_sheetAt_18 : decode cX8_sheetAt 18 = .ok (.goto 4, 3) := by decide +kernel
theorem dX8_sheetAt_21 : decode cX8_sheetAt 21 = .ok (.iconst 0, 1) := by decide +kernel
theorem dX8_sheetAt_22 : decode cX8_sheetAt 22 = .ok (.aaload, 1) := by decide +kernel
theorem dX8_sheetAt_23 : decode cX8_sheetAt 23 = .ok (.areturn, 1) := by decide +kernel
theorem dX8_textAt_0 : decode cX8_textAt 0 = .ok (.aload_n 0, 1) := by decide +kernel
theorem dX8_textAt_1 : decode cX8_textAt 1 = .ok (.getfield 38, 3) := by decide +kernel
theorem dX8_textAt_4 : decode cX8_textAt 4 = .ok (.iload_n 1, 1) := by decide +kernel
theorem dX8_textAt_5 : decode cX8_textAt 5 = .ok (.ifCond .lt 16, 3) := by decide +kernel
theorem dX8_textAt_8 : decode cX8_textAt 8 = .ok (.iload_n 1, 1) := by decide +kernel
theorem dX8_textAt_9 : decode cX8_textAt 9 = .ok (.aload_n 0, 1) := by decide +kernel
theorem dX8_textAt_10 : decode cX8_textAt 10 = .ok (.getfield 38, 3) := by decide +kernel
theorem dX8_textAt_13 : decode cX8_textAt 13 = .ok (.arraylength, 1) := by decide +kernel
theorem dX8_textAt_14 : decode cX8_textAt 14 = .ok (.if_icmp .ge 7, 3) := by decide +kernel
theorem dX8_textAt_17 : decode cX8_textAt 17 = .ok (.iload_n 1, 1) := by decide +kernel
theorem dX8_textAt_18 : decode cX8_textAt 18 = .ok (.goto 4, 3) := by decide +kernel
theorem dX8_textAt_21 : decode cX8_textAt 21 = .ok (.iconst 0, 1) := by decide +kernel
theorem dX8_textAt_22 : decode cX8_textAt 22 = .ok (.aaload, 1) := by decide +kernel
theorem dX8_textAt_23 : decode cX8_textAt 23 = .ok (.areturn, 1) := by decide +kernel
theorem dX8_theLaw_0 : decode cX8_theLaw 0 = .ok (.aload_n 0, 1) := by decide +kernel
theorem dX8_theLaw_1 : decode cX8_theLaw 1 = .ok (.aload_n 0, 1) := by decide +kernel
theorem dX8_theLaw_2 : decode cX8_theLaw 2 = .ok (.getfield 10, 3) := by decide +kernel
theorem dX8_theLaw_5 : decode cX8_theLaw 5 = .ok (.getfield 103, 3) := by decide +kernel
theorem dX8_theLaw_8 : decode cX8_theLaw 8 = .ok (.invokevirtual 111, 3) := by decide +kernel
theorem dX8_theLaw_11 : decode cX8_theLaw 11 = .ok (.areturn, 1) := by decide +kernel
theorem dX8_theOne_0 : decode cX8_theOne 0 = .ok (.aload_n 0, 1) := by decide +kernel
theorem dX8_theOne_1 : decode cX8_theOne 1 = .ok (.getfield 10, 3) := by decide +kernel
theorem dX8_theOne_4 : decode cX8_theOne 4 = .ok (.iload_n 1, 1) := by decide +kernel
theorem dX8_theOne_5 : decode cX8_theOne 5 = .ok (.bipush 10, 2) := by decide +kernel
theorem dX8_theOne_7 : decode cX8_theOne 7 = .ok (.idiv, 1) := by decide +kernel
theorem dX8_theOne_8 : decode cX8_theOne 8 = .ok (.invokevirtual 122, 3) := by decide +kernel
theorem dX8_theOne_11 : decode cX8_theOne 11 = .ok (.areturn, 1) := by decide +kernel
theorem dX8_theOther_0 : decode cX8_theOther 0 = .ok (.aload_n 0, 1) := by decide +kernel
theorem dX8_theOther_1 : decode cX8_theOther 1 = .ok (.getfield 10, 3) := by decide +kernel
theorem dX8_theOther_4 : decode cX8_theOther 4 = .ok (.iload_n 1, 1) := by decide +kernel
theorem dX8_theOther_5 : decode cX8_theOther 5 = .ok (.bipush 10, 2) := by decide +kernel
theorem dX8_theOther_7 : decode cX8_theOther 7 = .ok (.irem, 1) := by decide +kernel
theorem dX8_theOther_8 : decode cX8_theOther 8 = .ok (.invokevirtual 122, 3) := by decide +kernel
theorem dX8_theOther_11 : decode cX8_theOther 11 = .ok (.areturn, 1) := by decide +kernel
theorem dX8_pairUp_0 : decode cX8_pairUp 0 = .ok (.aload_n 0, 1) := by decide +kernel
theorem dX8_pairUp_1 : decode cX8_pairUp 1 = .ok (.getfield 60, 3) := by decide +kernel
theorem dX8_pairUp_4 : decode cX8_pairUp 4 = .ok (.aload_n 0, 1) := by decide +kernel
theorem dX8_pairUp_5 : decode cX8_pairUp 5 = .ok (.getfield 10, 3) := by decide +kernel
theorem dX8_pairUp_8 : decode cX8_pairUp 8 = .ok (.iload_n 1, 1) := by decide +kernel
theorem dX8_pairUp_9 : decode cX8_pairUp 9 = .ok (.invokevirtual 122, 3) := by decide +kernel
theorem dX8_pairUp_12 : decode cX8_pairUp 12 = .ok (.aload_n 0, 1) := by decide +kernel
theorem dX8_pairUp_13 : decode cX8_pairUp 13 = .ok (.getfield 10, 3) := by decide +kernel
theorem dX8_pairUp_16 : decode cX8_pairUp 16 = .ok (.iload_n 2, 1) := by decide +kernel
theorem dX8_pairUp_17 : decode cX8_pairUp 17 = .ok (.invokevirtual 122, 3) := by decide +kernel
theorem dX8_pairUp_20 : decode cX8_pairUp 20 = .ok (.aload_n 0, 1) := by decide +kernel
theorem dX8_pairUp_21 : decode cX8_pairUp 21 = .ok (.invokevirtual 118, 3) := by decide +kernel
theorem dX8_pairUp_24 : decode cX8_pairUp 24 = .ok (.invokevirtual 155, 3) := by decide +kernel
theorem dX8_pairUp_27 : decode cX8_pairUp 27 = .ok (.return_, 1) := by decide +kernel
theorem dX8_winnerOf_0 : decode cX8_winnerOf 0 = .ok (.aload_n 0, 1) := by decide +kernel
theorem dX8_winnerOf_1 : decode cX8_winnerOf 1 = .ok (.getfield 60, 3) := by decide +kernel
theorem dX8_winnerOf_4 : decode cX8_winnerOf 4 = .ok (.getfield 188, 3) := by decide +kernel
theorem dX8_winnerOf_7 : decode cX8_winnerOf 7 = .ok (.ifCond .ne 5, 3) := by decide +kernel
theorem dX8_winnerOf_10 : decode cX8_winnerOf 10 = .ok (.iconst (-1), 1) := by decide +kernel
theorem dX8_winnerOf_11 : decode cX8_winnerOf 11 = .ok (.ireturn, 1) := by decide +kernel
theorem dX8_winnerOf_12 : decode cX8_winnerOf 12 = .ok (.aload_n 0, 1) := by decide +kernel
theorem dX8_winnerOf_13 : decode cX8_winnerOf 13 = .ok (.getfield 60, 3) := by decide +kernel
theorem dX8_winnerOf_16 : decode cX8_winnerOf 16 = .ok (.getfield 188, 3) := by decide +kernel
theorem dX8_winnerOf_19 : decode cX8_winnerOf 19 = .ok (.ifCond .le 7, 3) := by decide +kernel
theorem dX8_winnerOf_22 : decode cX8_winnerOf 22 = .ok (.iload_n 1, 1) := by decide +kernel
theorem dX8_winnerOf_23 : decode cX8_winnerOf 23 = .ok (.goto 4, 3) := by decide +kernel
theorem dX8_winnerOf_26 : decode cX8_winnerOf 26 = .ok (.iload_n 2, 1) := by decide +kernel
theorem dX8_winnerOf_27 : decode cX8_winnerOf 27 = .ok (.ireturn, 1) := by decide +kernel
theorem dX8_clash_0 : decode cX8_clash 0 = .ok (.aload_n 0, 1) := by decide +kernel
theorem dX8_clash_1 : decode cX8_clash 1 = .ok (.getfield 60, 3) := by decide +kernel
theorem dX8_clash_4 : decode cX8_clash 4 = .ok (.aload_n 1, 1) := by decide +kernel
theorem dX8_clash_5 : decode cX8_clash 5 = .ok (.aload_n 2, 1) := by decide +kernel
theorem dX8_clash_6 : decode cX8_clash 6 = .ok (.aload_n 0, 1) := by decide +kernel
theorem dX8_clash_7 : decode cX8_clash 7 = .ok (.invokevirtual 118, 3) := by decide +kernel
theorem dX8_clash_10 : decode cX8_clash 10 = .ok (.invokevirtual 155, 3) := by decide +kernel
theorem dX8_clash_13 : decode cX8_clash 13 = .ok (.aload_n 0, 1) := by decide +kernel
theorem dX8_clash_14 : decode cX8_clash 14 = .ok (.getfield 60, 3) := by decide +kernel
theorem dX8_clash_17 : decode cX8_clash 17 = .ok (.iload_n 3, 1) := by decide +kernel
theorem dX8_clash_18 : decode cX8_clash 18 = .ok (.iload 4, 2) := by decide +kernel
theorem dX8_clash_20 : decode cX8_clash 20 = .ok (.invokevirtual 159, 3) := by decide +kernel
theorem dX8_clash_23 : decode cX8_clash 23 = .ok (.aload_n 0, 1) := by decide +kernel
theorem dX8_clash_24 : decode cX8_clash 24 = .ok (.getfield 60, 3) := by decide +kernel
theorem dX8_clash_27 : decode cX8_clash 27 = .ok (.getfield 188, 3) := by decide +kernel
theorem dX8_clash_30 : decode cX8_clash 30 = .ok (.ifCond .ne 4, 3) := by decide +kernel
theorem dX8_clash_33 : decode cX8_clash 33 = .ok (.return_, 1) := by decide +kernel
theorem dX8_clash_34 : decode cX8_clash 34 = .ok (.aload_n 0, 1) := by decide +kernel
theorem dX8_clash_35 : decode cX8_clash 35 = .ok (.getfield 60, 3) := by decide +kernel
theorem dX8_clash_38 : decode cX8_clash 38 = .ok (.getfield 188, 3) := by decide +kernel
theorem dX8_clash_41 : decode cX8_clash 41 = .ok (.ifCond .le 7, 3) := by decide +kernel
theorem dX8_clash_44 : decode cX8_clash 44 = .ok (.aload_n 1, 1) := by decide +kernel
theorem dX8_clash_45 : decode cX8_clash 45 = .ok (.goto 4, 3) := by decide +kernel
theorem dX8_clash_48 : decode cX8_clash 48 = .ok (.aload_n 2, 1) := by decide +kernel
theorem dX8_clash_49 : decode cX8_clash 49 = .ok (.astore 5, 2) := by decide +kernel
theorem dX8_clash_51 : decode cX8_clash 51 = .ok (.aload_n 0, 1) := by decide +kernel
theorem dX8_clash_52 : decode cX8_clash 52 = .ok (.getfield 60, 3) := by decide +kernel
theorem dX8_clash_55 : decode cX8_clash 55 = .ok (.getfield 188, 3) := by decide +kernel
theorem dX8_clash_58 : decode cX8_clash 58 = .ok (.ifCond .le 7, 3) := by decide +kernel
theorem dX8_clash_61 : decode cX8_clash 61 = .ok (.aload_n 2, 1) := by decide +kernel
theorem dX8_clash_62 : decode cX8_clash 62 = .ok (.goto 4, 3) := by decide +kernel
theorem dX8_clash_65 : decode cX8_clash 65 = .ok (.aload_n 1, 1) := by decide +kernel
theorem dX8_clash_66 : decode cX8_clash 66 = .ok (.astore 6, 2) := by decide +kernel
theorem dX8_clash_68 : decode cX8_clash 68 = .ok (.aload 5, 2) := by decide +kernel
theorem dX8_clash_70 : decode cX8_clash 70 = .ok (.sipush 999, 3) := by decide +kernel
theorem dX8_clash_73 : decode cX8_clash 73 = .ok (.aload 5, 2) := by decide +kernel
theorem dX8_clash_75 : decode cX8_clash 75 = .ok (.getfield 227, 3) := by decide +kernel
theorem dX8_clash_78 : decode cX8_clash 78 = .ok (.iconst 1, 1) := by decide +kernel
theorem dX8_clash_79 : decode cX8_clash 79 = .ok (.iadd, 1) := by decide +kernel
theorem dX8_clash_80 : decode cX8_clash 80 = .ok (.invokestatic 290, 3) := by decide +kernel
theorem dX8_clash_83 : decode cX8_clash 83 = .ok (.putfield 227, 3) := by decide +kernel
theorem dX8_clash_86 : decode cX8_clash 86 = .ok (.aload 6, 2) := by decide +kernel
theorem dX8_clash_88 : decode cX8_clash 88 = .ok (.sipush 999, 3) := by decide +kernel
theorem dX8_clash_91 : decode cX8_clash 91 = .ok (.aload 6, 2) := by decide +kernel
theorem dX8_clash_93 : decode cX8_clash 93 = .ok (.getfield 295, 3) := by decide +kernel
theorem dX8_clash_96 : decode cX8_clash 96 = .ok (.iconst 1, 1) := by decide +kernel
theorem dX8_clash_97 : decode cX8_clash 97 = .ok (.iadd, 1) := by decide +kernel
theorem dX8_clash_98 : decode cX8_clash 98 = .ok (.invokestatic 290, 3) := by decide +kernel
theorem dX8_clash_101 : decode cX8_clash 101 = .ok (.putfield 295, 3) := by decide +kernel
theorem dX8_clash_104 : decode cX8_clash 104 = .ok (.aload_n 0, 1) := by decide +kernel
theorem dX8_clash_105 : decode cX8_clash 105 = .ok (.getfield 60, 3) := by decide +kernel
theorem dX8_clash_108 : decode cX8_clash 108 = .ok (.getfield 169, 3) := by decide +kernel
theorem dX8_clash_111 : decode cX8_clash 111 = .ok (.iconst 5, 1) := by decide +kernel
theorem dX8_clash_112 : decode cX8_clash 112 = .ok (.if_icmp .ge 20, 3) := by decide +kernel
theorem dX8_clash_115 : decode cX8_clash 115 = .ok (.aload 6, 2) := by decide +kernel
theorem dX8_clash_117 : decode cX8_clash 117 = .ok (.bipush 9, 2) := by decide +kernel
theorem dX8_clash_119 : decode cX8_clash 119 = .ok (.aload 6, 2) := by decide +kernel
theorem dX8_clash_121 : decode cX8_clash 121 = .ok (.getfield 204, 3) := by decide +kernel
theorem dX8_clash_124 : decode cX8_clash 124 = .ok (.iconst 1, 1) := by decide +kernel
theorem dX8_clash_125 : decode cX8_clash 125 = .ok (.iadd, 1) := by decide +kernel
theorem dX8_clash_126 : decode cX8_clash 126 = .ok (.invokestatic 290, 3) := by decide +kernel
theorem dX8_clash_129 : decode cX8_clash 129 = .ok (.putfield 204, 3) := by decide +kernel
theorem dX8_clash_132 : decode cX8_clash 132 = .ok (.return_, 1) := by decide +kernel
theorem dX8_passDays_0 : decode cX8_passDays 0 = .ok (.iconst 0, 1) := by decide +kernel
theorem dX8_passDays_1 : decode cX8_passDays 1 = .ok (.istore 4, 2) := by decide +kernel
theorem dX8_passDays_3 : decode cX8_passDays 3 = .ok (.iload 4, 2) := by decide +kernel
theorem dX8_passDays_5 : decode cX8_passDays 5 = .ok (.iload_n 3, 1) := by decide +kernel
theorem dX8_passDays_6 : decode cX8_passDays 6 = .ok (.if_icmp .ge 76, 3) := by decide +kernel
theorem dX8_passDays_9 : decode cX8_passDays 9 = .ok (.iconst 0, 1) := by decide +kernel
theorem dX8_passDays_10 : decode cX8_passDays 10 = .ok (.istore 5, 2) := by decide +kernel
theorem dX8_passDays_12 : decode cX8_passDays 12 = .ok (.iload 5, 2) := by decide +kernel
theorem dX8_passDays_14 : decode cX8_passDays 14 = .ok (.aload_n 1, 1) := by decide +kernel
theorem dX8_passDays_15 : decode cX8_passDays 15 = .ok (.getfield 97, 3) := by decide +kernel
theorem dX8_passDays_18 : decode cX8_passDays 18 = .ok (.if_icmp .ge 58, 3) := by decide +kernel
theorem dX8_passDays_21 : decode cX8_passDays 21 = .ok (.iload 5, 2) := by decide +kernel
theorem dX8_passDays_23 : decode cX8_passDays 23 = .ok (.iconst 1, 1) := by decide +kernel
theorem dX8_passDays_24 : decode cX8_passDays 24 = .ok (.iadd, 1) := by decide +kernel
theorem dX8_passDays_25 : decode cX8_passDays 25 = .ok (.istore 6, 2) := by decide +kernel
theorem dX8_passDays_27 : decode cX8_passDays 27 = .ok (.iload 6, 2) := by decide +kernel
theorem dX8_passDays_29 : decode cX8_passDays 29 = .ok (.aload_n 1, 1) := by decide +kernel
theorem dX8_passDays_30 : decode cX8_passDays 30 = .ok (.getfield 97, 3) := by decide +kernel
theorem dX8_passDays_33 : decode cX8_passDays 33 = .ok (.if_icmp .ge 37, 3) := by decide +kernel
theorem dX8_passDays_36 : decode cX8_passDays 36 = .ok (.aload_n 0, 1) := by decide +kernel
theorem dX8_passDays_37 : decode cX8_passDays 37 = .ok (.aload_n 1, 1) := by decide +kernel
theorem dX8_passDays_38 : decode cX8_passDays 38 = .ok (.iload 5, 2) := by decide +kernel
theorem dX8_passDays_40 : decode cX8_passDays 40 = .ok (.invokevirtual 122, 3) := by decide +kernel
theorem dX8_passDays_43 : decode cX8_passDays 43 = .ok (.aload_n 1, 1) := by decide +kernel
theorem dX8_passDays_44 : decode cX8_passDays 44 = .ok (.iload 6, 2) := by decide +kernel
theorem dX8_passDays_46 : decode cX8_passDays 46 = .ok (.invokevirtual 122, 3) := by decide +kernel
theorem dX8_passDays_49 : decode cX8_passDays 49 = .ok (.aload_n 2, 1) := by decide +kernel
theorem dX8_passDays_50 : decode cX8_passDays 50 = .ok (.iload 5, 2) := by decide +kernel
theorem dX8_passDays_52 : decode cX8_passDays 52 = .ok (.invokevirtual 279, 3) := by decide +kernel
theorem dX8_passDays_55 : decode cX8_passDays 55 = .ok (.aload_n 2, 1) := by decide +kernel
theorem dX8_passDays_56 : decode cX8_passDays 56 = .ok (.iload 6, 2) := by decide +kernel
theorem dX8_passDays_58 : decode cX8_passDays 58 = .ok (.invokevirtual 279, 3) := by decide +kernel
theorem dX8_passDays_61 : decode cX8_passDays 61 = .ok (.invokevirtual 175, 3) := by decide +kernel
theorem dX8_passDays_64 : decode cX8_passDays 64 = .ok (.iinc 6 1, 3) := by decide +kernel
theorem dX8_passDays_67 : decode cX8_passDays 67 = .ok (.goto (-40), 3) := by decide +kernel
theorem dX8_passDays_70 : decode cX8_passDays 70 = .ok (.iinc 5 1, 3) := by decide +kernel
theorem dX8_passDays_73 : decode cX8_passDays 73 = .ok (.goto (-61), 3) := by decide +kernel
theorem dX8_passDays_76 : decode cX8_passDays 76 = .ok (.iinc 4 1, 3) := by decide +kernel
theorem dX8_passDays_79 : decode cX8_passDays 79 = .ok (.goto (-76), 3) := by decide +kernel
theorem dX8_passDays_82 : decode cX8_passDays 82 = .ok (.aload_n 1, 1) := by decide +kernel
theorem dX8_passDays_83 : decode cX8_passDays 83 = .ok (.dup, 1) := by decide +kernel
theorem dX8_passDays_84 : decode cX8_passDays 84 = .ok (.getfield 100, 3) := by decide +kernel
theorem dX8_passDays_87 : decode cX8_passDays 87 = .ok (.iload_n 3, 1) := by decide +kernel
theorem dX8_passDays_88 : decode cX8_passDays 88 = .ok (.iadd, 1) := by decide +kernel
theorem dX8_passDays_89 : decode cX8_passDays 89 = .ok (.putfield 100, 3) := by decide +kernel
theorem dX8_passDays_92 : decode cX8_passDays 92 = .ok (.return_, 1) := by decide +kernel
theorem dX8_shortPlans_0 : decode cX8_shortPlans 0 = .ok (.iconst 1, 1) := by decide +kernel
theorem dX8_shortPlans_1 : decode cX8_shortPlans 1 = .ok (.iconst 2, 1) := by decide +kernel
theorem dX8_shortPlans_2 : decode cX8_shortPlans 2 = .ok (.iload_n 0, 1) := by decide +kernel
theorem dX8_shortPlans_3 : decode cX8_shortPlans 3 = .ok (.imul, 1) := by decide +kernel
theorem dX8_shortPlans_4 : decode cX8_shortPlans 4 = .ok (.ishl, 1) := by decide +kernel
theorem dX8_shortPlans_5 : decode cX8_shortPlans 5 = .ok (.ireturn, 1) := by decide +kernel
theorem dX8_wholePlan_0 : decode cX8_wholePlan 0 = .ok (.iconst 0, 1) := by decide +kernel
theorem dX8_wholePlan_1 : decode cX8_wholePlan 1 = .ok (.istore_n 2, 1) := by decide +kernel
theorem dX8_wholePlan_2 : decode cX8_wholePlan 2 = .ok (.iconst 0, 1) := by decide +kernel
theorem dX8_wholePlan_3 : decode cX8_wholePlan 3 = .ok (.istore_n 3, 1) := by decide +kernel
theorem dX8_wholePlan_4 : decode cX8_wholePlan 4 = .ok (.iload_n 3, 1) := by decide +kernel
theorem dX8_wholePlan_5 : decode cX8_wholePlan 5 = .ok (.bipush 9, 2) := by decide +kernel
theorem dX8_wholePlan_7 : decode cX8_wholePlan 7 = .ok (.if_icmp .ge 27, 3) := by decide +kernel
theorem dX8_wholePlan_10 : decode cX8_wholePlan 10 = .ok (.iload_n 2, 1) := by decide +kernel
theorem dX8_wholePlan_11 : decode cX8_wholePlan 11 = .ok (.iload_n 0, 1) := by decide +kernel
theorem dX8_wholePlan_12 : decode cX8_wholePlan 12 = .ok (.iload_n 3, 1) := by decide +kernel
theorem dX8_wholePlan_13 : decode cX8_wholePlan 13 = .ok (.iload_n 1, 1) := by decide +kernel
theorem dX8_wholePlan_14 : decode cX8_wholePlan 14 = .ok (.iconst 1, 1) := by decide +kernel
theorem dX8_wholePlan_15 : decode cX8_wholePlan 15 = .ok (.isub, 1) := by decide +kernel
theorem dX8_wholePlan_16 : decode cX8_wholePlan 16 = .ok (.invokestatic 290, 3) := by decide +kernel
theorem dX8_wholePlan_19 : decode cX8_wholePlan 19 = .ok (.invokestatic 298, 3) := by decide +kernel
theorem dX8_wholePlan_22 : decode cX8_wholePlan 22 = .ok (.iconst 2, 1) := by decide +kernel
theorem dX8_wholePlan_23 : decode cX8_wholePlan 23 = .ok (.iload_n 3, 1) := by decide +kernel
theorem dX8_wholePlan_24 : decode cX8_wholePlan 24 = .ok (.imul, 1) := by decide +kernel
theorem dX8_wholePlan_25 : decode cX8_wholePlan 25 = .ok (.ishl, 1) := by decide +kernel
theorem dX8_wholePlan_26 : decode cX8_wholePlan 26 = .ok (.ior, 1) := by decide +kernel
theorem dX8_wholePlan_27 : decode cX8_wholePlan 27 = .ok (.istore_n 2, 1) := by decide +kernel
theorem dX8_wholePlan_28 : decode cX8_wholePlan 28 = .ok (.iinc 3 1, 3) := by decide +kernel
theorem dX8_wholePlan_31 : decode cX8_wholePlan 31 = .ok (.goto (-27), 3) := by decide +kernel
theorem dX8_wholePlan_34 : decode cX8_wholePlan 34 = .ok (.iload_n 2, 1) := by decide +kernel
theorem dX8_wholePlan_35 : decode cX8_wholePlan 35 = .ok (.ireturn, 1) := by decide +kernel
theorem dX8_actIn_0 : decode cX8_actIn 0 = .ok (.iload_n 0, 1) := by decide +kernel
theorem dX8_actIn_1 : decode cX8_actIn 1 = .ok (.iconst 2, 1) := by decide +kernel
theorem dX8_actIn_2 : decode cX8_actIn 2 = .ok (.iload_n 1, 1) := by decide +kernel
theorem dX8_actIn_3 : decode cX8_actIn 3 = .ok (.imul, 1) := by decide +kernel
theorem dX8_actIn_4 : decode cX8_actIn 4 = .ok (.ishr, 1) := by decide +kernel
theorem dX8_actIn_5 : decode cX8_actIn 5 = .ok (.iconst 3, 1) := by decide +kernel
theorem dX8_actIn_6 : decode cX8_actIn 6 = .ok (.iand, 1) := by decide +kernel
theorem dX8_actIn_7 : decode cX8_actIn 7 = .ok (.ireturn, 1) := by decide +kernel
theorem dX8_winsAgainstAll_0 : decode cX8_winsAgainstAll 0 = .ok (.iload_n 1, 1) := by decide +kernel
theorem dX8_winsAgainstAll_1 : decode cX8_winsAgainstAll 1 = .ok (.iload_n 2, 1) := by decide +kernel
theorem dX8_winsAgainstAll_2 : decode cX8_winsAgainstAll 2 = .ok (.invokestatic 185, 3) := by decide +kernel
theorem dX8_winsAgainstAll_5 : decode cX8_winsAgainstAll 5 = .ok (.istore_n 3, 1) := by decide +kernel
theorem dX8_winsAgainstAll_6 : decode cX8_winsAgainstAll 6 = .ok (.iconst 0, 1) := by decide +kernel
theorem dX8_winsAgainstAll_7 : decode cX8_winsAgainstAll 7 = .ok (.istore 4, 2) := by decide +kernel
theorem dX8_winsAgainstAll_9 : decode cX8_winsAgainstAll 9 = .ok (.iconst 0, 1) := by decide +kernel
theorem dX8_winsAgainstAll_10 : decode cX8_winsAgainstAll 10 = .ok (.istore 5, 2) := by decide +kernel
theorem dX8_winsAgainstAll_12 : decode cX8_winsAgainstAll 12 = .ok (.iload 5, 2) := by decide +kernel
theorem dX8_winsAgainstAll_14 : decode cX8_winsAgainstAll 14 = .ok (.iload_n 2, 1) := by decide +kernel
theorem dX8_winsAgainstAll_15 : decode cX8_winsAgainstAll 15 = .ok (.invokestatic 182, 3) := by decide +kernel
theorem dX8_winsAgainstAll_18 : decode cX8_winsAgainstAll 18 = .ok (.if_icmp .ge 43, 3) := by decide +kernel
theorem dX8_winsAgainstAll_21 : decode cX8_winsAgainstAll 21 = .ok (.aload_n 0, 1) := by decide +kernel
theorem dX8_winsAgainstAll_22 : decode cX8_winsAgainstAll 22 = .ok (.getfield 60, 3) := by decide +kernel
theorem dX8_winsAgainstAll_25 : decode cX8_winsAgainstAll 25 = .ok (.iload_n 3, 1) := by decide +kernel
theorem dX8_winsAgainstAll_26 : decode cX8_winsAgainstAll 26 = .ok (.iload 5, 2) := by decide +kernel
theorem dX8_winsAgainstAll_28 : decode cX8_winsAgainstAll 28 = .ok (.iload_n 2, 1) := by decide +kernel
theorem dX8_winsAgainstAll_29 : decode cX8_winsAgainstAll 29 = .ok (.invokestatic 185, 3) := by decide +kernel
theorem dX8_winsAgainstAll_32 : decode cX8_winsAgainstAll 32 = .ok (.invokevirtual 159, 3) := by decide +kernel
theorem dX8_winsAgainstAll_35 : decode cX8_winsAgainstAll 35 = .ok (.iload 4, 2) := by decide +kernel
theorem dX8_winsAgainstAll_37 : decode cX8_winsAgainstAll 37 = .ok (.aload_n 0, 1) := by decide +kernel
theorem dX8_winsAgainstAll_38 : decode cX8_winsAgainstAll 38 = .ok (.getfield 60, 3) := by decide +kernel
theorem dX8_winsAgainstAll_41 : decode cX8_winsAgainstAll 41 = .ok (.getfield 188, 3) := by decide +kernel
theorem dX8_winsAgainstAll_44 : decode cX8_winsAgainstAll 44 = .ok (.ifCond .le 7, 3) := by decide +kernel
theorem dX8_winsAgainstAll_47 : decode cX8_winsAgainstAll 47 = .ok (.iconst 1, 1) := by decide +kernel
theorem dX8_winsAgainstAll_48 : decode cX8_winsAgainstAll 48 = .ok (.goto 4, 3) := by decide +kernel
theorem dX8_winsAgainstAll_51 : decode cX8_winsAgainstAll 51 = .ok (.iconst 0, 1) := by decide +kernel
theorem dX8_winsAgainstAll_52 : decode cX8_winsAgainstAll 52 = .ok (.iadd, 1) := by decide +kernel
theorem dX8_winsAgainstAll_53 : decode cX8_winsAgainstAll 53 = .ok (.istore 4, 2) := by decide +kernel
theorem dX8_winsAgainstAll_55 : decode cX8_winsAgainstAll 55 = .ok (.iinc 5 1, 3) := by decide +kernel
theorem dX8_winsAgainstAll_58 : decode cX8_winsAgainstAll 58 = .ok (.goto (-46), 3) := by decide +kernel
theorem dX8_winsAgainstAll_61 : decode cX8_winsAgainstAll 61 = .ok (.iload 4, 2) := by decide +kernel
theorem dX8_winsAgainstAll_63 : decode cX8_winsAgainstAll 63 = .ok (.ireturn, 1) := by decide +kernel
theorem dX8_goThroughByLots_0 : decode cX8_goThroughByLots 0 = .ok (.iload_n 1, 1) := by decide +kernel
theorem dX8_goThroughByLots_1 : decode cX8_goThroughByLots 1 = .ok (.iconst 1, 1) := by decide +kernel
theorem dX8_goThroughByLots_2 : decode cX8_goThroughByLots 2 = .ok (.iadd, 1) := by decide +kernel
theorem dX8_goThroughByLots_3 : decode cX8_goThroughByLots 3 = .ok (.i2l, 1) := by decide +kernel
theorem dX8_goThroughByLots_4 : decode cX8_goThroughByLots 4 = .ok (.ldc2_w 301, 3) := by decide +kernel
theorem dX8_goThroughByLots_7 : decode cX8_goThroughByLots 7 = .ok (.lmul, 1) := by decide +kernel
theorem dX8_goThroughByLots_8 : decode cX8_goThroughByLots 8 = .ok (.ldc2_w 303, 3) := by decide +kernel
theorem dX8_goThroughByLots_11 : decode cX8_goThroughByLots 11 = .ok (.lrem, 1) := by decide +kernel
theorem dX8_goThroughByLots_12 : decode cX8_goThroughByLots 12 = .ok (.lstore_n 2, 1) := by decide +kernel
theorem dX8_goThroughByLots_13 : decode cX8_goThroughByLots 13 = .ok (.lload_n 2, 1) := by decide +kernel
theorem dX8_goThroughByLots_14 : decode cX8_goThroughByLots 14 = .ok (.ldc2_w 301, 3) := by decide +kernel
theorem dX8_goThroughByLots_17 : decode cX8_goThroughByLots 17 = .ok (.lmul, 1) := by decide +kernel
theorem dX8_goThroughByLots_18 : decode cX8_goThroughByLots 18 = .ok (.ldc2_w 303, 3) := by decide +kernel
theorem dX8_goThroughByLots_21 : decode cX8_goThroughByLots 21 = .ok (.lrem, 1) := by decide +kernel
theorem dX8_goThroughByLots_22 : decode cX8_goThroughByLots 22 = .ok (.lstore 4, 2) := by decide +kernel
theorem dX8_goThroughByLots_24 : decode cX8_goThroughByLots 24 = .ok (.aload_n 0, 1) := by decide +kernel
theorem dX8_goThroughByLots_25 : decode cX8_goThroughByLots 25 = .ok (.getfield 60, 3) := by decide +kernel
theorem dX8_goThroughByLots_28 : decode cX8_goThroughByLots 28 = .ok (.lload_n 2, 1) := by decide +kernel
theorem dX8_goThroughByLots_29 : decode cX8_goThroughByLots 29 = .ok (.ldc2_w 305, 3) := by decide +kernel
theorem dX8_goThroughByLots_32 : decode cX8_goThroughByLots 32 = .ok (.lrem, 1) := by decide +kernel
theorem dX8_goThroughByLots_33 : decode cX8_goThroughByLots 33 = .ok (.l2i, 1) := by decide +kernel
theorem dX8_goThroughByLots_34 : decode cX8_goThroughByLots 34 = .ok (.lload 4, 2) := by decide +kernel
theorem dX8_goThroughByLots_36 : decode cX8_goThroughByLots 36 = .ok (.ldc2_w 305, 3) := by decide +kernel
theorem dX8_goThroughByLots_39 : decode cX8_goThroughByLots 39 = .ok (.lrem, 1) := by decide +kernel
theorem dX8_goThroughByLots_40 : decode cX8_goThroughByLots 40 = .ok (.l2i, 1) := by decide +kernel
theorem dX8_goThroughByLots_41 : decode cX8_goThroughByLots 41 = .ok (.invokevirtual 159, 3) := by decide +kernel
theorem dX8_goThroughByLots_44 : decode cX8_goThroughByLots 44 = .ok (.return_, 1) := by decide +kernel
theorem dX8_wouldBeSo_0 : decode cX8_wouldBeSo 0 = .ok (.aload_n 0, 1) := by decide +kernel
theorem dX8_wouldBeSo_1 : decode cX8_wouldBeSo 1 = .ok (.getfield 25, 3) := by decide +kernel
theorem dX8_wouldBeSo_4 : decode cX8_wouldBeSo 4 = .ok (.aload_n 0, 1) := by decide +kernel
theorem dX8_wouldBeSo_5 : decode cX8_wouldBeSo 5 = .ok (.iload_n 2, 1) := by decide +kernel
theorem dX8_wouldBeSo_6 : decode cX8_wouldBeSo 6 = .ok (.invokevirtual 149, 3) := by decide +kernel
theorem dX8_wouldBeSo_9 : decode cX8_wouldBeSo 9 = .ok (.invokevirtual 200, 3) := by decide +kernel
theorem dX8_wouldBeSo_12 : decode cX8_wouldBeSo 12 = .ok (.aload_n 0, 1) := by decide +kernel
theorem dX8_wouldBeSo_13 : decode cX8_wouldBeSo 13 = .ok (.getfield 25, 3) := by decide +kernel
theorem dX8_wouldBeSo_16 : decode cX8_wouldBeSo 16 = .ok (.iload 5, 2) := by decide +kernel
theorem dX8_wouldBeSo_18 : decode cX8_wouldBeSo 18 = .ok (.iload 6, 2) := by decide +kernel
theorem dX8_wouldBeSo_20 : decode cX8_wouldBeSo 20 = .ok (.invokevirtual 138, 3) := by decide +kernel
theorem dX8_wouldBeSo_23 : decode cX8_wouldBeSo 23 = .ok (.aload_n 0, 1) := by decide +kernel
theorem dX8_wouldBeSo_24 : decode cX8_wouldBeSo 24 = .ok (.getfield 60, 3) := by decide +kernel
theorem dX8_wouldBeSo_27 : decode cX8_wouldBeSo 27 = .ok (.aload_n 0, 1) := by decide +kernel
theorem dX8_wouldBeSo_28 : decode cX8_wouldBeSo 28 = .ok (.getfield 25, 3) := by decide +kernel
theorem dX8_wouldBeSo_31 : decode cX8_wouldBeSo 31 = .ok (.aload_n 0, 1) := by decide +kernel
theorem dX8_wouldBeSo_32 : decode cX8_wouldBeSo 32 = .ok (.iload_n 2, 1) := by decide +kernel
theorem dX8_wouldBeSo_33 : decode cX8_wouldBeSo 33 = .ok (.invokevirtual 152, 3) := by decide +kernel
theorem dX8_wouldBeSo_36 : decode cX8_wouldBeSo 36 = .ok (.aload_n 0, 1) := by decide +kernel
theorem dX8_wouldBeSo_37 : decode cX8_wouldBeSo 37 = .ok (.invokevirtual 118, 3) := by decide +kernel
theorem dX8_wouldBeSo_40 : decode cX8_wouldBeSo 40 = .ok (.invokevirtual 155, 3) := by decide +kernel
theorem dX8_wouldBeSo_43 : decode cX8_wouldBeSo 43 = .ok (.aload_n 0, 1) := by decide +kernel
theorem dX8_wouldBeSo_44 : decode cX8_wouldBeSo 44 = .ok (.getfield 60, 3) := by decide +kernel
theorem dX8_wouldBeSo_47 : decode cX8_wouldBeSo 47 = .ok (.iload_n 3, 1) := by decide +kernel
theorem dX8_wouldBeSo_48 : decode cX8_wouldBeSo 48 = .ok (.iload 4, 2) := by decide +kernel
theorem dX8_wouldBeSo_50 : decode cX8_wouldBeSo 50 = .ok (.invokevirtual 159, 3) := by decide +kernel
theorem dX8_wouldBeSo_53 : decode cX8_wouldBeSo 53 = .ok (.aload_n 0, 1) := by decide +kernel
theorem dX8_wouldBeSo_54 : decode cX8_wouldBeSo 54 = .ok (.getfield 60, 3) := by decide +kernel
theorem dX8_wouldBeSo_57 : decode cX8_wouldBeSo 57 = .ok (.aload_n 0, 1) := by decide +kernel
theorem dX8_wouldBeSo_58 : decode cX8_wouldBeSo 58 = .ok (.iload_n 1, 1) := by decide +kernel
theorem dX8_wouldBeSo_59 : decode cX8_wouldBeSo 59 = .ok (.invokevirtual 213, 3) := by decide +kernel
theorem dX8_wouldBeSo_62 : decode cX8_wouldBeSo 62 = .ok (.invokevirtual 234, 3) := by decide +kernel
theorem dX8_wouldBeSo_65 : decode cX8_wouldBeSo 65 = .ok (.ifCond .ge 7, 3) := by decide +kernel
theorem dX8_wouldBeSo_68 : decode cX8_wouldBeSo 68 = .ok (.iconst 1, 1) := by decide +kernel
theorem dX8_wouldBeSo_69 : decode cX8_wouldBeSo 69 = .ok (.goto 4, 3) := by decide +kernel
theorem dX8_wouldBeSo_72 : decode cX8_wouldBeSo 72 = .ok (.iconst 0, 1) := by decide +kernel
theorem dX8_wouldBeSo_73 : decode cX8_wouldBeSo 73 = .ok (.ireturn, 1) := by decide +kernel
theorem dX8_inLowestTerms_0 : decode cX8_inLowestTerms 0 = .ok (.iload_n 1, 1) := by decide +kernel
theorem dX8_inLowestTerms_1 : decode cX8_inLowestTerms 1 = .ok (.istore_n 3, 1) := by decide +kernel
theorem dX8_inLowestTerms_2 : decode cX8_inLowestTerms 2 = .ok (.iload_n 0, 1) := by decide +kernel
theorem dX8_inLowestTerms_3 : decode cX8_inLowestTerms 3 = .ok (.istore 4, 2) := by decide +kernel
theorem dX8_inLowestTerms_5 : decode cX8_inLowestTerms 5 = .ok (.iconst 0, 1) := by decide +kernel
theorem dX8_inLowestTerms_6 : decode cX8_inLowestTerms 6 = .ok (.istore 5, 2) := by decide +kernel
theorem dX8_inLowestTerms_8 : decode cX8_inLowestTerms 8 = .ok (.iload 5, 2) := by decide +kernel
theorem dX8_inLowestTerms_10 : decode cX8_inLowestTerms 10 = .ok (.bipush 64, 2) := by decide +kernel
theorem dX8_inLowestTerms_12 : decode cX8_inLowestTerms 12 = .ok (.if_icmp .ge 27, 3) := by decide +kernel
theorem dX8_inLowestTerms_15 : decode cX8_inLowestTerms 15 = .ok (.iload 4, 2) := by decide +kernel
theorem dX8_inLowestTerms_17 : decode cX8_inLowestTerms 17 = .ok (.ifCond .eq 22, 3) := by decide +kernel
theorem dX8_inLowestTerms_20 : decode cX8_inLowestTerms 20 = .ok (.iload_n 3, 1) := by decide +kernel
theorem dX8_inLowestTerms_21 : decode cX8_inLowestTerms 21 = .ok (.iload 4, 2) := by decide +kernel
theorem dX8_inLowestTerms_23 : decode cX8_inLowestTerms 23 = .ok (.irem, 1) := by decide +kernel
theorem dX8_inLowestTerms_24 : decode cX8_inLowestTerms 24 = .ok (.istore 6, 2) := by decide +kernel
theorem dX8_inLowestTerms_26 : decode cX8_inLowestTerms 26 = .ok (.iload 4, 2) := by decide +kernel
theorem dX8_inLowestTerms_28 : decode cX8_inLowestTerms 28 = .ok (.istore_n 3, 1) := by decide +kernel
theorem dX8_inLowestTerms_29 : decode cX8_inLowestTerms 29 = .ok (.iload 6, 2) := by decide +kernel
theorem dX8_inLowestTerms_31 : decode cX8_inLowestTerms 31 = .ok (.istore 4, 2) := by decide +kernel
theorem dX8_inLowestTerms_33 : decode cX8_inLowestTerms 33 = .ok (.iinc 5 1, 3) := by decide +kernel
theorem dX8_inLowestTerms_36 : decode cX8_inLowestTerms 36 = .ok (.goto (-28), 3) := by decide +kernel
theorem dX8_inLowestTerms_39 : decode cX8_inLowestTerms 39 = .ok (.iload_n 3, 1) := by decide +kernel
theorem dX8_inLowestTerms_40 : decode cX8_inLowestTerms 40 = .ok (.ifCond .ne 7, 3) := by decide +kernel
theorem dX8_inLowestTerms_43 : decode cX8_inLowestTerms 43 = .ok (.ldc2_w 194, 3) := by decide +kernel
theorem dX8_inLowestTerms_46 : decode cX8_inLowestTerms 46 = .ok (.lreturn, 1) := by decide +kernel
theorem dX8_inLowestTerms_47 : decode cX8_inLowestTerms 47 = .ok (.iload_n 2, 1) := by decide +kernel
theorem dX8_inLowestTerms_48 : decode cX8_inLowestTerms 48 = .ok (.ifCond .ne 10, 3) := by decide +kernel
theorem dX8_inLowestTerms_51 : decode cX8_inLowestTerms 51 = .ok (.iload_n 0, 1) := by decide +kernel
theorem dX8_inLowestTerms_52 : decode cX8_inLowestTerms 52 = .ok (.iload_n 3, 1) := by decide +kernel
theorem dX8_inLowestTerms_53 : decode cX8_inLowestTerms 53 = .ok (.idiv, 1) := by decide +kernel
theorem dX8_inLowestTerms_54 : decode cX8_inLowestTerms 54 = .ok (.i2l, 1) := by decide +kernel
theorem dX8_inLowestTerms_55 : decode cX8_inLowestTerms 55 = .ok (.goto 7, 3) := by decide +kernel
theorem dX8_inLowestTerms_58 : decode cX8_inLowestTerms 58 = .ok (.iload_n 1, 1) := by decide +kernel
theorem dX8_inLowestTerms_59 : decode cX8_inLowestTerms 59 = .ok (.iload_n 3, 1) := by decide +kernel
theorem dX8_inLowestTerms_60 : decode cX8_inLowestTerms 60 = .ok (.idiv, 1) := by decide +kernel
theorem dX8_inLowestTerms_61 : decode cX8_inLowestTerms 61 = .ok (.i2l, 1) := by decide +kernel
theorem dX8_inLowestTerms_62 : decode cX8_inLowestTerms 62 = .ok (.lreturn, 1) := by decide +kernel
theorem dX8_within_0 : decode cX8_within 0 = .ok (.iload_n 1, 1) := by decide +kernel
theorem dX8_within_1 : decode cX8_within 1 = .ok (.iload_n 2, 1) := by decide +kernel
theorem dX8_within_2 : decode cX8_within 2 = .ok (.iload_n 0, 1) := by decide +kernel
theorem dX8_within_3 : decode cX8_within 3 = .ok (.invokestatic 290, 3) := by decide +kernel
theorem dX8_within_6 : decode cX8_within 6 = .ok (.invokestatic 307, 3) := by decide +kernel
theorem dX8_within_9 : decode cX8_within 9 = .ok (.ireturn, 1) := by decide +kernel
theorem dX9_init_0 : decode cX9_init 0 = .ok (.aload_n 0, 1) := by decide +kernel
theorem dX9_init_1 : decode cX9_init 1 = .ok (.invokespecial 1, 3) := by decide +kernel
theorem dX9_init_4 : decode cX9_init 4 = .ok (.aload_n 0, 1) := by decide +kernel
theorem dX9_init_5 : decode cX9_init 5 = .ok (.bipush 6, 2) := by decide +kernel
theorem dX9_init_7 : decode cX9_init 7 = .ok (.newarray .int, 2) := by decide +kernel
theorem dX9_init_9 : decode cX9_init 9 = .ok (.putfield 7, 3) := by decide +kernel
theorem dX9_init_12 : decode cX9_init 12 = .ok (.aload_n 0, 1) := by decide +kernel
theorem dX9_init_13 : decode cX9_init 13 = .ok (.bipush 6, 2) := by decide +kernel
theorem dX9_init_15 : decode cX9_init 15 = .ok (.newarray .int, 2) := by decide +kernel
theorem dX9_init_17 : decode cX9_init 17 = .ok (.putfield 13, 3) := by decide +kernel
theorem dX9_init_20 : decode cX9_init 20 = .ok (.aload_n 0, 1) := by decide +kernel
theorem dX9_init_21 : decode cX9_init 21 = .ok (.bipush 30, 2) := by decide +kernel
theorem dX9_init_23 : decode cX9_init 23 = .ok (.newarray .int, 2) := by decide +kernel
theorem dX9_init_25 : decode cX9_init 25 = .ok (.putfield 16, 3) := by decide +kernel
theorem dX9_init_28 : decode cX9_init 28 = .ok (.aload_n 0, 1) := by decide +kernel
theorem dX9_init_29 : decode cX9_init 29 = .ok (.sipush 160, 3) := by decide +kernel
theorem dX9_init_32 : decode cX9_init 32 = .ok (.newarray .int, 2) := by decide +kernel
theorem dX9_init_34 : decode cX9_init 34 = .ok (.putfield 19, 3) := by decide +kernel
theorem dX9_init_37 : decode cX9_init 37 = .ok (.aload_n 0, 1) := by decide +kernel
theorem dX9_init_38 : decode cX9_init 38 = .ok (.sipush 1200, 3) := by decide +kernel
theorem dX9_init_41 : decode cX9_init 41 = .ok (.newarray .int, 2) := by decide +kernel
theorem dX9_init_43 : decode cX9_init 43 = .ok (.putfield 22, 3) := by decide +kernel
theorem dX9_init_46 : decode cX9_init 46 = .ok (.aload_n 0, 1) := by decide +kernel
theorem dX9_init_47 : decode cX9_init 47 = .ok (.bipush 24, 2) := by decide +kernel
theorem dX9_init_49 : decode cX9_init 49 = .ok (.newarray .int, 2) := by decide +kernel
theorem dX9_init_51 : decode cX9_init 51 = .ok (.putfield 25, 3) := by decide +kernel
theorem dX9_init_54 : decode cX9_init 54 = .ok (.aload_n 0, 1) := by decide +kernel
theorem dX9_init_55 : decode cX9_init 55 = .ok (.bipush 30, 2) := by decide +kernel
theorem dX9_init_57 : decode cX9_init 57 = .ok (.newarray .int, 2) := by decide +kernel
theorem dX9_init_59 : decode cX9_init 59 = .ok (.putfield 28, 3) := by decide +kernel
theorem dX9_init_62 : decode cX9_init 62 = .ok (.aload_n 0, 1) := by decide +kernel
theorem dX9_init_63 : decode cX9_init 63 = .ok (.iconst 3, 1) := by decide +kernel
theorem dX9_init_64 : decode cX9_init 64 = .ok (.newarray .int, 2) := by decide +kernel
theorem dX9_init_66 : decode cX9_init 66 = .ok (.putfield 31, 3) := by decide +kernel
theorem dX9_init_69 : decode cX9_init 69 = .ok (.aload_n 0, 1) := by decide +kernel
theorem dX9_init_70 : decode cX9_init 70 = .ok (.iconst 4, 1) := by decide +kernel
theorem dX9_init_71 : decode cX9_init 71 = .ok (.newarray .int, 2) := by decide +kernel
theorem dX9_init_73 : decode cX9_init 73 = .ok (.dup, 1) := by decide +kernel
theorem dX9_init_74 : decode cX9_init 74 = .ok (.iconst 0, 1) := by decide +kernel
theorem dX9_init_75 : decode cX9_init 75 = .ok (.iconst (-1), 1) := by decide +kernel
theorem dX9_init_76 : decode cX9_init 76 = .ok (.iastore, 1) := by decide +kernel
theorem dX9_init_77 : decode cX9_init 77 = .ok (.dup, 1) := by decide +kernel
theorem dX9_init_78 : decode cX9_init 78 = .ok (.iconst 1, 1) := by decide +kernel
theorem dX9_init_79 : decode cX9_init 79 = .ok (.iconst (-1), 1) := by decide +kernel
theorem dX9_init_80 : decode cX9_init 80 = .ok (.iastore, 1) := by decide +kernel
theorem dX9_init_81 : decode cX9_init 81 = .ok (.dup, 1) := by decide +kernel
theorem dX9_init_82 : decode cX9_init 82 = .ok (.iconst 2, 1) := by decide +kernel
theorem dX9_init_83 : decode cX9_init 83 = .ok (.iconst (-1), 1) := by decide +kernel
theorem dX9_init_84 : decode cX9_init 84 = .ok (.iastore, 1) := by decide +kernel
theorem dX9_init_85 : decode cX9_init 85 = .ok (.dup, 1) := by decide +kernel
theorem dX9_init_86 : decode cX9_init 86 = .ok (.iconst 3, 1) := by decide +kernel
theorem dX9_init_87 : decode cX9_init 87 = .ok (.iconst (-1), 1) := by decide +kernel
theorem dX9_init_88 : decode cX9_init 88 = .ok (.iastore, 1) := by decide +kernel
theorem dX9_init_89 : decode cX9_init 89 = .ok (.putfield 34, 3) := by decide +kernel
theorem dX9_init_92 : decode cX9_init 92 = .ok (.aload_n 0, 1) := by decide +kernel
theorem dX9_init_93 : decode cX9_init 93 = .ok (.iconst 4, 1) := by decide +kernel
theorem dX9_init_94 : decode cX9_init 94 = .ok (.newarray .int, 2) := by decide +kernel
theorem dX9_init_96 : decode cX9_init 96 = .ok (.putfield 37, 3) := by decide +kernel
theorem dX9_init_99 : decode cX9_init 99 = .ok (.aload_n 0, 1) := by decide +kernel
theorem dX9_init_100 : decode cX9_init 100 = .ok (.sipush 160, 3) := by decide +kernel
theorem dX9_init_103 : decode cX9_init 103 = .ok (.newarray .int, 2) := by decide +kernel
theorem dX9_init_105 : decode cX9_init 105 = .ok (.putfield 40, 3) := by decide +kernel
theorem dX9_init_108 : decode cX9_init 108 = .ok (.aload_n 0, 1) := by decide +kernel
theorem dX9_init_109 : decode cX9_init 109 = .ok (.bipush 48, 2) := by decide +kernel
theorem dX9_init_111 : decode cX9_init 111 = .ok (.newarray .int, 2) := by decide +kernel
theorem dX9_init_113 : decode cX9_init 113 = .ok (.dup, 1) := by decide +kernel
theorem dX9_init_114 : decode cX9_init 114 = .ok (.iconst 0, 1) := by decide +kernel
theorem dX9_init_115 : decode cX9_init 115 = .ok (.bipush 102, 2) := by decide +kernel
theorem dX9_init_117 : decode cX9_init 117 = .ok (.iastore, 1) := by decide +kernel
theorem dX9_init_118 : decode cX9_init 118 = .ok (.dup, 1) := by decide +kernel
theorem dX9_init_119 : decode cX9_init 119 = .ok (.iconst 1, 1) := by decide +kernel
theorem dX9_init_120 : decode cX9_init 120 = .ok (.bipush 111, 2) := by decide +kernel
theorem dX9_init_122 : decode cX9_init 122 = .ok (.iastore, 1) := by decide +kernel
theorem dX9_init_123 : decode cX9_init 123 = .ok (.dup, 1) := by decide +kernel
theorem dX9_init_124 : decode cX9_init 124 = .ok (.iconst 2, 1) := by decide +kernel
theorem dX9_init_125 : decode cX9_init 125 = .ok (.bipush 114, 2) := by decide +kernel
theorem dX9_init_127 : decode cX9_init 127 = .ok (.iastore, 1) := by decide +kernel
theorem dX9_init_128 : decode cX9_init 128 = .ok (.dup, 1) := by decide +kernel
theorem dX9_init_129 : decode cX9_init 129 = .ok (.iconst 3, 1) := by decide +kernel
theorem dX9_init_130 : decode cX9_init 130 = .ok (.bipush 99, 2) := by decide +kernel
theorem dX9_init_132 : decode cX9_init 132 = .ok (.iastore, 1) := by decide +kernel
theorem dX9_init_133 : decode cX9_init 133 = .ok (.dup, 1) := by decide +kernel
theorem dX9_init_134 : decode cX9_init 134 = .ok (.iconst 4, 1) := by decide +kernel
theorem dX9_init_135 : decode cX9_init 135 = .ok (.bipush 101, 2) := by decide +kernel
theorem dX9_init_137 : decode cX9_init 137 = .ok (.iastore, 1) := by decide +kernel
theorem dX9_init_138 : decode cX9_init 138 = .ok (.dup, 1) := by decide +kernel
theorem dX9_init_139 : decode cX9_init 139 = .ok (.iconst 5, 1) := by decide +kernel
theorem dX9_init_140 : decode cX9_init 140 = .ok (.bipush 32, 2) := by decide +kernel
theorem dX9_init_142 : decode cX9_init 142 = .ok (.iastore, 1) := by decide +kernel
theorem dX9_init_143 : decode cX9_init 143 = .ok (.dup, 1) := by decide +kernel
theorem dX9_init_144 : decode cX9_init 144 = .ok (.bipush 6, 2) := by decide +kernel
theorem dX9_init_146 : decode cX9_init 146 = .ok (.bipush 119, 2) := by decide +kernel
theorem dX9_init_148 : decode cX9_init 148 = .ok (.iastore, 1) := by decide +kernel
theorem dX9_init_149 : decode cX9_init 149 = .ok (.dup, 1) := by decide +kernel
theorem dX9_init_150 : decode cX9_init 150 = .ok (.bipush 7, 2) := by decide +kernel
theorem dX9_init_152 : decode cX9_init 152 = .ok (.bipush 101, 2) := by decide +kernel
theorem dX9_init_154 : decode cX9_init 154 = .ok (.iastore, 1) := by decide +kernel
theorem dX9_init_155 : decode cX9_init 155 = .ok (.dup, 1) := by decide +kernel
theorem dX9_init_156 : decode cX9_init 156 = .ok (.bipush 8, 2) := by decide +kernel
theorem dX9_init_158 : decode cX9_init 158 = .ok (.bipush 105, 2) := by decide +kernel
theorem dX9_init_160 : decode cX9_init 160 = .ok (.iastore, 1) := by decide +kernel
theorem dX9_init_161 : decode cX9_init 161 = .ok (.dup, 1) := by decide +kernel
theorem dX9_init_162 : decode cX9_init 162 = .ok (.bipush 9, 2) := by decide +kernel
theorem dX9_init_164 : decode cX9_init 164 = .ok (.bipush 103, 2) := by decide +kernel
theorem dX9_init_166 : decode cX9_init 166 = .ok (.iastore, 1) := by decide +kernel
theorem dX9_init_167 : decode cX9_init 167 = .ok (.dup, 1) := by decide +kernel
theorem dX9_init_168 : decode cX9_init 168 = .ok (.bipush 10, 2) := by decide +kernel
theorem dX9_init_170 : decode cX9_init 170 = .ok (.bipush 104, 2) := by decide +kernel
theorem dX9_init_172 : decode cX9_init 172 = .ok (.iastore, 1) := by decide +kernel
theorem dX9_init_173 : decode cX9_init 173 = .ok (.dup, 1) := by decide +kernel
theorem dX9_init_174 : decode cX9_init 174 = .ok (.bipush 11, 2) := by decide +kernel
theorem dX9_init_176 : decode cX9_init 176 = .ok (.bipush 116, 2) := by decide +kernel
theorem dX9_init_178 : decode cX9_init 178 = .ok (.iastore, 1) := by decide +kernel
theorem dX9_init_179 : decode cX9_init 179 = .ok (.dup, 1) := by decide +kernel
theorem dX9_init_180 : decode cX9_init 180 = .ok (.bipush 12, 2) := by decide +kernel
theorem dX9_init_182 : decode cX9_init 182 = .ok (.bipush 32, 2) := by decide +kernel
theorem dX9_init_184 : decode cX9_init 184 = .ok (.iastore, 1) := by decide +kernel
theorem dX9_init_185 : decode cX9_init 185 = .ok (.dup, 1) := by decide +kernel
theorem dX9_init_186 : decode cX9_init 186 = .ok (.bipush 13, 2) := by decide +kernel
theorem dX9_init_188 : decode cX9_init 188 = .ok (.bipush 43, 2) := by decide +kernel
theorem dX9_init_190 : decode cX9_init 190 = .ok (.iastore, 1) := by decide +kernel
theorem dX9_init_191 : decode cX9_init 191 = .ok (.dup, 1) := by decide +kernel
theorem dX9_init_192 : decode cX9_init 192 = .ok (.bipush 14, 2) := by decide +kernel
theorem dX9_init_194 : decode cX9_init 194 = .ok (.bipush 32, 2) := by decide +kernel
theorem dX9_init_196 : decode cX9_init 196 = .ok (.iastore, 1) := by decide +kernel
theorem dX9_init_197 : decode cX9_init 197 = .ok (.dup, 1) := by decide +kernel
theorem dX9_init_198 : decode cX9_init 198 = .ok (.bipush 15, 2) := by decide +kernel
theorem dX9_init_200 : decode cX9_init 200 = .ok (.bipush 112, 2) := by decide +kernel
theorem dX9_init_202 : decode cX9_init 202 = .ok (.iastore, 1) := by decide +kernel
theorem dX9_init_203 : decode cX9_init 203 = .ok (.dup, 1) := by decide +kernel
theorem dX9_init_204 : decode cX9_init 204 = .ok (.bipush 16, 2) := by decide +kernel
theorem dX9_init_206 : decode cX9_init 206 = .ok (.bipush 97, 2) := by decide +kernel
theorem dX9_init_208 : decode cX9_init 208 = .ok (.iastore, 1) := by decide +kernel
theorem dX9_init_209 : decode cX9_init 209 = .ok (.dup, 1) := by decide +kernel
theorem dX9_init_210 : decode cX9_init 210 = .ok (.bipush 17, 2) := by decide +kernel
theorem dX9_init_212 : decode cX9_init 212 = .ok (.bipush 99, 2) := by decide +kernel
theorem dX9_init_214 : decode cX9_init 214 = .ok (.iastore, 1) := by decide +kernel
theorem dX9_init_215 : decode cX9_init 215 = .ok (.dup, 1) := by decide +kernel
theorem dX9_init_216 : decode cX9_init 216 = .ok (.bipush 18, 2) := by decide +kernel
theorem dX9_init_218 : decode cX9_init 218 = .ok (.bipush 101, 2) := by decide +kernel
theorem dX9_init_220 : decode cX9_init 220 = .ok (.iastore, 1) := by decide +kernel
theorem dX9_init_221 : decode cX9_init 221 = .ok (.dup, 1) := by decide +kernel
theorem dX9_init_222 : decode cX9_init 222 = .ok (.bipush 19, 2) := by decide +kernel
theorem dX9_init_224 : decode cX9_init 224 = .ok (.bipush 32, 2) := by decide +kernel
theorem dX9_init_226 : decode cX9_init 226 = .ok (.iastore, 1) := by decide +kernel
theorem dX9_init_227 : decode cX9_init 227 = .ok (.dup, 1) := by decide +kernel
theorem dX9_init_228 : decode cX9_init 228 = .ok (.bipush 20, 2) := by decide +kernel
theorem dX9_init_230 : decode cX9_init 230 = .ok (.bipush 42, 2) := by decide +kernel
theorem dX9_init_232 : decode cX9_init 232 = .ok (.iastore, 1) := by decide +kernel
theorem dX9_init_233 : decode cX9_init 233 = .ok (.dup, 1) := by decide +kernel
theorem dX9_init_234 : decode cX9_init 234 = .ok (.bipush 21, 2) := by decide +kernel
theorem dX9_init_236 : decode cX9_init 236 = .ok (.bipush 32, 2) := by decide +kernel
theorem dX9_init_238 : decode cX9_init 238 = .ok (.iastore, 1) := by decide +kernel
theorem dX9_init_239 : decode cX9_init 239 = .ok (.dup, 1) := by decide +kernel
theorem dX9_init_240 : decode cX9_init 240 = .ok (.bipush 22, 2) := by decide +kernel
theorem dX9_init_242 : decode cX9_init 242 = .ok (.bipush 97, 2) := by decide +kernel
theorem dX9_init_244 : decode cX9_init 244 = .ok (.iastore, 1) := by decide +kernel
theorem dX9_init_245 : decode cX9_init 245 = .ok (.dup, 1) := by decide +kernel
theorem dX9_init_246 : decode cX9_init 246 = .ok (.bipush 23, 2) := by decide +kernel
theorem dX9_init_248 : decode cX9_init 248 = .ok (.bipush 99, 2) := by decide +kernel
theorem dX9_init_250 : decode cX9_init 250 = .ok (.iastore, 1) := by decide +kernel
theorem dX9_init_251 : decode cX9_init 251 = .ok (.dup, 1) := by decide +kernel
theorem dX9_init_252 : decode cX9_init 252 = .ok (.bipush 24, 2) := by decide +kernel
theorem dX9_init_254 : decode cX9_init 254 = .ok (.bipush 116, 2) := by decide +kernel
theorem dX9_init_256 : decode cX9_init 256 = .ok (.iastore, 1) := by decide +kernel
theorem dX9_init_257 : decode cX9_init 257 = .ok (.dup, 1) := by decide +kernel
theorem dX9_init_258 : decode cX9_init 258 = .ok (.bipush 25, 2) := by decide +kernel
theorem dX9_init_260 : decode cX9_init 260 = .ok (.bipush 32, 2) := by decide +kernel
theorem dX9_init_262 : decode cX9_init 262 = .ok (.iastore, 1) := by decide +kernel
theorem dX9_init_263 : decode cX9_init 263 = .ok (.dup, 1) := by decide +kernel
theorem dX9_init_264 : decode cX9_init 264 = .ok (.bipush 26, 2) := by decide +kernel
theorem dX9_init_266 : decode cX9_init 266 = .ok (.bipush 59, 2) := by decide +kernel
theorem dX9_init_268 : decode cX9_init 268 = .ok (.iastore, 1) := by decide +kernel
theorem dX9_init_269 : decode cX9_init 269 = .ok (.dup, 1) := by decide +kernel
theorem dX9_init_270 : decode cX9_init 270 = .ok (.bipush 27, 2) := by decide +kernel
theorem dX9_init_272 : decode cX9_init 272 = .ok (.bipush 32, 2) := by decide +kernel
theorem dX9_init_274 : decode cX9_init 274 = .ok (.iastore, 1) := by decide +kernel
theorem dX9_init_275 : decode cX9_init 275 = .ok (.dup, 1) := by decide +kernel
theorem dX9_init_276 : decode cX9_init 276 = .ok (.bipush 28, 2) := by decide +kernel
theorem dX9_init_278 : decode cX9_init 278 = .ok (.bipush 115, 2) := by decide +kernel
theorem dX9_init_280 : decode cX9_init 280 = .ok (.iastore, 1) := by decide +kernel
theorem dX9_init_281 : decode cX9_init 281 = .ok (.dup, 1) := by decide +kernel
theorem dX9_init_282 : decode cX9_init 282 = .ok (.bipush 29, 2) := by decide +kernel
theorem dX9_init_284 : decode cX9_init 284 = .ok (.bipush 116, 2) := by decide +kernel
theorem dX9_init_286 : decode cX9_init 286 = .ok (.iastore, 1) := by decide +kernel
theorem dX9_init_287 : decode cX9_init 287 = .ok (.dup, 1) := by decide +kernel
theorem dX9_init_288 : decode cX9_init 288 = .ok (.bipush 30, 2) := by decide +kernel
theorem dX9_init_290 : decode cX9_init 290 = .ok (.bipush 97, 2) := by decide +kernel
theorem dX9_init_292 : decode cX9_init 292 = .ok (.iastore, 1) := by decide +kernel
theorem dX9_init_293 : decode cX9_init 293 = .ok (.dup, 1) := by decide +kernel
theorem dX9_init_294 : decode cX9_init 294 = .ok (.bipush 31, 2) := by decide +kernel
theorem dX9_init_296 : decode cX9_init 296 = .ok (.bipush 110, 2) := by decide +kernel
theorem dX9_init_298 : decode cX9_init 298 = .ok (.iastore, 1) := by decide +kernel
theorem dX9_init_299 : decode cX9_init 299 = .ok (.dup, 1) := by decide +kernel
theorem dX9_init_300 : decode cX9_init 300 = .ok (.bipush 32, 2) := by decide +kernel
theorem dX9_init_302 : decode cX9_init 302 = .ok (.bipush 100, 2) := by decide +kernel
theorem dX9_init_304 : decode cX9_init 304 = .ok (.iastore, 1) := by decide +kernel
theorem dX9_init_305 : decode cX9_init 305 = .ok (.dup, 1) := by decide +kernel
theorem dX9_init_306 : decode cX9_init 306 = .ok (.bipush 33, 2) := by decide +kernel
theorem dX9_init_308 : decode cX9_init 308 = .ok (.bipush 115, 2) := by decide +kernel
theorem dX9_init_310 : decode cX9_init 310 = .ok (.iastore, 1) := by decide +kernel
theorem dX9_init_311 : decode cX9_init 311 = .ok (.dup, 1) := by decide +kernel
theorem dX9_init_312 : decode cX9_init 312 = .ok (.bipush 34, 2) := by decide +kernel
theorem dX9_init_314 : decode cX9_init 314 = .ok (.bipush 32, 2) := by decide +kernel
theorem dX9_init_316 : decode cX9_init 316 = .ok (.iastore, 1) := by decide +kernel
theorem dX9_init_317 : decode cX9_init 317 = .ok (.dup, 1) := by decide +kernel
theorem dX9_init_318 : decode cX9_init 318 = .ok (.bipush 35, 2) := by decide +kernel
theorem dX9_init_320 : decode cX9_init 320 = .ok (.bipush 50, 2) := by decide +kernel
theorem dX9_init_322 : decode cX9_init 322 = .ok (.iastore, 1) := by decide +kernel
theorem dX9_init_323 : decode cX9_init 323 = .ok (.dup, 1) := by decide +kernel
theorem dX9_init_324 : decode cX9_init 324 = .ok (.bipush 36, 2) := by decide +kernel
theorem dX9_init_326 : decode cX9_init 326 = .ok (.bipush 32, 2) := by decide +kernel
theorem dX9_init_328 : decode cX9_init 328 = .ok (.iastore, 1) := by decide +kernel
theorem dX9_init_329 : decode cX9_init 329 = .ok (.dup, 1) := by decide +kernel
theorem dX9_init_330 : decode cX9_init 330 = .ok (.bipush 37, 2) := by decide +kernel
theorem dX9_init_332 : decode cX9_init 332 = .ok (.bipush 59, 2) := by decide +kernel
theorem dX9_init_334 : decode cX9_init 334 = .ok (.iastore, 1) := by decide +kernel
theorem dX9_init_335 : decode cX9_init 335 = .ok (.dup, 1) := by decide +kernel
theorem dX9_init_336 : decode cX9_init 336 = .ok (.bipush 38, 2) := by decide +kernel
theorem dX9_init_338 : decode cX9_init 338 = .ok (.bipush 32, 2) := by decide +kernel
theorem dX9_init_340 : decode cX9_init 340 = .ok (.iastore, 1) := by decide +kernel
theorem dX9_init_341 : decode cX9_init 341 = .ok (.dup, 1) := by decide +kernel
theorem dX9_init_342 : decode cX9_init 342 = .ok (.bipush 39, 2) := by decide +kernel
theorem dX9_init_344 : decode cX9_init 344 = .ok (.bipush 97, 2) := by decide +kernel
theorem dX9_init_346 : decode cX9_init 346 = .ok (.iastore, 1) := by decide +kernel
theorem dX9_init_347 : decode cX9_init 347 = .ok (.dup, 1) := by decide +kernel
theorem dX9_init_348 : decode cX9_init 348 = .ok (.bipush 40, 2) := by decide +kernel
theorem dX9_init_350 : decode cX9_init 350 = .ok (.bipush 104, 2) := by decide +kernel
theorem dX9_init_352 : decode cX9_init 352 = .ok (.iastore, 1) := by decide +kernel
theorem dX9_init_353 : decode cX9_init 353 = .ok (.dup, 1) := by decide +kernel
theorem dX9_init_354 : decode cX9_init 354 = .ok (.bipush 41, 2) := by decide +kernel
theorem dX9_init_356 : decode cX9_init 356 = .ok (.bipush 101, 2) := by decide +kernel
theorem dX9_init_358 : decode cX9_init 358 = .ok (.iastore, 1) := by decide +kernel
theorem dX9_init_359 : decode cX9_init 359 = .ok (.dup, 1) := by decide +kernel
theorem dX9_init_360 : decode cX9_init 360 = .ok (.bipush 42, 2) := by decide +kernel
theorem dX9_init_362 : decode cX9_init 362 = .ok (.bipush 97, 2) := by decide +kernel
theorem dX9_init_364 : decode cX9_init 364 = .ok (.iastore, 1) := by decide +kernel
theorem dX9_init_365 : decode cX9_init 365 = .ok (.dup, 1) := by decide +kernel
theorem dX9_init_366 : decode cX9_init 366 = .ok (.bipush 43, 2) := by decide +kernel
theorem dX9_init_368 : decode cX9_init 368 = .ok (.bipush 100, 2) := by decide +kernel
theorem dX9_init_370 : decode cX9_init 370 = .ok (.iastore, 1) := by decide +kernel
theorem dX9_init_371 : decode cX9_init 371 = .ok (.dup, 1) := by decide +kernel
theorem dX9_init_372 : decode cX9_init 372 = .ok (.bipush 44, 2) := by decide +kernel
theorem dX9_init_374 : decode cX9_init 374 = .ok (.bipush 32, 2) := by decide +kernel
theorem dX9_init_376 : decode cX9_init 376 = .ok (.iastore, 1) := by decide +kernel
theorem dX9_init_377 : decode cX9_init 377 = .ok (.dup, 1) := by decide +kernel
theorem dX9_init_378 : decode cX9_init 378 = .ok (.bipush 45, 2) := by decide +kernel
theorem dX9_init_380 : decode cX9_init 380 = .ok (.bipush 48, 2) := by decide +kernel
theorem dX9_init_382 : decode cX9_init 382 = .ok (.iastore, 1) := by decide +kernel
theorem dX9_init_383 : decode cX9_init 383 = .ok (.dup, 1) := by decide +kernel
theorem dX9_init_384 : decode cX9_init 384 = .ok (.bipush 46, 2) := by decide +kernel
theorem dX9_init_386 : decode cX9_init 386 = .ok (.bipush 32, 2) := by decide +kernel
theorem dX9_init_388 : decode cX9_init 388 = .ok (.iastore, 1) := by decide +kernel
theorem dX9_init_389 : decode cX9_init 389 = .ok (.dup, 1) := by decide +kernel
theorem dX9_init_390 : decode cX9_init 390 = .ok (.bipush 47, 2) := by decide +kernel
theorem dX9_init_392 : decode cX9_init 392 = .ok (.bipush 59, 2) := by decide +kernel
theorem dX9_init_394 : decode cX9_init 394 = .ok (.iastore, 1) := by decide +kernel
theorem dX9_init_395 : decode cX9_init 395 = .ok (.putfield 43, 3) := by decide +kernel
theorem dX9_init_398 : decode cX9_init 398 = .ok (.aload_n 0, 1) := by decide +kernel
theorem dX9_init_399 : decode cX9_init 399 = .ok (.bipush 96, 2) := by decide +kernel
theorem dX9_init_401 : decode cX9_init 401 = .ok (.newarray .int, 2) := by decide +kernel
theorem dX9_init_403 : decode cX9_init 403 = .ok (.dup, 1) := by decide +kernel
theorem dX9_init_404 : decode cX9_init 404 = .ok (.iconst 0, 1) := by decide +kernel
theorem dX9_init_405 : decode cX9_init 405 = .ok (.bipush 102, 2) := by decide +kernel
theorem dX9_init_407 : decode cX9_init 407 = .ok (.iastore, 1) := by decide +kernel
theorem dX9_init_408 : decode cX9_init 408 = .ok (.dup, 1) := by decide +kernel
theorem dX9_init_409 : decode cX9_init 409 = .ok (.iconst 1, 1) := by decide +kernel
theorem dX9_init_410 : decode cX9_init 410 = .ok (.bipush 111, 2) := by decide +kernel
theorem dX9_init_412 : decode cX9_init 412 = .ok (.iastore, 1) := by decide +kernel
theorem dX9_init_413 : decode cX9_init 413 = .ok (.dup, 1) := by decide +kernel
theorem dX9_init_414 : decode cX9_init 414 = .ok (.iconst 2, 1) := by decide +kernel
theorem dX9_init_415 : decode cX9_init 415 = .ok (.bipush 114, 2) := by decide +kernel
theorem dX9_init_417 : decode cX9_init 417 = .ok (.iastore, 1) := by decide +kernel
theorem dX9_init_418 : decode cX9_init 418 = .ok (.dup, 1) := by decide +kernel
theorem dX9_init_419 : decode cX9_init 419 = .ok (.iconst 3, 1) := by decide +kernel
theorem dX9_init_420 : decode cX9_init 420 = .ok (.bipush 99, 2) := by decide +kernel
theorem dX9_init_422 : decode cX9_init 422 = .ok (.iastore, 1) := by decide +kernel
theorem dX9_init_423 : decode cX9_init 423 = .ok (.dup, 1) := by decide +kernel
theorem dX9_init_424 : decode cX9_init 424 = .ok (.iconst 4, 1) := by decide +kernel
theorem dX9_init_425 : decode cX9_init 425 = .ok (.bipush 101, 2) := by decide +kernel
theorem dX9_init_427 : decode cX9_init 427 = .ok (.iastore, 1) := by decide +kernel
theorem dX9_init_428 : decode cX9_init 428 = .ok (.dup, 1) := by decide +kernel
theorem dX9_init_429 : decode cX9_init 429 = .ok (.iconst 5, 1) := by decide +kernel
theorem dX9_init_430 : decode cX9_init 430 = .ok (.bipush 32, 2) := by decide +kernel
theorem dX9_init_432 : decode cX9_init 432 = .ok (.iastore, 1) := by decide +kernel
theorem dX9_init_433 : decode cX9_init 433 = .ok (.dup, 1) := by decide +kernel
theorem dX9_init_434 : decode cX9_init 434 = .ok (.bipush 6, 2) := by decide +kernel
theorem dX9_init_436 : decode cX9_init 436 = .ok (.bipush 32, 2) := by decide +kernel
theorem dX9_init_438 : decode cX9_init 438 = .ok (.iastore, 1) := by decide +kernel
theorem dX9_init_439 : decode cX9_init 439 = .ok (.dup, 1) := by decide +kernel
theorem dX9_init_440 : decode cX9_init 440 = .ok (.bipush 7, 2) := by decide +kernel
theorem dX9_init_442 : decode cX9_init 442 = .ok (.bipush 32, 2) := by decide +kernel
theorem dX9_init_444 : decode cX9_init 444 = .ok (.iastore, 1) := by decide +kernel
theorem dX9_init_445 : decode cX9_init 445 = .ok (.dup, 1) := by decide +kernel
theorem dX9_init_446 : decode cX9_init 446 = .ok (.bipush 8, 2) := by decide +kernel
theorem dX9_init_448 : decode cX9_init 448 = .ok (.bipush 115, 2) := by decide +kernel
theorem dX9_init_450 : decode cX9_init 450 = .ok (.iastore, 1) := by decide +kernel
theorem dX9_init_451 : decode cX9_init 451 = .ok (.dup, 1) := by decide +kernel
theorem dX9_init_452 : decode cX9_init 452 = .ok (.bipush 9, 2) := by decide +kernel
theorem dX9_init_454 : decode cX9_init 454 = .ok (.bipush 116, 2) := by decide +kernel
theorem dX9_init_456 : decode cX9_init 456 = .ok (.iastore, 1) := by decide +kernel
theorem dX9_init_457 : decode cX9_init 457 = .ok (.dup, 1) := by decide +kernel
theorem dX9_init_458 : decode cX9_init 458 = .ok (.bipush 10, 2) := by decide +kernel
theorem dX9_init_460 : decode cX9_init 460 = .ok (.bipush 97, 2) := by decide +kernel
theorem dX9_init_462 : decode cX9_init 462 = .ok (.iastore, 1) := by decide +kernel
theorem dX9_init_463 : decode cX9_init 463 = .ok (.dup, 1) := by decide +kernel
theorem dX9_init_464 : decode cX9_init 464 = .ok (.bipush 11, 2) := by decide +kernel
theorem dX9_init_466 : decode cX9_init 466 = .ok (.bipush 110, 2) := by decide +kernel
theorem dX9_init_468 : decode cX9_init 468 = .ok (.iastore, 1) := by decide +kernel
theorem dX9_init_469 : decode cX9_init 469 = .ok (.dup, 1) := by decide +kernel
theorem dX9_init_470 : decode cX9_init 470 = .ok (.bipush 12, 2) := by decide +kernel
theorem dX9_init_472 : decode cX9_init 472 = .ok (.bipush 100, 2) := by decide +kernel
theorem dX9_init_474 : decode cX9_init 474 = .ok (.iastore, 1) := by decide +kernel
theorem dX9_init_475 : decode cX9_init 475 = .ok (.dup, 1) := by decide +kernel
theorem dX9_init_476 : decode cX9_init 476 = .ok (.bipush 13, 2) := by decide +kernel
theorem dX9_init_478 : decode cX9_init 478 = .ok (.bipush 115, 2) := by decide +kernel
theorem dX9_init_480 : decode cX9_init 480 = .ok (.iastore, 1) := by decide +kernel
theorem dX9_init_481 : decode cX9_init 481 = .ok (.dup, 1) := by decide +kernel
theorem dX9_init_482 : decode cX9_init 482 = .ok (.bipush 14, 2) := by decide +kernel
theorem dX9_init_484 : decode cX9_init 484 = .ok (.bipush 32, 2) := by decide +kernel
theorem dX9_init_486 : decode cX9_init 486 = .ok (.iastore, 1) := by decide +kernel
theorem dX9_init_487 : decode cX9_init 487 = .ok (.dup, 1) := by decide +kernel
theorem dX9_init_488 : decode cX9_init 488 = .ok (.bipush 15, 2) := by decide +kernel
theorem dX9_init_490 : decode cX9_init 490 = .ok (.bipush 32, 2) := by decide +kernel
theorem dX9_init_492 : decode cX9_init 492 = .ok (.iastore, 1) := by decide +kernel
theorem dX9_init_493 : decode cX9_init 493 = .ok (.dup, 1) := by decide +kernel
theorem dX9_init_494 : decode cX9_init 494 = .ok (.bipush 16, 2) := by decide +kernel
theorem dX9_init_496 : decode cX9_init 496 = .ok (.bipush 97, 2) := by decide +kernel
theorem dX9_init_498 : decode cX9_init 498 = .ok (.iastore, 1) := by decide +kernel
theorem dX9_init_499 : decode cX9_init 499 = .ok (.dup, 1) := by decide +kernel
theorem dX9_init_500 : decode cX9_init 500 = .ok (.bipush 17, 2) := by decide +kernel
theorem dX9_init_502 : decode cX9_init 502 = .ok (.bipush 104, 2) := by decide +kernel
theorem dX9_init_504 : decode cX9_init 504 = .ok (.iastore, 1) := by decide +kernel
theorem dX9_init_505 : decode cX9_init 505 = .ok (.dup, 1) := by decide +kernel
theorem dX9_init_506 : decode cX9_init 506 = .ok (.bipush 18, 2) := by decide +kernel
theorem dX9_init_508 : decode cX9_init 508 = .ok (.bipush 101, 2) := by decide +kernel
theorem dX9_init_510 : decode cX9_init 510 = .ok (.iastore, 1) := by decide +kernel
theorem dX9_init_511 : decode cX9_init 511 = .ok (.dup, 1) := by decide +kernel
theorem dX9_init_512 : decode cX9_init 512 = .ok (.bipush 19, 2) := by decide +kernel
theorem dX9_init_514 : decode cX9_init 514 = .ok (.bipush 97, 2) := by decide +kernel
theorem dX9_init_516 : decode cX9_init 516 = .ok (.iastore, 1) := by decide +kernel
theorem dX9_init_517 : decode cX9_init 517 = .ok (.dup, 1) := by decide +kernel
theorem dX9_init_518 : decode cX9_init 518 = .ok (.bipush 20, 2) := by decide +kernel
theorem dX9_init_520 : decode cX9_init 520 = .ok (.bipush 100, 2) := by decide +kernel
theorem dX9_init_522 : decode cX9_init 522 = .ok (.iastore, 1) := by decide +kernel
theorem dX9_init_523 : decode cX9_init 523 = .ok (.dup, 1) := by decide +kernel
theorem dX9_init_524 : decode cX9_init 524 = .ok (.bipush 21, 2) := by decide +kernel
theorem dX9_init_526 : decode cX9_init 526 = .ok (.bipush 32, 2) := by decide +kernel
theorem dX9_init_528 : decode cX9_init 528 = .ok (.iastore, 1) := by decide +kernel
theorem dX9_init_529 : decode cX9_init 529 = .ok (.dup, 1) := by decide +kernel
theorem dX9_init_530 : decode cX9_init 530 = .ok (.bipush 22, 2) := by decide +kernel
theorem dX9_init_532 : decode cX9_init 532 = .ok (.bipush 32, 2) := by decide +kernel
theorem dX9_init_534 : decode cX9_init 534 = .ok (.iastore, 1) := by decide +kernel
theorem dX9_init_535 : decode cX9_init 535 = .ok (.dup, 1) := by decide +kernel
theorem dX9_init_536 : decode cX9_init 536 = .ok (.bipush 23, 2) := by decide +kernel
theorem dX9_init_538 : decode cX9_init 538 = .ok (.bipush 32, 2) := by decide +kernel
theorem dX9_init_540 : decode cX9_init 540 = .ok (.iastore, 1) := by decide +kernel
theorem dX9_init_541 : decode cX9_init 541 = .ok (.dup, 1) := by decide +kernel
theorem dX9_init_542 : decode cX9_init 542 = .ok (.bipush 24, 2) := by decide +kernel
theorem dX9_init_544 : decode cX9_init 544 = .ok (.bipush 119, 2) := by decide +kernel
theorem dX9_init_546 : decode cX9_init 546 = .ok (.iastore, 1) := by decide +kernel
theorem dX9_init_547 : decode cX9_init 547 = .ok (.dup, 1) := by decide +kernel
theorem dX9_init_548 : decode cX9_init 548 = .ok (.bipush 25, 2) := by decide +kernel
theorem dX9_init_550 : decode cX9_init 550 = .ok (.bipush 101, 2) := by decide +kernel
theorem dX9_init_552 : decode cX9_init 552 = .ok (.iastore, 1) := by decide +kernel
theorem dX9_init_553 : decode cX9_init 553 = .ok (.dup, 1) := by decide +kernel
theorem dX9_init_554 : decode cX9_init 554 = .ok (.bipush 26, 2) := by decide +kernel
theorem dX9_init_556 : decode cX9_init 556 = .ok (.bipush 105, 2) := by decide +kernel
theorem dX9_init_558 : decode cX9_init 558 = .ok (.iastore, 1) := by decide +kernel
theorem dX9_init_559 : decode cX9_init 559 = .ok (.dup, 1) := by decide +kernel
theorem dX9_init_560 : decode cX9_init 560 = .ok (.bipush 27, 2) := by decide +kernel
theorem dX9_init_562 : decode cX9_init 562 = .ok (.bipush 103, 2) := by decide +kernel
theorem dX9_init_564 : decode cX9_init 564 = .ok (.iastore, 1) := by decide +kernel
theorem dX9_init_565 : decode cX9_init 565 = .ok (.dup, 1) := by decide +kernel
theorem dX9_init_566 : decode cX9_init 566 = .ok (.bipush 28, 2) := by decide +kernel
theorem dX9_init_568 : decode cX9_init 568 = .ok (.bipush 104, 2) := by decide +kernel
theorem dX9_init_570 : decode cX9_init 570 = .ok (.iastore, 1) := by decide +kernel
theorem dX9_init_571 : decode cX9_init 571 = .ok (.dup, 1) := by decide +kernel
theorem dX9_init_572 : decode cX9_init 572 = .ok (.bipush 29, 2) := by decide +kernel
theorem dX9_init_574 : decode cX9_init 574 = .ok (.bipush 116, 2) := by decide +kernel
theorem dX9_init_576 : decode cX9_init 576 = .ok (.iastore, 1) := by decide +kernel
theorem dX9_init_577 : decode cX9_init 577 = .ok (.dup, 1) := by decide +kernel
theorem dX9_init_578 : decode cX9_init 578 = .ok (.bipush 30, 2) := by decide +kernel
theorem dX9_init_580 : decode cX9_init 580 = .ok (.bipush 32, 2) := by decide +kernel
theorem dX9_init_582 : decode cX9_init 582 = .ok (.iastore, 1) := by decide +kernel
theorem dX9_init_583 : decode cX9_init 583 = .ok (.dup, 1) := by decide +kernel
theorem dX9_init_584 : decode cX9_init 584 = .ok (.bipush 31, 2) := by decide +kernel
theorem dX9_init_586 : decode cX9_init 586 = .ok (.bipush 32, 2) := by decide +kernel
theorem dX9_init_588 : decode cX9_init 588 = .ok (.iastore, 1) := by decide +kernel
theorem dX9_init_589 : decode cX9_init 589 = .ok (.dup, 1) := by decide +kernel
theorem dX9_init_590 : decode cX9_init 590 = .ok (.bipush 32, 2) := by decide +kernel
theorem dX9_init_592 : decode cX9_init 592 = .ok (.bipush 112, 2) := by decide +kernel
theorem dX9_init_594 : decode cX9_init 594 = .ok (.iastore, 1) := by decide +kernel
theorem dX9_init_595 : decode cX9_init 595 = .ok (.dup, 1) := by decide +kernel
theorem dX9_init_596 : decode cX9_init 596 = .ok (.bipush 33, 2) := by decide +kernel
theorem dX9_init_598 : decode cX9_init 598 = .ok (.bipush 97, 2) := by decide +kernel
theorem dX9_init_600 : decode cX9_init 600 = .ok (.iastore, 1) := by decide +kernel
theorem dX9_init_601 : decode cX9_init 601 = .ok (.dup, 1) := by decide +kernel
theorem dX9_init_602 : decode cX9_init 602 = .ok (.bipush 34, 2) := by decide +kernel
theorem dX9_init_604 : decode cX9_init 604 = .ok (.bipush 99, 2) := by decide +kernel
theorem dX9_init_606 : decode cX9_init 606 = .ok (.iastore, 1) := by decide +kernel
theorem dX9_init_607 : decode cX9_init 607 = .ok (.dup, 1) := by decide +kernel
theorem dX9_init_608 : decode cX9_init 608 = .ok (.bipush 35, 2) := by decide +kernel
theorem dX9_init_610 : decode cX9_init 610 = .ok (.bipush 101, 2) := by decide +kernel
theorem dX9_init_612 : decode cX9_init 612 = .ok (.iastore, 1) := by decide +kernel
theorem dX9_init_613 : decode cX9_init 613 = .ok (.dup, 1) := by decide +kernel
theorem dX9_init_614 : decode cX9_init 614 = .ok (.bipush 36, 2) := by decide +kernel
theorem dX9_init_616 : decode cX9_init 616 = .ok (.bipush 32, 2) := by decide +kernel
theorem dX9_init_618 : decode cX9_init 618 = .ok (.iastore, 1) := by decide +kernel
theorem dX9_init_619 : decode cX9_init 619 = .ok (.dup, 1) := by decide +kernel
theorem dX9_init_620 : decode cX9_init 620 = .ok (.bipush 37, 2) := by decide +kernel
theorem dX9_init_622 : decode cX9_init 622 = .ok (.bipush 32, 2) := by decide +kernel
theorem dX9_init_624 : decode cX9_init 624 = .ok (.iastore, 1) := by decide +kernel
theorem dX9_init_625 : decode cX9_init 625 = .ok (.dup, 1) := by decide +kernel
theorem dX9_init_626 : decode cX9_init 626 = .ok (.bipush 38, 2) := by decide +kernel
theorem dX9_init_628 : decode cX9_init 628 = .ok (.bipush 32, 2) := by decide +kernel
theorem dX9_init_630 : decode cX9_init 630 = .ok (.iastore, 1) := by decide +kernel
theorem dX9_init_631 : decode cX9_init 631 = .ok (.dup, 1) := by decide +kernel
theorem dX9_init_632 : decode cX9_init 632 = .ok (.bipush 39, 2) := by decide +kernel
theorem dX9_init_634 : decode cX9_init 634 = .ok (.bipush 32, 2) := by decide +kernel
theorem dX9_init_636 : decode cX9_init 636 = .ok (.iastore, 1) := by decide +kernel
theorem dX9_init_637 : decode cX9_init 637 = .ok (.dup, 1) := by decide +kernel
theorem dX9_init_638 : decode cX9_init 638 = .ok (.bipush 40, 2) := by decide +kernel
theorem dX9_init_640 : decode cX9_init 640 = .ok (.bipush 97, 2) := by decide +kernel
theorem dX9_init_642 : decode cX9_init 642 = .ok (.iastore, 1) := by decide +kernel
theorem dX9_init_643 : decode cX9_init 643 = .ok (.dup, 1) := by decide +kernel
theorem dX9_init_644 : decode cX9_init 644 = .ok (.bipush 41, 2) := by decide +kernel
theorem dX9_init_646 : decode cX9_init 646 = .ok (.bipush 99, 2) := by decide +kernel
theorem dX9_init_648 : decode cX9_init 648 = .ok (.iastore, 1) := by decide +kernel
theorem dX9_init_649 : decode cX9_init 649 = .ok (.dup, 1) := by decide +kernel
theorem dX9_init_650 : decode cX9_init 650 = .ok (.bipush 42, 2) := by decide +kernel
theorem dX9_init_652 : decode cX9_init 652 = .ok (.bipush 116, 2) := by decide +kernel
theorem dX9_init_654 : decode cX9_init 654 = .ok (.iastore, 1) := by decide +kernel
theorem dX9_init_655 : decode cX9_init 655 = .ok (.dup, 1) := by decide +kernel
theorem dX9_init_656 : decode cX9_init 656 = .ok (.bipush 43, 2) := by decide +kernel
theorem dX9_init_658 : decode cX9_init 658 = .ok (.bipush 32, 2) := by decide +kernel
theorem dX9_init_660 : decode cX9_init 660 = .ok (.iastore, 1) := by decide +kernel
theorem dX9_init_661 : decode cX9_init 661 = .ok (.dup, 1) := by decide +kernel
theorem dX9_init_662 : decode cX9_init 662 = .ok (.bipush 44, 2) := by decide +kernel
theorem dX9_init_664 : decode cX9_init 664 = .ok (.bipush 32, 2) := by decide +kernel
theorem dX9_init_666 : decode cX9_init 666 = .ok (.iastore, 1) := by decide +kernel
theorem dX9_init_667 : decode cX9_init 667 = .ok (.dup, 1) := by decide +kernel
theorem dX9_init_668 : decode cX9_init 668 = .ok (.bipush 45, 2) := by decide +kernel
theorem dX9_init_670 : decode cX9_init 670 = .ok (.bipush 32, 2) := by decide +kernel
theorem dX9_init_672 : decode cX9_init 672 = .ok (.iastore, 1) := by decide +kernel
theorem dX9_init_673 : decode cX9_init 673 = .ok (.dup, 1) := by decide +kernel
theorem dX9_init_674 : decode cX9_init 674 = .ok (.bipush 46, 2) := by decide +kernel
theorem dX9_init_676 : decode cX9_init 676 = .ok (.bipush 32, 2) := by decide +kernel
theorem dX9_init_678 : decode cX9_init 678 = .ok (.iastore, 1) := by decide +kernel
theorem dX9_init_679 : decode cX9_init 679 = .ok (.dup, 1) := by decide +kernel
theorem dX9_init_680 : decode cX9_init 680 = .ok (.bipush 47, 2) := by decide +kernel
theorem dX9_init_682 : decode cX9_init 682 = .ok (.bipush 32, 2) := by decide +kernel
theorem dX9_init_684 : decode cX9_init 684 = .ok (.iastore, 1) := by decide +kernel
theorem dX9_init_685 : decode cX9_init 685 = .ok (.dup, 1) := by decide +kernel
theorem dX9_init_686 : decode cX9_init 686 = .ok (.bipush 48, 2) := by decide +kernel
theorem dX9_init_688 : decode cX9_init 688 = .ok (.bipush 104, 2) := by decide +kernel
theorem dX9_init_690 : decode cX9_init 690 = .ok (.iastore, 1) := by decide +kernel
theorem dX9_init_691 : decode cX9_init 691 = .ok (.dup, 1) := by decide +kernel
theorem dX9_init_692 : decode cX9_init 692 = .ok (.bipush 49, 2) := by decide +kernel
theorem dX9_init_694 : decode cX9_init 694 = .ok (.bipush 105, 2) := by decide +kernel
theorem dX9_init_696 : decode cX9_init 696 = .ok (.iastore, 1) := by decide +kernel
theorem dX9_init_697 : decode cX9_init 697 = .ok (.dup, 1) := by decide +kernel
theorem dX9_init_698 : decode cX9_init 698 = .ok (.bipush 50, 2) := by decide +kernel
theorem dX9_init_700 : decode cX9_init 700 = .ok (.bipush 115, 2) := by decide +kernel
theorem dX9_init_702 : decode cX9_init 702 = .ok (.iastore, 1) := by decide +kernel
theorem dX9_init_703 : decode cX9_init 703 = .ok (.dup, 1) := by decide +kernel
theorem dX9_init_704 : decode cX9_init 704 = .ok (.bipush 51, 2) := by decide +kernel
theorem dX9_init_706 : decode cX9_init 706 = .ok (.bipush 32, 2) := by decide +kernel
theorem dX9_init_708 : decode cX9_init 708 = .ok (.iastore, 1) := by decide +kernel
theorem dX9_init_709 : decode cX9_init 709 = .ok (.dup, 1) := by decide +kernel
theorem dX9_init_710 : decode cX9_init 710 = .ok (.bipush 52, 2) := by decide +kernel
theorem dX9_init_712 : decode cX9_init 712 = .ok (.bipush 32, 2) := by decide +kernel
theorem dX9_init_714 : decode cX9_init 714 = .ok (.iastore, 1) := by decide +kernel
theorem dX9_init_715 : decode cX9_init 715 = .ok (.dup, 1) := by decide +kernel
theorem dX9_init_716 : decode cX9_init 716 = .ok (.bipush 53, 2) := by decide +kernel
theorem dX9_init_718 : decode cX9_init 718 = .ok (.bipush 32, 2) := by decide +kernel
theorem dX9_init_720 : decode cX9_init 720 = .ok (.iastore, 1) := by decide +kernel
theorem dX9_init_721 : decode cX9_init 721 = .ok (.dup, 1) := by decide +kernel
theorem dX9_init_722 : decode cX9_init 722 = .ok (.bipush 54, 2) := by decide +kernel
theorem dX9_init_724 : decode cX9_init 724 = .ok (.bipush 32, 2) := by decide +kernel
theorem dX9_init_726 : decode cX9_init 726 = .ok (.iastore, 1) := by decide +kernel
theorem dX9_init_727 : decode cX9_init 727 = .ok (.dup, 1) := by decide +kernel
theorem dX9_init_728 : decode cX9_init 728 = .ok (.bipush 55, 2) := by decide +kernel
theorem dX9_init_730 : decode cX9_init 730 = .ok (.bipush 32, 2) := by decide +kernel
theorem dX9_init_732 : decode cX9_init 732 = .ok (.iastore, 1) := by decide +kernel
theorem dX9_init_733 : decode cX9_init 733 = .ok (.dup, 1) := by decide +kernel
theorem dX9_init_734 : decode cX9_init 734 = .ok (.bipush 56, 2) := by decide +kernel
theorem dX9_init_736 : decode cX9_init 736 = .ok (.bipush 99, 2) := by decide +kernel
theorem dX9_init_738 : decode cX9_init 738 = .ok (.iastore, 1) := by decide +kernel
theorem dX9_init_739 : decode cX9_init 739 = .ok (.dup, 1) := by decide +kernel
theorem dX9_init_740 : decode cX9_init 740 = .ok (.bipush 57, 2) := by decide +kernel
theorem dX9_init_742 : decode cX9_init 742 = .ok (.bipush 101, 2) := by decide +kernel
theorem dX9_init_744 : decode cX9_init 744 = .ok (.iastore, 1) := by decide +kernel
theorem dX9_init_745 : decode cX9_init 745 = .ok (.dup, 1) := by decide +kernel
theorem dX9_init_746 : decode cX9_init 746 = .ok (.bipush 58, 2) := by decide +kernel
theorem dX9_init_748 : decode cX9_init 748 = .ok (.bipush 108, 2) := by decide +kernel
theorem dX9_init_750 : decode cX9_init 750 = .ok (.iastore, 1) := by decide +kernel
theorem dX9_init_751 : decode cX9_init 751 = .ok (.dup, 1) := by decide +kernel
theorem dX9_init_752 : decode cX9_init 752 = .ok (.bipush 59, 2) := by decide +kernel
theorem dX9_init_754 : decode cX9_init 754 = .ok (.bipush 108, 2) := by decide +kernel
theorem dX9_init_756 : decode cX9_init 756 = .ok (.iastore, 1) := by decide +kernel
theorem dX9_init_757 : decode cX9_init 757 = .ok (.dup, 1) := by decide +kernel
theorem dX9_init_758 : decode cX9_init 758 = .ok (.bipush 60, 2) := by decide +kernel
theorem dX9_init_760 : decode cX9_init 760 = .ok (.bipush 32, 2) := by decide +kernel
theorem dX9_init_762 : decode cX9_init 762 = .ok (.iastore, 1) := by decide +kernel
theorem dX9_init_763 : decode cX9_init 763 = .ok (.dup, 1) := by decide +kernel
theorem dX9_init_764 : decode cX9_init 764 = .ok (.bipush 61, 2) := by decide +kernel
theorem dX9_init_766 : decode cX9_init 766 = .ok (.bipush 32, 2) := by decide +kernel
theorem dX9_init_768 : decode cX9_init 768 = .ok (.iastore, 1) := by decide +kernel
theorem dX9_init_769 : decode cX9_init 769 = .ok (.dup, 1) := by decide +kernel
theorem dX9_init_770 : decode cX9_init 770 = .ok (.bipush 62, 2) := by decide +kernel
theorem dX9_init_772 : decode cX9_init 772 = .ok (.bipush 32, 2) := by decide +kernel
theorem dX9_init_774 : decode cX9_init 774 = .ok (.iastore, 1) := by decide +kernel
theorem dX9_init_775 : decode cX9_init 775 = .ok (.dup, 1) := by decide +kernel
theorem dX9_init_776 : decode cX9_init 776 = .ok (.bipush 63, 2) := by decide +kernel
theorem dX9_init_778 : decode cX9_init 778 = .ok (.bipush 32, 2) := by decide +kernel
theorem dX9_init_780 : decode cX9_init 780 = .ok (.iastore, 1) := by decide +kernel
theorem dX9_init_781 : decode cX9_init 781 = .ok (.dup, 1) := by decide +kernel
theorem dX9_init_782 : decode cX9_init 782 = .ok (.bipush 64, 2) := by decide +kernel
theorem dX9_init_784 : decode cX9_init 784 = .ok (.bipush 107, 2) := by decide +kernel
theorem dX9_init_786 : decode cX9_init 786 = .ok (.iastore, 1) := by decide +kernel
theorem dX9_init_787 : decode cX9_init 787 = .ok (.dup, 1) := by decide +kernel
theorem dX9_init_788 : decode cX9_init 788 = .ok (.bipush 65, 2) := by decide +kernel
theorem dX9_init_790 : decode cX9_init 790 = .ok (.bipush 110, 2) := by decide +kernel
theorem dX9_init_792 : decode cX9_init 792 = .ok (.iastore, 1) := by decide +kernel
theorem dX9_init_793 : decode cX9_init 793 = .ok (.dup, 1) := by decide +kernel
theorem dX9_init_794 : decode cX9_init 794 = .ok (.bipush 66, 2) := by decide +kernel
theorem dX9_init_796 : decode cX9_init 796 = .ok (.bipush 101, 2) := by decide +kernel
theorem dX9_init_798 : decode cX9_init 798 = .ok (.iastore, 1) := by decide +kernel
theorem dX9_init_799 : decode cX9_init 799 = .ok (.dup, 1) := by decide +kernel
theorem dX9_init_800 : decode cX9_init 800 = .ok (.bipush 67, 2) := by decide +kernel
theorem dX9_init_802 : decode cX9_init 802 = .ok (.bipush 101, 2) := by decide +kernel
theorem dX9_init_804 : decode cX9_init 804 = .ok (.iastore, 1) := by decide +kernel
theorem dX9_init_805 : decode cX9_init 805 = .ok (.dup, 1) := by decide +kernel
theorem dX9_init_806 : decode cX9_init 806 = .ok (.bipush 68, 2) := by decide +kernel
theorem dX9_init_808 : decode cX9_init 808 = .ok (.bipush 32, 2) := by decide +kernel
theorem dX9_init_810 : decode cX9_init 810 = .ok (.iastore, 1) := by decide +kernel
theorem dX9_init_811 : decode cX9_init 811 = .ok (.dup, 1) := by decide +kernel
theorem dX9_init_812 : decode cX9_init 812 = .ok (.bipush 69, 2) := by decide +kernel
theorem dX9_init_814 : decode cX9_init 814 = .ok (.bipush 32, 2) := by decide +kernel
theorem dX9_init_816 : decode cX9_init 816 = .ok (.iastore, 1) := by decide +kernel
theorem dX9_init_817 : decode cX9_init 817 = .ok (.dup, 1) := by decide +kernel
theorem dX9_init_818 : decode cX9_init 818 = .ok (.bipush 70, 2) := by decide +kernel
theorem dX9_init_820 : decode cX9_init 820 = .ok (.bipush 32, 2) := by decide +kernel
theorem dX9_init_822 : decode cX9_init 822 = .ok (.iastore, 1) := by decide +kernel
theorem dX9_init_823 : decode cX9_init 823 = .ok (.dup, 1) := by decide +kernel
theorem dX9_init_824 : decode cX9_init 824 = .ok (.bipush 71, 2) := by decide +kernel
theorem dX9_init_826 : decode cX9_init 826 = .ok (.bipush 32, 2) := by decide +kernel
theorem dX9_init_828 : decode cX9_init 828 = .ok (.iastore, 1) := by decide +kernel
theorem dX9_init_829 : decode cX9_init 829 = .ok (.dup, 1) := by decide +kernel
theorem dX9_init_830 : decode cX9_init 830 = .ok (.bipush 72, 2) := by decide +kernel
theorem dX9_init_832 : decode cX9_init 832 = .ok (.bipush 111, 2) := by decide +kernel
theorem dX9_init_834 : decode cX9_init 834 = .ok (.iastore, 1) := by decide +kernel
theorem dX9_init_835 : decode cX9_init 835 = .ok (.dup, 1) := by decide +kernel
theorem dX9_init_836 : decode cX9_init 836 = .ok (.bipush 73, 2) := by decide +kernel
theorem dX9_init_838 : decode cX9_init 838 = .ok (.bipush 114, 2) := by decide +kernel
theorem dX9_init_840 : decode cX9_init 840 = .ok (.iastore, 1) := by decide +kernel
theorem dX9_init_841 : decode cX9_init 841 = .ok (.dup, 1) := by decide +kernel
theorem dX9_init_842 : decode cX9_init 842 = .ok (.bipush 74, 2) := by decide +kernel
theorem dX9_init_844 : decode cX9_init 844 = .ok (.bipush 32, 2) := by decide +kernel
theorem dX9_init_846 : decode cX9_init 846 = .ok (.iastore, 1) := by decide +kernel
theorem dX9_init_847 : decode cX9_init 847 = .ok (.dup, 1) := by decide +kernel
theorem dX9_init_848 : decode cX9_init 848 = .ok (.bipush 75, 2) := by decide +kernel
theorem dX9_init_850 : decode cX9_init 850 = .ok (.bipush 32, 2) := by decide +kernel
theorem dX9_init_852 : decode cX9_init 852 = .ok (.iastore, 1) := by decide +kernel
theorem dX9_init_853 : decode cX9_init 853 = .ok (.dup, 1) := by decide +kernel
theorem dX9_init_854 : decode cX9_init 854 = .ok (.bipush 76, 2) := by decide +kernel
theorem dX9_init_856 : decode cX9_init 856 = .ok (.bipush 32, 2) := by decide +kernel
theorem dX9_init_858 : decode cX9_init 858 = .ok (.iastore, 1) := by decide +kernel
theorem dX9_init_859 : decode cX9_init 859 = .ok (.dup, 1) := by decide +kernel
theorem dX9_init_860 : decode cX9_init 860 = .ok (.bipush 77, 2) := by decide +kernel
theorem dX9_init_862 : decode cX9_init 862 = .ok (.bipush 32, 2) := by decide +kernel
theorem dX9_init_864 : decode cX9_init 864 = .ok (.iastore, 1) := by decide +kernel
theorem dX9_init_865 : decode cX9_init 865 = .ok (.dup, 1) := by decide +kernel
theorem dX9_init_866 : decode cX9_init 866 = .ok (.bipush 78, 2) := by decide +kernel
theorem dX9_init_868 : decode cX9_init 868 = .ok (.bipush 32, 2) := by decide +kernel
theorem dX9_init_870 : decode cX9_init 870 = .ok (.iastore, 1) := by decide +kernel
theorem dX9_init_871 : decode cX9_init 871 = .ok (.dup, 1) := by decide +kernel
theorem dX9_init_872 : decode cX9_init 872 = .ok (.bipush 79, 2) := by decide +kernel
theorem dX9_init_874 : decode cX9_init 874 = .ok (.bipush 32, 2) := by decide +kernel
theorem dX9_init_876 : decode cX9_init 876 = .ok (.iastore, 1) := by decide +kernel
theorem dX9_init_877 : decode cX9_init 877 = .ok (.dup, 1) := by decide +kernel
theorem dX9_init_878 : decode cX9_init 878 = .ok (.bipush 80, 2) := by decide +kernel
theorem dX9_init_880 : decode cX9_init 880 = .ok (.bipush 97, 2) := by decide +kernel
theorem dX9_init_882 : decode cX9_init 882 = .ok (.iastore, 1) := by decide +kernel
theorem dX9_init_883 : decode cX9_init 883 = .ok (.dup, 1) := by decide +kernel
theorem dX9_init_884 : decode cX9_init 884 = .ok (.bipush 81, 2) := by decide +kernel
theorem dX9_init_886 : decode cX9_init 886 = .ok (.bipush 110, 2) := by decide +kernel
theorem dX9_init_888 : decode cX9_init 888 = .ok (.iastore, 1) := by decide +kernel
theorem dX9_init_889 : decode cX9_init 889 = .ok (.dup, 1) := by decide +kernel
theorem dX9_init_890 : decode cX9_init 890 = .ok (.bipush 82, 2) := by decide +kernel
theorem dX9_init_892 : decode cX9_init 892 = .ok (.bipush 100, 2) := by decide +kernel
theorem dX9_init_894 : decode cX9_init 894 = .ok (.iastore, 1) := by decide +kernel
theorem dX9_init_895 : decode cX9_init 895 = .ok (.dup, 1) := by decide +kernel
theorem dX9_init_896 : decode cX9_init 896 = .ok (.bipush 83, 2) := by decide +kernel
theorem dX9_init_898 : decode cX9_init 898 = .ok (.bipush 32, 2) := by decide +kernel
theorem dX9_init_900 : decode cX9_init 900 = .ok (.iastore, 1) := by decide +kernel
theorem dX9_init_901 : decode cX9_init 901 = .ok (.dup, 1) := by decide +kernel
theorem dX9_init_902 : decode cX9_init 902 = .ok (.bipush 84, 2) := by decide +kernel
theorem dX9_init_904 : decode cX9_init 904 = .ok (.bipush 32, 2) := by decide +kernel
theorem dX9_init_906 : decode cX9_init 906 = .ok (.iastore, 1) := by decide +kernel
theorem dX9_init_907 : decode cX9_init 907 = .ok (.dup, 1) := by decide +kernel
theorem dX9_init_908 : decode cX9_init 908 = .ok (.bipush 85, 2) := by decide +kernel
theorem dX9_init_910 : decode cX9_init 910 = .ok (.bipush 32, 2) := by decide +kernel
theorem dX9_init_912 : decode cX9_init 912 = .ok (.iastore, 1) := by decide +kernel
theorem dX9_init_913 : decode cX9_init 913 = .ok (.dup, 1) := by decide +kernel
theorem dX9_init_914 : decode cX9_init 914 = .ok (.bipush 86, 2) := by decide +kernel
theorem dX9_init_916 : decode cX9_init 916 = .ok (.bipush 32, 2) := by decide +kernel
theorem dX9_init_918 : decode cX9_init 918 = .ok (.iastore, 1) := by decide +kernel
theorem dX9_init_919 : decode cX9_init 919 = .ok (.dup, 1) := by decide +kernel
theorem dX9_init_920 : decode cX9_init 920 = .ok (.bipush 87, 2) := by decide +kernel
theorem dX9_init_922 : decode cX9_init 922 = .ok (.bipush 32, 2) := by decide +kernel
theorem dX9_init_924 : decode cX9_init 924 = .ok (.iastore, 1) := by decide +kernel
theorem dX9_init_925 : decode cX9_init 925 = .ok (.dup, 1) := by decide +kernel
theorem dX9_init_926 : decode cX9_init 926 = .ok (.bipush 88, 2) := by decide +kernel
theorem dX9_init_928 : decode cX9_init 928 = .ok (.bipush 110, 2) := by decide +kernel
theorem dX9_init_930 : decode cX9_init 930 = .ok (.iastore, 1) := by decide +kernel
theorem dX9_init_931 : decode cX9_init 931 = .ok (.dup, 1) := by decide +kernel
theorem dX9_init_932 : decode cX9_init 932 = .ok (.bipush 89, 2) := by decide +kernel
theorem dX9_init_934 : decode cX9_init 934 = .ok (.bipush 111, 2) := by decide +kernel
theorem dX9_init_936 : decode cX9_init 936 = .ok (.iastore, 1) := by decide +kernel
theorem dX9_init_937 : decode cX9_init 937 = .ok (.dup, 1) := by decide +kernel
theorem dX9_init_938 : decode cX9_init 938 = .ok (.bipush 90, 2) := by decide +kernel
theorem dX9_init_940 : decode cX9_init 940 = .ok (.bipush 116, 2) := by decide +kernel
theorem dX9_init_942 : decode cX9_init 942 = .ok (.iastore, 1) := by decide +kernel
theorem dX9_init_943 : decode cX9_init 943 = .ok (.dup, 1) := by decide +kernel
theorem dX9_init_944 : decode cX9_init 944 = .ok (.bipush 91, 2) := by decide +kernel
theorem dX9_init_946 : decode cX9_init 946 = .ok (.bipush 32, 2) := by decide +kernel
theorem dX9_init_948 : decode cX9_init 948 = .ok (.iastore, 1) := by decide +kernel
theorem dX9_init_949 : decode cX9_init 949 = .ok (.dup, 1) := by decide +kernel
theorem dX9_init_950 : decode cX9_init 950 = .ok (.bipush 92, 2) := by decide +kernel
theorem dX9_init_952 : decode cX9_init 952 = .ok (.bipush 32, 2) := by decide +kernel
theorem dX9_init_954 : decode cX9_init 954 = .ok (.iastore, 1) := by decide +kernel
theorem dX9_init_955 : decode cX9_init 955 = .ok (.dup, 1) := by decide +kernel
theorem dX9_init_956 : decode cX9_init 956 = .ok (.bipush 93, 2) := by decide +kernel
theorem dX9_init_958 : decode cX9_init 958 = .ok (.bipush 32, 2) := by decide +kernel
theorem dX9_init_960 : decode cX9_init 960 = .ok (.iastore, 1) := by decide +kernel
theorem dX9_init_961 : decode cX9_init 961 = .ok (.dup, 1) := by decide +kernel
theorem dX9_init_962 : decode cX9_init 962 = .ok (.bipush 94, 2) := by decide +kernel
theorem dX9_init_964 : decode cX9_init 964 = .ok (.bipush 32, 2) := by decide +kernel
theorem dX9_init_966 : decode cX9_init 966 = .ok (.iastore, 1) := by decide +kernel
theorem dX9_init_967 : decode cX9_init 967 = .ok (.dup, 1) := by decide +kernel
theorem dX9_init_968 : decode cX9_init 968 = .ok (.bipush 95, 2) := by decide +kernel
theorem dX9_init_970 : decode cX9_init 970 = .ok (.bipush 32, 2) := by decide +kernel
theorem dX9_init_972 : decode cX9_init 972 = .ok (.iastore, 1) := by decide +kernel
theorem dX9_init_973 : decode cX9_init 973 = .ok (.putfield 46, 3) := by decide +kernel
theorem dX9_init_976 : decode cX9_init 976 = .ok (.aload_n 0, 1) := by decide +kernel
theorem dX9_init_977 : decode cX9_init 977 = .ok (.sipush 200, 3) := by decide +kernel
theorem dX9_init_980 : decode cX9_init 980 = .ok (.newarray .int, 2) := by decide +kernel
theorem dX9_init_982 : decode cX9_init 982 = .ok (.putfield 49, 3) := by decide +kernel
theorem dX9_init_985 : decode cX9_init 985 = .ok (.aload_n 0, 1) := by decide +kernel
theorem dX9_init_986 : decode cX9_init 986 = .ok (.sipush 200, 3) := by decide +kernel
theorem dX9_init_989 : decode cX9_init 989 = .ok (.newarray .int, 2) := by decide +kernel
theorem dX9_init_991 : decode cX9_init 991 = .ok (.putfield 52, 3) := by decide +kernel
theorem dX9_init_994 : decode cX9_init 994 = .ok (.aload_n 0, 1) := by decide +kernel
theorem dX9_init_995 : decode cX9_init 995 = .ok (.bipush 6, 2) := by decide +kernel
theorem dX9_init_997 : decode cX9_init 997 = .ok (.newarray .int, 2) := by decide +kernel
theorem dX9_init_999 : decode cX9_init 999 = .ok (.putfield 55, 3) := by decide +kernel
theorem dX9_init_1002 : decode cX9_init 1002 = .ok (.aload_n 0, 1) := by decide +kernel
theorem dX9_init_1003 : decode cX9_init 1003 = .ok (.sipush 288, 3) := by decide +kernel
theorem dX9_init_1006 : decode cX9_init 1006 = .ok (.newarray .int, 2) := by decide +kernel
theorem dX9_init_1008 : decode cX9_init 1008 = .ok (.putfield 58, 3) := by decide +kernel
theorem dX9_init_1011 : decode cX9_init 1011 = .ok (.aload_n 0, 1) := by decide +kernel
theorem dX9_init_1012 : decode cX9_init 1012 = .ok (.bipush 10, 2) := by decide +kernel
theorem dX9_init_1014 : decode cX9_init 1014 = .ok (.newarray .int, 2) := by decide +kernel
theorem dX9_init_1016 : decode cX9_init 1016 = .ok (.putfield 61, 3) := by decide +kernel
theorem dX9_init_1019 : decode cX9_init 1019 = .ok (.aload_n 0, 1) := by decide +kernel
theorem dX9_init_1020 : decode cX9_init 1020 = .ok (.bipush 30, 2) := by decide +kernel
theorem dX9_init_1022 : decode cX9_init 1022 = .ok (.newarray .int, 2) := by decide +kernel
theorem dX9_init_1024 : decode cX9_init 1024 = .ok (.putfield 64, 3) := by decide +kernel
theorem dX9_init_1027 : decode cX9_init 1027 = .ok (.iconst 0, 1) := by decide +kernel
theorem dX9_init_1028 : decode cX9_init 1028 = .ok (.istore_n 1, 1) := by decide +kernel
theorem dX9_init_1029 : decode cX9_init 1029 = .ok (.iload_n 1, 1) := by decide +kernel
theorem dX9_init_1030 : decode cX9_init 1030 = .ok (.bipush 48, 2) := by decide +kernel
theorem dX9_init_1032 : decode cX9_init 1032 = .ok (.if_icmp .ge 21, 3) := by decide +kernel
theorem dX9_init_1035 : decode cX9_init 1035 = .ok (.aload_n 0, 1) := by decide +kernel
theorem dX9_init_1036 : decode cX9_init 1036 = .ok (.getfield 19, 3) := by decide +kernel
theorem dX9_init_1039 : decode cX9_init 1039 = .ok (.iload_n 1, 1) := by decide +kernel
theorem dX9_init_1040 : decode cX9_init 1040 = .ok (.aload_n 0, 1) := by decide +kernel
theorem dX9_init_1041 : decode cX9_init 1041 = .ok (.getfield 43, 3) := by decide +kernel
theorem dX9_init_1044 : decode cX9_init 1044 = .ok (.iload_n 1, 1) := by decide +kernel
theorem dX9_init_1045 : decode cX9_init 1045 = .ok (.iaload, 1) := by decide +kernel
theorem dX9_init_1046 : decode cX9_init 1046 = .ok (.iastore, 1) := by decide +kernel
theorem dX9_init_1047 : decode cX9_init 1047 = .ok (.iinc 1 1, 3) := by decide +kernel
theorem dX9_init_1050 : decode cX9_init 1050 = .ok (.goto (-21), 3) := by decide +kernel
theorem dX9_init_1053 : decode cX9_init 1053 = .ok (.aload_n 0, 1) := by decide +kernel
theorem dX9_init_1054 : decode cX9_init 1054 = .ok (.bipush 48, 2) := by decide +kernel
theorem dX9_init_1056 : decode cX9_init 1056 = .ok (.putfield 67, 3) := by decide +kernel
theorem dX9_init_1059 : decode cX9_init 1059 = .ok (.aload_n 0, 1) := by decide +kernel
theorem dX9_init_1060 : decode cX9_init 1060 = .ok (.invokevirtual 71, 3) := by decide +kernel
theorem dX9_init_1063 : decode cX9_init 1063 = .ok (.pop, 1) := by decide +kernel
theorem dX9_init_1064 : decode cX9_init 1064 = .ok (.return_, 1) := by decide +kernel
theorem dX9_in_0 : decode cX9_in 0 = .ok (.iload_n 0, 1) := by decide +kernel
theorem dX9_in_1 : decode cX9_in 1 = .ok (.iload_n 1, 1) := by decide +kernel
theorem dX9_in_2 : decode cX9_in 2 = .ok (.if_icmp .lt 12, 3) := by decide +kernel
theorem dX9_in_5 : decode cX9_in 5 = .ok (.iload_n 0, 1) := by decide +kernel
theorem dX9_in_6 : decode cX9_in 6 = .ok (.iload_n 2, 1) := by decide +kernel
theorem dX9_in_7 : decode cX9_in 7 = .ok (.if_icmp .gt 7, 3) := by decide +kernel
theorem dX9_in_10 : decode cX9_in 10 = .ok (.iconst 1, 1) := by decide +kernel
theorem dX9_in_11 : decode cX9_in 11 = .ok (.goto 4, 3) := by decide +kernel
theorem dX9_in_14 : decode cX9_in 14 = .ok (.iconst 0, 1) := by decide +kernel
theorem dX9_in_15 : decode cX9_in 15 = .ok (.ireturn, 1) := by decide +kernel
theorem dX9_within_0 : decode cX9_within 0 = .ok (.iload_n 0, 1) := by decide +kernel
theorem dX9_within_1 : decode cX9_within 1 = .ok (.iload_n 1, 1) := by decide +kernel
theorem dX9_within_2 : decode cX9_within 2 = .ok (.if_icmp .ge 7, 3) := by decide +kernel
theorem dX9_within_5 : decode cX9_within 5 = .ok (.iload_n 1, 1) := by decide +kernel
theorem dX9_within_6 : decode cX9_within 6 = .ok (.goto 13, 3) := by decide +kernel
theorem dX9_within_9 : decode cX9_within 9 = .ok (.iload_n 0, 1) := by decide +kernel
theorem dX9_within_10 : decode cX9_within 10 = .ok (.iload_n 2, 1) := by decide +kernel
theorem dX9_within_11 : decode cX9_within 11 = .ok (.if_icmp .le 7, 3) := by decide +kernel
theorem dX9_within_14 : decode cX9_within 14 = .ok (.iload_n 2, 1) := by decide +kernel
theorem dX9_within_15 : decode cX9_within 15 = .ok (.goto 4, 3) := by decide +kernel
theorem dX9_within_18 : decode cX9_within 18 = .ok (.iload_n 0, 1) := by decide +kernel
theorem dX9_within_19 : decode cX9_within 19 = .ok (.ireturn, 1) := by decide +kernel
theorem dX9_isMan_0 : decode cX9_isMan 0 = .ok (.iload_n 1, 1) := by decide +kernel
theorem dX9_isMan_1 : decode cX9_isMan 1 = .ok (.iconst 0, 1) := by decide +kernel
theorem dX9_isMan_2 : decode cX9_isMan 2 = .ok (.aload_n 0, 1) := by decide +kernel
theorem dX9_isMan_3 : decode cX9_isMan 3 = .ok (.getfield 75, 3) := by decide +kernel
theorem dX9_isMan_6 : decode cX9_isMan 6 = .ok (.iconst 1, 1) := by decide +kernel
theorem dX9_isMan_7 : decode cX9_isMan 7 = .ok (.isub, 1) := by decide +kernel
theorem dX9_isMan_8 : decode cX9_isMan 8 = .ok (.invokestatic 78, 3) := by decide +kernel
theorem dX9_isMan_11 : decode cX9_isMan 11 = .ok (.ireturn, 1) := by decide +kernel
theorem dX9_areTwo_0 : decode cX9_areTwo 0 = .ok (.aload_n 0, 1) := by decide +kernel
theorem dX9_areTwo_1 : decode cX9_areTwo 1 = .ok (.iload_n 1, 1) := by decide +kernel
theorem dX9_areTwo_2 : decode cX9_areTwo 2 = .ok (.invokevirtual 82, 3) := by decide +kernel
theorem dX9_areTwo_5 : decode cX9_areTwo 5 = .ok (.ifCond .eq 20, 3) := by decide +kernel
theorem dX9_areTwo_8 : decode cX9_areTwo 8 = .ok (.aload_n 0, 1) := by decide +kernel
theorem dX9_areTwo_9 : decode cX9_areTwo 9 = .ok (.iload_n 2, 1) := by decide +kernel
theorem dX9_areTwo_10 : decode cX9_areTwo 10 = .ok (.invokevirtual 82, 3) := by decide +kernel
theorem dX9_areTwo_13 : decode cX9_areTwo 13 = .ok (.ifCond .eq 12, 3) := by decide +kernel
theorem dX9_areTwo_16 : decode cX9_areTwo 16 = .ok (.iload_n 1, 1) := by decide +kernel
theorem dX9_areTwo_17 : decode cX9_areTwo 17 = .ok (.iload_n 2, 1) := by decide +kernel
theorem dX9_areTwo_18 : decode cX9_areTwo 18 = .ok (.if_icmp .eq 7, 3) := by decide +kernel
theorem dX9_areTwo_21 : decode cX9_areTwo 21 = .ok (.iconst 1, 1) := by decide +kernel
theorem dX9_areTwo_22 : decode cX9_areTwo 22 = .ok (.goto 4, 3) := by decide +kernel
theorem dX9_areTwo_25 : decode cX9_areTwo 25 = .ok (.iconst 0, 1) := by decide +kernel
theorem dX9_areTwo_26 : decode cX9_areTwo 26 = .ok (.ireturn, 1) := by decide +kernel
theorem dX9_areTwoMen_0 : decode cX9_areTwoMen 0 = .ok (.iload_n 1, 1) := by decide +kernel
theorem dX9_areTwoMen_1 : decode cX9_areTwoMen 1 = .ok (.iconst 0, 1) := by decide +kernel
theorem dX9_areTwoMen_2 : decode cX9_areTwoMen 2 = .ok (.bipush 55, 2) := by decide +kernel
theorem dX9_areTwoMen_4 : decode cX9_areTwoMen 4 = .ok (.invokestatic 78, 3) := by decide +kernel
theorem dX9_areTwoMen_7 : decode cX9_areTwoMen 7 = .ok (.ifCond .eq 22, 3) := by decide +kernel
theorem dX9_areTwoMen_10 : decode cX9_areTwoMen 10 = .ok (.aload_n 0, 1) := by decide +kernel
theorem dX9_areTwoMen_11 : decode cX9_areTwoMen 11 = .ok (.iload_n 1, 1) := by decide +kernel
theorem dX9_areTwoMen_12 : decode cX9_areTwoMen 12 = .ok (.bipush 10, 2) := by decide +kernel
theorem dX9_areTwoMen_14 : decode cX9_areTwoMen 14 = .ok (.idiv, 1) := by decide +kernel
theorem dX9_areTwoMen_15 : decode cX9_areTwoMen 15 = .ok (.iload_n 1, 1) := by decide +kernel
theorem dX9_areTwoMen_16 : decode cX9_areTwoMen 16 = .ok (.bipush 10, 2) := by decide +kernel
theorem dX9_areTwoMen_18 : decode cX9_areTwoMen 18 = .ok (.irem, 1) := by decide +kernel
theorem dX9_areTwoMen_19 : decode cX9_areTwoMen 19 = .ok (.invokevirtual 86, 3) := by decide +kernel
theorem dX9_areTwoMen_22 : decode cX9_areTwoMen 22 = .ok (.ifCond .eq 7, 3) := by decide +kernel
theorem dX9_areTwoMen_25 : decode cX9_areTwoMen 25 = .ok (.iconst 1, 1) := by decide +kernel
theorem dX9_areTwoMen_26 : decode cX9_areTwoMen 26 = .ok (.goto 4, 3) := by decide +kernel
theorem dX9_areTwoMen_29 : decode cX9_areTwoMen 29 = .ok (.iconst 0, 1) := by decide +kernel
theorem dX9_areTwoMen_30 : decode cX9_areTwoMen 30 = .ok (.ireturn, 1) := by decide +kernel
theorem dX9_isPlan_0 : decode cX9_isPlan 0 = .ok (.iload_n 0, 1) := by decide +kernel
theorem dX9_isPlan_1 : decode cX9_isPlan 1 = .ok (.iconst 0, 1) := by decide +kernel
theorem dX9_isPlan_2 : decode cX9_isPlan 2 = .ok (.ldc 90, 2) := by decide +kernel
theorem dX9_isPlan_4 : decode cX9_isPlan 4 = .ok (.invokestatic 78, 3) := by decide +kernel
theorem dX9_isPlan_7 : decode cX9_isPlan 7 = .ok (.ireturn, 1) := by decide +kernel
theorem dX9_count_0 : decode cX9_count 0 = .ok (.iload_n 1, 1) := by decide +kernel
theorem dX9_count_1 : decode cX9_count 1 = .ok (.tableswitch 60 0 4 #[35, 40, 45, 50, 55], 35) := by decide +kernel
theorem dX9_count_36 : decode cX9_count 36 = .ok (.aload_n 0, 1) := by decide +kernel
theorem dX9_count_37 : decode cX9_count 37 = .ok (.getfield 75, 3) := by decide +kernel
theorem dX9_count_40 : decode cX9_count 40 = .ok (.ireturn, 1) := by decide +kernel
theorem dX9_count_41 : decode cX9_count 41 = .ok (.aload_n 0, 1) := by decide +kernel
theorem dX9_count_42 : decode cX9_count 42 = .ok (.getfield 91, 3) := by decide +kernel
theorem dX9_count_45 : decode cX9_count 45 = .ok (.ireturn, 1) := by decide +kernel
theorem dX9_count_46 : decode cX9_count 46 = .ok (.aload_n 0, 1) := by decide +kernel
theorem dX9_count_47 : decode cX9_count 47 = .ok (.getfield 94, 3) := by decide +kernel
theorem dX9_count_50 : decode cX9_count 50 = .ok (.ireturn, 1) := by decide +kernel
theorem dX9_count_51 : decode cX9_count 51 = .ok (.aload_n 0, 1) := by decide +kernel
theorem dX9_count_52 : decode cX9_count 52 = .ok (.getfield 97, 3) := by decide +kernel
theorem dX9_count_55 : decode cX9_count 55 = .ok (.ireturn, 1) := by decide +kernel
theorem dX9_count_56 : decode cX9_count 56 = .ok (.aload_n 0, 1) := by decide +kernel
theorem dX9_count_57 : decode cX9_count 57 = .ok (.getfield 67, 3) := by decide +kernel
theorem dX9_count_60 : decode cX9_count 60 = .ok (.ireturn, 1) := by decide +kernel
theorem dX9_count_61 : decode cX9_count 61 = .ok (.bipush (-2), 2) := by decide +kernel
theorem dX9_count_63 : decode cX9_count 63 = .ok (.ireturn, 1) := by decide +kernel
theorem dX9_isByte_0 : decode cX9_isByte 0 = .ok (.iload_n 0, 1) := by decide +kernel
theorem dX9_isByte_1 : decode cX9_isByte 1 = .ok (.iconst 0, 1) := by decide +kernel
theorem dX9_isByte_2 : decode cX9_isByte 2 = .ok (.sipush 255, 3) := by decide +kernel
theorem dX9_isByte_5 : decode cX9_isByte 5 = .ok (.invokestatic 78, 3) := by decide +kernel
theorem dX9_isByte_8 : decode cX9_isByte 8 = .ok (.ireturn, 1) := by decide +kernel
theorem dX9_feed_0 : decode cX9_feed 0 = .ok (.iload_n 1, 1) := by decide +kernel
theorem dX9_feed_1 : decode cX9_feed 1 = .ok (.iconst 1, 1) := by decide +kernel
theorem dX9_feed_2 : decode cX9_feed 2 = .ok (.iconst 5, 1) := by decide +kernel
theorem dX9_feed_3 : decode cX9_feed 3 = .ok (.invokestatic 78, 3) := by decide +kernel
theorem dX9_feed_6 : decode cX9_feed 6 = .ok (.ifCond .eq 41, 3) := by decide +kernel
theorem dX9_feed_9 : decode cX9_feed 9 = .ok (.iload_n 2, 1) := by decide +kernel
theorem dX9_feed_10 : decode cX9_feed 10 = .ok (.invokestatic 100, 3) := by decide +kernel
theorem dX9_feed_13 : decode cX9_feed 13 = .ok (.ifCond .eq 34, 3) := by decide +kernel
theorem dX9_feed_16 : decode cX9_feed 16 = .ok (.iload_n 3, 1) := by decide +kernel
theorem dX9_feed_17 : decode cX9_feed 17 = .ok (.invokestatic 100, 3) := by decide +kernel
theorem dX9_feed_20 : decode cX9_feed 20 = .ok (.ifCond .eq 27, 3) := by decide +kernel
theorem dX9_feed_23 : decode cX9_feed 23 = .ok (.iload 4, 2) := by decide +kernel
theorem dX9_feed_25 : decode cX9_feed 25 = .ok (.invokestatic 100, 3) := by decide +kernel
theorem dX9_feed_28 : decode cX9_feed 28 = .ok (.ifCond .eq 19, 3) := by decide +kernel
theorem dX9_feed_31 : decode cX9_feed 31 = .ok (.iload 5, 2) := by decide +kernel
theorem dX9_feed_33 : decode cX9_feed 33 = .ok (.invokestatic 100, 3) := by decide +kernel
theorem dX9_feed_36 : decode cX9_feed 36 = .ok (.ifCond .eq 11, 3) := by decide +kernel
theorem dX9_feed_39 : decode cX9_feed 39 = .ok (.iload 6, 2) := by decide +kernel
theorem dX9_feed_41 : decode cX9_feed 41 = .ok (.invokestatic 100, 3) := by decide +kernel
theorem dX9_feed_44 : decode cX9_feed 44 = .ok (.ifCond .ne 6, 3) := by decide +kernel
theorem dX9_feed_47 : decode cX9_feed 47 = .ok (.bipush (-2), 2) := by decide +kernel
theorem dX9_feed_49 : decode cX9_feed 49 = .ok (.ireturn, 1) := by decide +kernel
theorem dX9_feed_50 : decode cX9_feed 50 = .ok (.aload_n 0, 1) := by decide +kernel
theorem dX9_feed_51 : decode cX9_feed 51 = .ok (.getfield 67, 3) := by decide +kernel
theorem dX9_feed_54 : decode cX9_feed 54 = .ok (.iload_n 1, 1) := by decide +kernel
theorem dX9_feed_55 : decode cX9_feed 55 = .ok (.iadd, 1) := by decide +kernel
theorem dX9_feed_56 : decode cX9_feed 56 = .ok (.sipush 160, 3) := by decide +kernel
theorem dX9_feed_59 : decode cX9_feed 59 = .ok (.if_icmp .le 6, 3) := by decide +kernel
theorem dX9_feed_62 : decode cX9_feed 62 = .ok (.bipush (-4), 2) := by decide +kernel
theorem dX9_feed_64 : decode cX9_feed 64 = .ok (.ireturn, 1) := by decide +kernel
theorem dX9_feed_65 : decode cX9_feed 65 = .ok (.iconst 0, 1) := by decide +kernel
theorem dX9_feed_66 : decode cX9_feed 66 = .ok (.istore 7, 2) := by decide +kernel
theorem dX9_feed_68 : decode cX9_feed 68 = .ok (.iload 7, 2) := by decide +kernel
theorem dX9_feed_70 : decode cX9_feed 70 = .ok (.iload_n 1, 1) := by decide +kernel
theorem dX9_feed_71 : decode cX9_feed 71 = .ok (.if_icmp .ge 71, 3) := by decide +kernel
theorem dX9_feed_74 : decode cX9_feed 74 = .ok (.aload_n 0, 1) := by decide +kernel
theorem dX9_feed_75 : decode cX9_feed 75 = .ok (.getfield 19, 3) := by decide +kernel
theorem dX9_feed_78 : decode cX9_feed 78 = .ok (.aload_n 0, 1) := by decide +kernel
theorem dX9_feed_79 : decode cX9_feed 79 = .ok (.getfield 67, 3) := by decide +kernel
theorem dX9_feed_82 : decode cX9_feed 82 = .ok (.iload 7, 2) := by decide +kernel
theorem dX9_feed_84 : decode cX9_feed 84 = .ok (.ifCond .ne 7, 3) := by decide +kernel
theorem dX9_feed_87 : decode cX9_feed 87 = .ok (.iload_n 2, 1) := by decide +kernel
theorem dX9_feed_88 : decode cX9_feed 88 = .ok (.goto 37, 3) := by decide +kernel
theorem dX9_feed_91 : decode cX9_feed 91 = .ok (.iload 7, 2) := by decide +kernel
theorem dX9_feed_93 : decode cX9_feed 93 = .ok (.iconst 1, 1) := by decide +kernel
theorem dX9_feed_94 : decode cX9_feed 94 = .ok (.if_icmp .ne 7, 3) := by decide +kernel
theorem dX9_feed_97 : decode cX9_feed 97 = .ok (.iload_n 3, 1) := by decide +kernel
theorem dX9_feed_98 : decode cX9_feed 98 = .ok (.goto 27, 3) := by decide +kernel
theorem dX9_feed_101 : decode cX9_feed 101 = .ok (.iload 7, 2) := by decide +kernel
theorem dX9_feed_103 : decode cX9_feed 103 = .ok (.iconst 2, 1) := by decide +kernel
theorem dX9_feed_104 : decode cX9_feed 104 = .ok (.if_icmp .ne 8, 3) := by decide +kernel
theorem dX9_feed_107 : decode cX9_feed 107 = .ok (.iload 4, 2) := by decide +kernel
theorem dX9_feed_109 : decode cX9_feed 109 = .ok (.goto 16, 3) := by decide +kernel
theorem dX9_feed_112 : decode cX9_feed 112 = .ok (.iload 7, 2) := by decide +kernel
theorem dX9_feed_114 : decode cX9_feed 114 = .ok (.iconst 3, 1) := by decide +kernel
theorem dX9_feed_115 : decode cX9_feed 115 = .ok (.if_icmp .ne 8, 3) := by decide +kernel
theorem dX9_feed_118 : decode cX9_feed 118 = .ok (.iload 5, 2) := by decide +kernel
theorem dX9_feed_120 : decode cX9_feed 120 = .ok (.goto 5, 3) := by decide +kernel
theorem dX9_feed_123 : decode cX9_feed 123 = .ok (.iload 6, 2) := by decide +kernel
theorem dX9_feed_125 : decode cX9_feed 125 = .ok (.iastore, 1) := by decide +kernel
theorem dX9_feed_126 : decode cX9_feed 126 = .ok (.aload_n 0, 1) := by decide +kernel
theorem dX9_feed_127 : decode cX9_feed 127 = .ok (.dup, 1) := by decide +kernel
theorem dX9_feed_128 : decode cX9_feed 128 = .ok (.getfield 67, 3) := by decide +kernel
theorem dX9_feed_131 : decode cX9_feed 131 = .ok (.iconst 1, 1) := by decide +kernel
theorem dX9_feed_132 : decode cX9_feed 132 = .ok (.iadd, 1) := by decide +kernel
theorem dX9_feed_133 : decode cX9_feed 133 = .ok (.putfield 67, 3) := by decide +kernel
theorem dX9_feed_136 : decode cX9_feed 136 = .ok (.iinc 7 1, 3) := by decide +kernel
theorem dX9_feed_139 : decode cX9_feed 139 = .ok (.goto (-71), 3) := by decide +kernel
theorem dX9_feed_142 : decode cX9_feed 142 = .ok (.aload_n 0, 1) := by decide +kernel
theorem dX9_feed_143 : decode cX9_feed 143 = .ok (.getfield 67, 3) := by decide +kernel
theorem dX9_feed_146 : decode cX9_feed 146 = .ok (.ireturn, 1) := by decide +kernel
theorem dX9_wordFrom_0 : decode cX9_wordFrom 0 = .ok (.iconst 0, 1) := by decide +kernel
theorem dX9_wordFrom_1 : decode cX9_wordFrom 1 = .ok (.istore_n 3, 1) := by decide +kernel
theorem dX9_wordFrom_2 : decode cX9_wordFrom 2 = .ok (.iload_n 3, 1) := by decide +kernel
theorem dX9_wordFrom_3 : decode cX9_wordFrom 3 = .ok (.bipush 12, 2) := by decide +kernel
theorem dX9_wordFrom_5 : decode cX9_wordFrom 5 = .ok (.if_icmp .ge 96, 3) := by decide +kernel
theorem dX9_wordFrom_8 : decode cX9_wordFrom 8 = .ok (.iload_n 2, 1) := by decide +kernel
theorem dX9_wordFrom_9 : decode cX9_wordFrom 9 = .ok (.iload_n 1, 1) := by decide +kernel
theorem dX9_wordFrom_10 : decode cX9_wordFrom 10 = .ok (.isub, 1) := by decide +kernel
theorem dX9_wordFrom_11 : decode cX9_wordFrom 11 = .ok (.bipush 8, 2) := by decide +kernel
theorem dX9_wordFrom_13 : decode cX9_wordFrom 13 = .ok (.if_icmp .gt 7, 3) := by decide +kernel
theorem dX9_wordFrom_16 : decode cX9_wordFrom 16 = .ok (.iconst 1, 1) := by decide +kernel
theorem dX9_wordFrom_17 : decode cX9_wordFrom 17 = .ok (.goto 4, 3) := by decide +kernel
theorem dX9_wordFrom_20 : decode cX9_wordFrom 20 = .ok (.iconst 0, 1) := by decide +kernel
theorem dX9_wordFrom_21 : decode cX9_wordFrom 21 = .ok (.istore 4, 2) := by decide +kernel
theorem dX9_wordFrom_23 : decode cX9_wordFrom 23 = .ok (.iconst 0, 1) := by decide +kernel
theorem dX9_wordFrom_24 : decode cX9_wordFrom 24 = .ok (.istore 5, 2) := by decide +kernel
theorem dX9_wordFrom_26 : decode cX9_wordFrom 26 = .ok (.iload 5, 2) := by decide +kernel
theorem dX9_wordFrom_28 : decode cX9_wordFrom 28 = .ok (.bipush 8, 2) := by decide +kernel
theorem dX9_wordFrom_30 : decode cX9_wordFrom 30 = .ok (.if_icmp .ge 58, 3) := by decide +kernel
theorem dX9_wordFrom_33 : decode cX9_wordFrom 33 = .ok (.iload 4, 2) := by decide +kernel
theorem dX9_wordFrom_35 : decode cX9_wordFrom 35 = .ok (.ifCond .eq 53, 3) := by decide +kernel
theorem dX9_wordFrom_38 : decode cX9_wordFrom 38 = .ok (.aload_n 0, 1) := by decide +kernel
theorem dX9_wordFrom_39 : decode cX9_wordFrom 39 = .ok (.getfield 46, 3) := by decide +kernel
theorem dX9_wordFrom_42 : decode cX9_wordFrom 42 = .ok (.bipush 8, 2) := by decide +kernel
theorem dX9_wordFrom_44 : decode cX9_wordFrom 44 = .ok (.iload_n 3, 1) := by decide +kernel
theorem dX9_wordFrom_45 : decode cX9_wordFrom 45 = .ok (.imul, 1) := by decide +kernel
theorem dX9_wordFrom_46 : decode cX9_wordFrom 46 = .ok (.iload 5, 2) := by decide +kernel
theorem dX9_wordFrom_48 : decode cX9_wordFrom 48 = .ok (.iadd, 1) := by decide +kernel
theorem dX9_wordFrom_49 : decode cX9_wordFrom 49 = .ok (.iaload, 1) := by decide +kernel
theorem dX9_wordFrom_50 : decode cX9_wordFrom 50 = .ok (.iload_n 1, 1) := by decide +kernel
theorem dX9_wordFrom_51 : decode cX9_wordFrom 51 = .ok (.iload 5, 2) := by decide +kernel
theorem dX9_wordFrom_53 : decode cX9_wordFrom 53 = .ok (.iadd, 1) := by decide +kernel
theorem dX9_wordFrom_54 : decode cX9_wordFrom 54 = .ok (.iload_n 2, 1) := by decide +kernel
theorem dX9_wordFrom_55 : decode cX9_wordFrom 55 = .ok (.if_icmp .ge 15, 3) := by decide +kernel
theorem dX9_wordFrom_58 : decode cX9_wordFrom 58 = .ok (.aload_n 0, 1) := by decide +kernel
theorem dX9_wordFrom_59 : decode cX9_wordFrom 59 = .ok (.getfield 19, 3) := by decide +kernel
theorem dX9_wordFrom_62 : decode cX9_wordFrom 62 = .ok (.iload_n 1, 1) := by decide +kernel
theorem dX9_wordFrom_63 : decode cX9_wordFrom 63 = .ok (.iload 5, 2) := by decide +kernel
theorem dX9_wordFrom_65 : decode cX9_wordFrom 65 = .ok (.iadd, 1) := by decide +kernel
theorem dX9_wordFrom_66 : decode cX9_wordFrom 66 = .ok (.iaload, 1) := by decide +kernel
theorem dX9_wordFrom_67 : decode cX9_wordFrom 67 = .ok (.goto 5, 3) := by decide +kernel
theorem dX9_wordFrom_70 : decode cX9_wordFrom 70 = .ok (.bipush 32, 2) := by decide +kernel
theorem dX9_wordFrom_72 : decode cX9_wordFrom 72 = .ok (.if_icmp .ne 7, 3) := by decide +kernel
theorem dX9_wordFrom_75 : decode cX9_wordFrom 75 = .ok (.iconst 1, 1) := by decide +kernel
theorem dX9_wordFrom_76 : decode cX9_wordFrom 76 = .ok (.goto 4, 3) := by decide +kernel
theorem dX9_wordFrom_79 : decode cX9_wordFrom 79 = .ok (.iconst 0, 1) := by decide +kernel
theorem dX9_wordFrom_80 : decode cX9_wordFrom 80 = .ok (.istore 4, 2) := by decide +kernel
theorem dX9_wordFrom_82 : decode cX9_wordFrom 82 = .ok (.iinc 5 1, 3) := by decide +kernel
theorem dX9_wordFrom_85 : decode cX9_wordFrom 85 = .ok (.goto (-59), 3) := by decide +kernel
theorem dX9_wordFrom_88 : decode cX9_wordFrom 88 = .ok (.iload 4, 2) := by decide +kernel
theorem dX9_wordFrom_90 : decode cX9_wordFrom 90 = .ok (.ifCond .eq 5, 3) := by decide +kernel
theorem dX9_wordFrom_93 : decode cX9_wordFrom 93 = .ok (.iload_n 3, 1) := by decide +kernel
theorem dX9_wordFrom_94 : decode cX9_wordFrom 94 = .ok (.ireturn, 1) := by decide +kernel
theorem dX9_wordFrom_95 : decode cX9_wordFrom 95 = .ok (.iinc 3 1, 3) := by decide +kernel
theorem dX9_wordFrom_98 : decode cX9_wordFrom 98 = .ok (.goto (-96), 3) := by decide +kernel
theorem dX9_wordFrom_101 : decode cX9_wordFrom 101 = .ok (.bipush 12, 2) := by decide +kernel
theorem dX9_wordFrom_103 : decode cX9_wordFrom 103 = .ok (.ireturn, 1) := by decide +kernel
theorem dX9_next_0 : decode cX9_next 0 = .ok (.aload_n 0, 1) := by decide +kernel
theorem dX9_next_1 : decode cX9_next 1 = .ok (.getfield 103, 3) := by decide +kernel
theorem dX9_next_4 : decode cX9_next 4 = .ok (.aload_n 0, 1) := by decide +kernel
theorem dX9_next_5 : decode cX9_next 5 = .ok (.getfield 67, 3) := by decide +kernel
theorem dX9_next_8 : decode cX9_next 8 = .ok (.if_icmp .ge 44, 3) := by decide +kernel
theorem dX9_next_11 : decode cX9_next 11 = .ok (.aload_n 0, 1) := by decide +kernel
theorem dX9_next_12 : decode cX9_next 12 = .ok (.getfield 19, 3) := by decide +kernel
theorem dX9_next_15 : decode cX9_next 15 = .ok (.aload_n 0, 1) := by decide +kernel
theorem dX9_next_16 : decode cX9_next 16 = .ok (.getfield 103, 3) := by decide +kernel
theorem dX9_next_19 : decode cX9_next 19 = .ok (.iaload, 1) := by decide +kernel
theorem dX9_next_20 : decode cX9_next 20 = .ok (.bipush 32, 2) := by decide +kernel
theorem dX9_next_22 : decode cX9_next 22 = .ok (.if_icmp .eq 17, 3) := by decide +kernel
theorem dX9_next_25 : decode cX9_next 25 = .ok (.aload_n 0, 1) := by decide +kernel
theorem dX9_next_26 : decode cX9_next 26 = .ok (.getfield 19, 3) := by decide +kernel
theorem dX9_next_29 : decode cX9_next 29 = .ok (.aload_n 0, 1) := by decide +kernel
theorem dX9_next_30 : decode cX9_next 30 = .ok (.getfield 103, 3) := by decide +kernel
theorem dX9_next_33 : decode cX9_next 33 = .ok (.iaload, 1) := by decide +kernel
theorem dX9_next_34 : decode cX9_next 34 = .ok (.bipush 10, 2) := by decide +kernel
theorem dX9_next_36 : decode cX9_next 36 = .ok (.if_icmp .ne 16, 3) := by decide +kernel
theorem dX9_next_39 : decode cX9_next 39 = .ok (.aload_n 0, 1) := by decide +kernel
theorem dX9_next_40 : decode cX9_next 40 = .ok (.dup, 1) := by decide +kernel
theorem dX9_next_41 : decode cX9_next 41 = .ok (.getfield 103, 3) := by decide +kernel
theorem dX9_next_44 : decode cX9_next 44 = .ok (.iconst 1, 1) := by decide +kernel
theorem dX9_next_45 : decode cX9_next 45 = .ok (.iadd, 1) := by decide +kernel
theorem dX9_next_46 : decode cX9_next 46 = .ok (.putfield 103, 3) := by decide +kernel
theorem dX9_next_49 : decode cX9_next 49 = .ok (.goto (-49), 3) := by decide +kernel
theorem dX9_next_52 : decode cX9_next 52 = .ok (.aload_n 0, 1) := by decide +kernel
theorem dX9_next_53 : decode cX9_next 53 = .ok (.aload_n 0, 1) := by decide +kernel
theorem dX9_next_54 : decode cX9_next 54 = .ok (.getfield 103, 3) := by decide +kernel
theorem dX9_next_57 : decode cX9_next 57 = .ok (.putfield 106, 3) := by decide +kernel
theorem dX9_next_60 : decode cX9_next 60 = .ok (.aload_n 0, 1) := by decide +kernel
theorem dX9_next_61 : decode cX9_next 61 = .ok (.iconst 0, 1) := by decide +kernel
theorem dX9_next_62 : decode cX9_next 62 = .ok (.putfield 109, 3) := by decide +kernel
theorem dX9_next_65 : decode cX9_next 65 = .ok (.aload_n 0, 1) := by decide +kernel
theorem dX9_next_66 : decode cX9_next 66 = .ok (.iconst 0, 1) := by decide +kernel
theorem dX9_next_67 : decode cX9_next 67 = .ok (.putfield 112, 3) := by decide +kernel
theorem dX9_next_70 : decode cX9_next 70 = .ok (.aload_n 0, 1) := by decide +kernel
theorem dX9_next_71 : decode cX9_next 71 = .ok (.getfield 103, 3) := by decide +kernel
theorem dX9_next_74 : decode cX9_next 74 = .ok (.aload_n 0, 1) := by decide +kernel
theorem dX9_next_75 : decode cX9_next 75 = .ok (.getfield 67, 3) := by decide +kernel
theorem dX9_next_78 : decode cX9_next 78 = .ok (.if_icmp .ne 4, 3) := by decide +kernel
theorem dX9_next_81 : decode cX9_next 81 = .ok (.return_, 1) := by decide +kernel
theorem dX9_next_82 : decode cX9_next 82 = .ok (.aload_n 0, 1) := by decide +kernel
theorem dX9_next_83 : decode cX9_next 83 = .ok (.getfield 19, 3) := by decide +kernel
theorem dX9_next_86 : decode cX9_next 86 = .ok (.aload_n 0, 1) := by decide +kernel
theorem dX9_next_87 : decode cX9_next 87 = .ok (.getfield 103, 3) := by decide +kernel
theorem dX9_next_90 : decode cX9_next 90 = .ok (.iaload, 1) := by decide +kernel
theorem dX9_next_91 : decode cX9_next 91 = .ok (.istore_n 1, 1) := by decide +kernel
theorem dX9_next_92 : decode cX9_next 92 = .ok (.iload_n 1, 1) := by decide +kernel
theorem dX9_next_93 : decode cX9_next 93 = .ok (.bipush 97, 2) := by decide +kernel
theorem dX9_next_95 : decode cX9_next 95 = .ok (.bipush 122, 2) := by decide +kernel
theorem dX9_next_97 : decode cX9_next 97 = .ok (.invokestatic 78, 3) := by decide +kernel
theorem dX9_next_100 : decode cX9_next 100 = .ok (.ifCond .eq 117, 3) := by decide +kernel
theorem dX9_next_103 : decode cX9_next 103 = .ok (.aload_n 0, 1) := by decide +kernel
theorem dX9_next_104 : decode cX9_next 104 = .ok (.getfield 103, 3) := by decide +kernel
theorem dX9_next_107 : decode cX9_next 107 = .ok (.aload_n 0, 1) := by decide +kernel
theorem dX9_next_108 : decode cX9_next 108 = .ok (.getfield 67, 3) := by decide +kernel
theorem dX9_next_111 : decode cX9_next 111 = .ok (.if_icmp .ge 35, 3) := by decide +kernel
theorem dX9_next_114 : decode cX9_next 114 = .ok (.aload_n 0, 1) := by decide +kernel
theorem dX9_next_115 : decode cX9_next 115 = .ok (.getfield 19, 3) := by decide +kernel
theorem dX9_next_118 : decode cX9_next 118 = .ok (.aload_n 0, 1) := by decide +kernel
theorem dX9_next_119 : decode cX9_next 119 = .ok (.getfield 103, 3) := by decide +kernel
theorem dX9_next_122 : decode cX9_next 122 = .ok (.iaload, 1) := by decide +kernel
theorem dX9_next_123 : decode cX9_next 123 = .ok (.bipush 97, 2) := by decide +kernel
theorem dX9_next_125 : decode cX9_next 125 = .ok (.bipush 122, 2) := by decide +kernel
theorem dX9_next_127 : decode cX9_next 127 = .ok (.invokestatic 78, 3) := by decide +kernel
theorem dX9_next_130 : decode cX9_next 130 = .ok (.ifCond .eq 16, 3) := by decide +kernel
theorem dX9_next_133 : decode cX9_next 133 = .ok (.aload_n 0, 1) := by decide +kernel
theorem dX9_next_134 : decode cX9_next 134 = .ok (.dup, 1) := by decide +kernel
theorem dX9_next_135 : decode cX9_next 135 = .ok (.getfield 103, 3) := by decide +kernel
theorem dX9_next_138 : decode cX9_next 138 = .ok (.iconst 1, 1) := by decide +kernel
theorem dX9_next_139 : decode cX9_next 139 = .ok (.iadd, 1) := by decide +kernel
theorem dX9_next_140 : decode cX9_next 140 = .ok (.putfield 103, 3) := by decide +kernel
theorem dX9_next_143 : decode cX9_next 143 = .ok (.goto (-40), 3) := by decide +kernel
theorem dX9_next_146 : decode cX9_next 146 = .ok (.aload_n 0, 1) := by decide +kernel
theorem dX9_next_147 : decode cX9_next 147 = .ok (.aload_n 0, 1) := by decide +kernel
theorem dX9_next_148 : decode cX9_next 148 = .ok (.getfield 106, 3) := by decide +kernel
theorem dX9_next_151 : decode cX9_next 151 = .ok (.aload_n 0, 1) := by decide +kernel
theorem dX9_next_152 : decode cX9_next 152 = .ok (.getfield 103, 3) := by decide +kernel
theorem dX9_next_155 : decode cX9_next 155 = .ok (.invokevirtual 115, 3) := by decide +kernel
theorem dX9_next_158 : decode cX9_next 158 = .ok (.istore_n 2, 1) := by decide +kernel
theorem dX9_next_159 : decode cX9_next 159 = .ok (.aload_n 0, 1) := by decide +kernel
theorem dX9_next_160 : decode cX9_next 160 = .ok (.iload_n 2, 1) := by decide +kernel
theorem dX9_next_161 : decode cX9_next 161 = .ok (.iconst 3, 1) := by decide +kernel
theorem dX9_next_162 : decode cX9_next 162 = .ok (.if_icmp .ge 7, 3) := by decide +kernel
theorem dX9_next_165 : decode cX9_next 165 = .ok (.iconst 3, 1) := by decide +kernel
theorem dX9_next_166 : decode cX9_next 166 = .ok (.goto 29, 3) := by decide +kernel
theorem dX9_next_169 : decode cX9_next 169 = .ok (.iload_n 2, 1) := by decide +kernel
theorem dX9_next_170 : decode cX9_next 170 = .ok (.bipush 9, 2) := by decide +kernel
theorem dX9_next_172 : decode cX9_next 172 = .ok (.if_icmp .ge 7, 3) := by decide +kernel
theorem dX9_next_175 : decode cX9_next 175 = .ok (.iconst 2, 1) := by decide +kernel
theorem dX9_next_176 : decode cX9_next 176 = .ok (.goto 19, 3) := by decide +kernel
theorem dX9_next_179 : decode cX9_next 179 = .ok (.iload_n 2, 1) := by decide +kernel
theorem dX9_next_180 : decode cX9_next 180 = .ok (.bipush 12, 2) := by decide +kernel
theorem dX9_next_182 : decode cX9_next 182 = .ok (.if_icmp .ne 7, 3) := by decide +kernel
theorem dX9_next_185 : decode cX9_next 185 = .ok (.iconst (-1), 1) := by decide +kernel
theorem dX9_next_186 : decode cX9_next 186 = .ok (.goto 9, 3) := by decide +kernel
theorem dX9_next_189 : decode cX9_next 189 = .ok (.iconst 4, 1) := by decide +kernel
theorem dX9_next_190 : decode cX9_next 190 = .ok (.iload_n 2, 1) := by decide +kernel
theorem dX9_next_191 : decode cX9_next 191 = .ok (.iadd, 1) := by decide +kernel
theorem dX9_next_192 : decode cX9_next 192 = .ok (.bipush 9, 2) := by decide +kernel
theorem dX9_next_194 : decode cX9_next 194 = .ok (.isub, 1) := by decide +kernel
theorem dX9_next_195 : decode cX9_next 195 = .ok (.putfield 109, 3) := by decide +kernel
theorem dX9_next_198 : decode cX9_next 198 = .ok (.aload_n 0, 1) := by decide +kernel
theorem dX9_next_199 : decode cX9_next 199 = .ok (.iload_n 2, 1) := by decide +kernel
theorem dX9_next_200 : decode cX9_next 200 = .ok (.iconst 3, 1) := by decide +kernel
theorem dX9_next_201 : decode cX9_next 201 = .ok (.if_icmp .ge 7, 3) := by decide +kernel
theorem dX9_next_204 : decode cX9_next 204 = .ok (.iload_n 2, 1) := by decide +kernel
theorem dX9_next_205 : decode cX9_next 205 = .ok (.goto 6, 3) := by decide +kernel
theorem dX9_next_208 : decode cX9_next 208 = .ok (.iload_n 2, 1) := by decide +kernel
theorem dX9_next_209 : decode cX9_next 209 = .ok (.iconst 3, 1) := by decide +kernel
theorem dX9_next_210 : decode cX9_next 210 = .ok (.isub, 1) := by decide +kernel
theorem dX9_next_211 : decode cX9_next 211 = .ok (.putfield 112, 3) := by decide +kernel
theorem dX9_next_214 : decode cX9_next 214 = .ok (.goto 189, 3) := by decide +kernel
theorem dX9_next_217 : decode cX9_next 217 = .ok (.iload_n 1, 1) := by decide +kernel
theorem dX9_next_218 : decode cX9_next 218 = .ok (.bipush 48, 2) := by decide +kernel
theorem dX9_next_220 : decode cX9_next 220 = .ok (.bipush 57, 2) := by decide +kernel
theorem dX9_next_222 : decode cX9_next 222 = .ok (.invokestatic 78, 3) := by decide +kernel
theorem dX9_next_225 : decode cX9_next 225 = .ok (.ifCond .eq 101, 3) := by decide +kernel
theorem dX9_next_228 : decode cX9_next 228 = .ok (.iconst 0, 1) := by decide +kernel
theorem dX9_next_229 : decode cX9_next 229 = .ok (.istore_n 2, 1) := by decide +kernel
theorem dX9_next_230 : decode cX9_next 230 = .ok (.aload_n 0, 1) := by decide +kernel
theorem dX9_next_231 : decode cX9_next 231 = .ok (.getfield 103, 3) := by decide +kernel
theorem dX9_next_234 : decode cX9_next 234 = .ok (.aload_n 0, 1) := by decide +kernel
theorem dX9_next_235 : decode cX9_next 235 = .ok (.getfield 67, 3) := by decide +kernel
theorem dX9_next_238 : decode cX9_next 238 = .ok (.if_icmp .ge 71, 3) := by decide +kernel
theorem dX9_next_241 : decode cX9_next 241 = .ok (.aload_n 0, 1) := by decide +kernel
theorem dX9_next_242 : decode cX9_next 242 = .ok (.getfield 19, 3) := by decide +kernel
theorem dX9_next_245 : decode cX9_next 245 = .ok (.aload_n 0, 1) := by decide +kernel
theorem dX9_next_246 : decode cX9_next 246 = .ok (.getfield 103, 3) := by decide +kernel
theorem dX9_next_249 : decode cX9_next 249 = .ok (.iaload, 1) := by decide +kernel
theorem dX9_next_250 : decode cX9_next 250 = .ok (.bipush 48, 2) := by decide +kernel
theorem dX9_next_252 : decode cX9_next 252 = .ok (.bipush 57, 2) := by decide +kernel
theorem dX9_next_254 : decode cX9_next 254 = .ok (.invokestatic 78, 3) := by decide +kernel
theorem dX9_next_257 : decode cX9_next 257 = .ok (.ifCond .eq 52, 3) := by decide +kernel
theorem dX9_next_260 : decode cX9_next 260 = .ok (.aload_n 0, 1) := by decide +kernel
theorem dX9_next_261 : decode cX9_next 261 = .ok (.iload_n 2, 1) := by decide +kernel
theorem dX9_next_262 : decode cX9_next 262 = .ok (.iconst 4, 1) := by decide +kernel
theorem dX9_next_263 : decode cX9_next 263 = .ok (.if_icmp .ge 26, 3) := by decide +kernel
theorem dX9_next_266 : decode cX9_next 266 = .ok (.bipush 10, 2) := by decide +kernel
theorem dX9_next_268 : decode cX9_next 268 = .ok (.aload_n 0, 1) := by decide +kernel
theorem dX9_next_269 : decode cX9_next 269 = .ok (.getfield 112, 3) := by decide +kernel
theorem dX9_next_272 : decode cX9_next 272 = .ok (.imul, 1) := by decide +kernel
theorem dX9_next_273 : decode cX9_next 273 = .ok (.aload_n 0, 1) := by decide +kernel
theorem dX9_next_274 : decode cX9_next 274 = .ok (.getfield 19, 3) := by decide +kernel
theorem dX9_next_277 : decode cX9_next 277 = .ok (.aload_n 0, 1) := by decide +kernel
theorem dX9_next_278 : decode cX9_next 278 = .ok (.getfield 103, 3) := by decide +kernel
theorem dX9_next_281 : decode cX9_next 281 = .ok (.iaload, 1) := by decide +kernel
theorem dX9_next_282 : decode cX9_next 282 = .ok (.iadd, 1) := by decide +kernel
theorem dX9_next_283 : decode cX9_next 283 = .ok (.bipush 48, 2) := by decide +kernel
theorem dX9_next_285 : decode cX9_next 285 = .ok (.isub, 1) := by decide +kernel
theorem dX9_next_286 : decode cX9_next 286 = .ok (.goto 4, 3) := by decide +kernel
theorem dX9_next_289 : decode cX9_next 289 = .ok (.iconst 0, 1) := by decide +kernel
theorem dX9_next_290 : decode cX9_next 290 = .ok (.putfield 112, 3) := by decide +kernel
theorem dX9_next_293 : decode cX9_next 293 = .ok (.iinc 2 1, 3) := by decide +kernel
theorem dX9_next_296 : decode cX9_next 296 = .ok (.aload_n 0, 1) := by decide +kernel
theorem dX9_next_297 : decode cX9_next 297 = .ok (.dup, 1) := by decide +kernel
theorem dX9_next_298 : decode cX9_next 298 = .ok (.getfield 103, 3) := by decide +kernel
theorem dX9_next_301 : decode cX9_next 301 = .ok (.iconst 1, 1) := by decide +kernel
theorem dX9_next_302 : decode cX9_next 302 = .ok (.iadd, 1) := by decide +kernel
theorem dX9_next_303 : decode cX9_next 303 = .ok (.putfield 103, 3) := by decide +kernel
theorem dX9_next_306 : decode cX9_next 306 = .ok (.goto (-76), 3) := by decide +kernel
theorem dX9_next_309 : decode cX9_next 309 = .ok (.aload_n 0, 1) := by decide +kernel
theorem dX9_next_310 : decode cX9_next 310 = .ok (.iload_n 2, 1) := by decide +kernel
theorem dX9_next_311 : decode cX9_next 311 = .ok (.iconst 4, 1) := by decide +kernel
theorem dX9_next_312 : decode cX9_next 312 = .ok (.if_icmp .le 7, 3) := by decide +kernel
theorem dX9_next_315 : decode cX9_next 315 = .ok (.iconst (-1), 1) := by decide +kernel
theorem dX9_next_316 : decode cX9_next 316 = .ok (.goto 4, 3) := by decide +kernel
theorem dX9_next_319 : decode cX9_next 319 = .ok (.iconst 1, 1) := by decide +kernel
theorem dX9_next_320 : decode cX9_next 320 = .ok (.putfield 109, 3) := by decide +kernel
theorem dX9_next_323 : decode cX9_next 323 = .ok (.goto 80, 3) := by decide +kernel
theorem dX9_next_326 : decode cX9_next 326 = .ok (.iload_n 1, 1) := by decide +kernel
theorem dX9_next_327 : decode cX9_next 327 = .ok (.bipush 40, 2) := by decide +kernel
theorem dX9_next_329 : decode cX9_next 329 = .ok (.if_icmp .eq 45, 3) := by decide +kernel
theorem dX9_next_332 : decode cX9_next 332 = .ok (.iload_n 1, 1) := by decide +kernel
theorem dX9_next_333 : decode cX9_next 333 = .ok (.bipush 41, 2) := by decide +kernel
theorem dX9_next_335 : decode cX9_next 335 = .ok (.if_icmp .eq 39, 3) := by decide +kernel
theorem dX9_next_338 : decode cX9_next 338 = .ok (.iload_n 1, 1) := by decide +kernel
theorem dX9_next_339 : decode cX9_next 339 = .ok (.bipush 59, 2) := by decide +kernel
theorem dX9_next_341 : decode cX9_next 341 = .ok (.if_icmp .eq 33, 3) := by decide +kernel
theorem dX9_next_344 : decode cX9_next 344 = .ok (.iload_n 1, 1) := by decide +kernel
theorem dX9_next_345 : decode cX9_next 345 = .ok (.bipush 43, 2) := by decide +kernel
theorem dX9_next_347 : decode cX9_next 347 = .ok (.if_icmp .eq 27, 3) := by decide +kernel
theorem dX9_next_350 : decode cX9_next 350 = .ok (.iload_n 1, 1) := by decide +kernel
theorem dX9_next_351 : decode cX9_next 351 = .ok (.bipush 45, 2) := by decide +kernel
theorem dX9_next_353 : decode cX9_next 353 = .ok (.if_icmp .eq 21, 3) := by decide +kernel
theorem dX9_next_356 : decode cX9_next 356 = .ok (.iload_n 1, 1) := by decide +kernel
theorem dX9_next_357 : decode cX9_next 357 = .ok (.bipush 42, 2) := by decide +kernel
theorem dX9_next_359 : decode cX9_next 359 = .ok (.if_icmp .eq 15, 3) := by decide +kernel
theorem dX9_next_362 : decode cX9_next 362 = .ok (.iload_n 1, 1) := by decide +kernel
theorem dX9_next_363 : decode cX9_next 363 = .ok (.bipush 60, 2) := by decide +kernel
theorem dX9_next_365 : decode cX9_next 365 = .ok (.if_icmp .eq 9, 3) := by decide +kernel
theorem dX9_next_368 : decode cX9_next 368 = .ok (.iload_n 1, 1) := by decide +kernel
theorem dX9_next_369 : decode cX9_next 369 = .ok (.bipush 61, 2) := by decide +kernel
theorem dX9_next_371 : decode cX9_next 371 = .ok (.if_icmp .ne 7, 3) := by decide +kernel
theorem dX9_next_374 : decode cX9_next 374 = .ok (.iconst 1, 1) := by decide +kernel
theorem dX9_next_375 : decode cX9_next 375 = .ok (.goto 4, 3) := by decide +kernel
theorem dX9_next_378 : decode cX9_next 378 = .ok (.iconst 0, 1) := by decide +kernel
theorem dX9_next_379 : decode cX9_next 379 = .ok (.istore_n 2, 1) := by decide +kernel
theorem dX9_next_380 : decode cX9_next 380 = .ok (.aload_n 0, 1) := by decide +kernel
theorem dX9_next_381 : decode cX9_next 381 = .ok (.iload_n 2, 1) := by decide +kernel
theorem dX9_next_382 : decode cX9_next 382 = .ok (.ifCond .eq 7, 3) := by decide +kernel
theorem dX9_next_385 : decode cX9_next 385 = .ok (.iload_n 1, 1) := by decide +kernel
theorem dX9_next_386 : decode cX9_next 386 = .ok (.goto 4, 3) := by decide +kernel
theorem dX9_next_389 : decode cX9_next 389 = .ok (.iconst (-1), 1) := by decide +kernel
theorem dX9_next_390 : decode cX9_next 390 = .ok (.putfield 109, 3) := by decide +kernel
theorem dX9_next_393 : decode cX9_next 393 = .ok (.aload_n 0, 1) := by decide +kernel
theorem dX9_next_394 : decode cX9_next 394 = .ok (.dup, 1) := by decide +kernel
theorem dX9_next_395 : decode cX9_next 395 = .ok (.getfield 103, 3) := by decide +kernel
theorem dX9_next_398 : decode cX9_next 398 = .ok (.iconst 1, 1) := by decide +kernel
theorem dX9_next_399 : decode cX9_next 399 = .ok (.iadd, 1) := by decide +kernel
theorem dX9_next_400 : decode cX9_next 400 = .ok (.putfield 103, 3) := by decide +kernel
theorem dX9_next_403 : decode cX9_next 403 = .ok (.return_, 1) := by decide +kernel
theorem dX9_rank_0 : decode cX9_rank 0 = .ok (.iload_n 0, 1) := by decide +kernel
theorem dX9_rank_1 : decode cX9_rank 1 = .ok (.ifCond .ne 7, 3) := by decide +kernel
theorem dX9_rank_4 : decode cX9_rank 4 = .ok (.iconst 0, 1) := by decide +kernel
theorem dX9_rank_5 : decode cX9_rank 5 = .ok (.goto 66, 3) := by decide +kernel
theorem dX9_rank_8 : decode cX9_rank 8 = .ok (.iload_n 0, 1) := by decide +kernel
theorem dX9_rank_9 : decode cX9_rank 9 = .ok (.bipush 11, 2) := by decide +kernel
theorem dX9_rank_11 : decode cX9_rank 11 = .ok (.if_icmp .ne 7, 3) := by decide +kernel
theorem dX9_rank_14 : decode cX9_rank 14 = .ok (.iconst 1, 1) := by decide +kernel
theorem dX9_rank_15 : decode cX9_rank 15 = .ok (.goto 56, 3) := by decide +kernel
theorem dX9_rank_18 : decode cX9_rank 18 = .ok (.iload_n 0, 1) := by decide +kernel
theorem dX9_rank_19 : decode cX9_rank 19 = .ok (.bipush 12, 2) := by decide +kernel
theorem dX9_rank_21 : decode cX9_rank 21 = .ok (.if_icmp .ne 7, 3) := by decide +kernel
theorem dX9_rank_24 : decode cX9_rank 24 = .ok (.iconst 2, 1) := by decide +kernel
theorem dX9_rank_25 : decode cX9_rank 25 = .ok (.goto 46, 3) := by decide +kernel
theorem dX9_rank_28 : decode cX9_rank 28 = .ok (.iload_n 0, 1) := by decide +kernel
theorem dX9_rank_29 : decode cX9_rank 29 = .ok (.bipush 13, 2) := by decide +kernel
theorem dX9_rank_31 : decode cX9_rank 31 = .ok (.if_icmp .ne 7, 3) := by decide +kernel
theorem dX9_rank_34 : decode cX9_rank 34 = .ok (.iconst 3, 1) := by decide +kernel
theorem dX9_rank_35 : decode cX9_rank 35 = .ok (.goto 36, 3) := by decide +kernel
theorem dX9_rank_38 : decode cX9_rank 38 = .ok (.iload_n 0, 1) := by decide +kernel
theorem dX9_rank_39 : decode cX9_rank 39 = .ok (.bipush 15, 2) := by decide +kernel
theorem dX9_rank_41 : decode cX9_rank 41 = .ok (.if_icmp .gt 7, 3) := by decide +kernel
theorem dX9_rank_44 : decode cX9_rank 44 = .ok (.iconst 4, 1) := by decide +kernel
theorem dX9_rank_45 : decode cX9_rank 45 = .ok (.goto 26, 3) := by decide +kernel
theorem dX9_rank_48 : decode cX9_rank 48 = .ok (.iload_n 0, 1) := by decide +kernel
theorem dX9_rank_49 : decode cX9_rank 49 = .ok (.bipush 17, 2) := by decide +kernel
theorem dX9_rank_51 : decode cX9_rank 51 = .ok (.if_icmp .gt 7, 3) := by decide +kernel
theorem dX9_rank_54 : decode cX9_rank 54 = .ok (.iconst 5, 1) := by decide +kernel
theorem dX9_rank_55 : decode cX9_rank 55 = .ok (.goto 16, 3) := by decide +kernel
theorem dX9_rank_58 : decode cX9_rank 58 = .ok (.iload_n 0, 1) := by decide +kernel
theorem dX9_rank_59 : decode cX9_rank 59 = .ok (.bipush 18, 2) := by decide +kernel
theorem dX9_rank_61 : decode cX9_rank 61 = .ok (.if_icmp .ne 8, 3) := by decide +kernel
theorem dX9_rank_64 : decode cX9_rank 64 = .ok (.bipush 6, 2) := by decide +kernel
theorem dX9_rank_66 : decode cX9_rank 66 = .ok (.goto 5, 3) := by decide +kernel
theorem dX9_rank_69 : decode cX9_rank 69 = .ok (.bipush 7, 2) := by decide +kernel
theorem dX9_rank_71 : decode cX9_rank 71 = .ok (.ireturn, 1) := by decide +kernel
theorem dX9_puts_0 : decode cX9_puts 0 = .ok (.aload_n 0, 1) := by decide +kernel
theorem dX9_puts_1 : decode cX9_puts 1 = .ok (.getfield 22, 3) := by decide +kernel
theorem dX9_puts_4 : decode cX9_puts 4 = .ok (.sipush 200, 3) := by decide +kernel
theorem dX9_puts_7 : decode cX9_puts 7 = .ok (.aload_n 0, 1) := by decide +kernel
theorem dX9_puts_8 : decode cX9_puts 8 = .ok (.getfield 94, 3) := by decide +kernel
theorem dX9_puts_11 : decode cX9_puts 11 = .ok (.imul, 1) := by decide +kernel
theorem dX9_puts_12 : decode cX9_puts 12 = .ok (.aload_n 0, 1) := by decide +kernel
theorem dX9_puts_13 : decode cX9_puts 13 = .ok (.getfield 119, 3) := by decide +kernel
theorem dX9_puts_16 : decode cX9_puts 16 = .ok (.iadd, 1) := by decide +kernel
theorem dX9_puts_17 : decode cX9_puts 17 = .ok (.iload_n 1, 1) := by decide +kernel
theorem dX9_puts_18 : decode cX9_puts 18 = .ok (.iastore, 1) := by decide +kernel
theorem dX9_puts_19 : decode cX9_puts 19 = .ok (.aload_n 0, 1) := by decide +kernel
theorem dX9_puts_20 : decode cX9_puts 20 = .ok (.dup, 1) := by decide +kernel
theorem dX9_puts_21 : decode cX9_puts 21 = .ok (.getfield 119, 3) := by decide +kernel
theorem dX9_puts_24 : decode cX9_puts 24 = .ok (.iconst 1, 1) := by decide +kernel
theorem dX9_puts_25 : decode cX9_puts 25 = .ok (.iadd, 1) := by decide +kernel
theorem dX9_puts_26 : decode cX9_puts 26 = .ok (.putfield 119, 3) := by decide +kernel
theorem dX9_puts_29 : decode cX9_puts 29 = .ok (.return_, 1) := by decide +kernel
theorem dX9_unwinds_0 : decode cX9_unwinds 0 = .ok (.aload_n 0, 1) := by decide +kernel
theorem dX9_unwinds_1 : decode cX9_unwinds 1 = .ok (.getfield 122, 3) := by decide +kernel
theorem dX9_unwinds_4 : decode cX9_unwinds 4 = .ok (.ifCond .le 75, 3) := by decide +kernel
theorem dX9_unwinds_7 : decode cX9_unwinds 7 = .ok (.aload_n 0, 1) := by decide +kernel
theorem dX9_unwinds_8 : decode cX9_unwinds 8 = .ok (.getfield 49, 3) := by decide +kernel
theorem dX9_unwinds_11 : decode cX9_unwinds 11 = .ok (.aload_n 0, 1) := by decide +kernel
theorem dX9_unwinds_12 : decode cX9_unwinds 12 = .ok (.getfield 122, 3) := by decide +kernel
theorem dX9_unwinds_15 : decode cX9_unwinds 15 = .ok (.iconst 1, 1) := by decide +kernel
theorem dX9_unwinds_16 : decode cX9_unwinds 16 = .ok (.isub, 1) := by decide +kernel
theorem dX9_unwinds_17 : decode cX9_unwinds 17 = .ok (.iaload, 1) := by decide +kernel
theorem dX9_unwinds_18 : decode cX9_unwinds 18 = .ok (.invokestatic 125, 3) := by decide +kernel
theorem dX9_unwinds_21 : decode cX9_unwinds 21 = .ok (.iload_n 1, 1) := by decide +kernel
theorem dX9_unwinds_22 : decode cX9_unwinds 22 = .ok (.if_icmp .lt 57, 3) := by decide +kernel
theorem dX9_unwinds_25 : decode cX9_unwinds 25 = .ok (.aload_n 0, 1) := by decide +kernel
theorem dX9_unwinds_26 : decode cX9_unwinds 26 = .ok (.dup, 1) := by decide +kernel
theorem dX9_unwinds_27 : decode cX9_unwinds 27 = .ok (.getfield 122, 3) := by decide +kernel
theorem dX9_unwinds_30 : decode cX9_unwinds 30 = .ok (.iconst 1, 1) := by decide +kernel
theorem dX9_unwinds_31 : decode cX9_unwinds 31 = .ok (.isub, 1) := by decide +kernel
theorem dX9_unwinds_32 : decode cX9_unwinds 32 = .ok (.putfield 122, 3) := by decide +kernel
theorem dX9_unwinds_35 : decode cX9_unwinds 35 = .ok (.aload_n 0, 1) := by decide +kernel
theorem dX9_unwinds_36 : decode cX9_unwinds 36 = .ok (.getfield 49, 3) := by decide +kernel
theorem dX9_unwinds_39 : decode cX9_unwinds 39 = .ok (.aload_n 0, 1) := by decide +kernel
theorem dX9_unwinds_40 : decode cX9_unwinds 40 = .ok (.getfield 122, 3) := by decide +kernel
theorem dX9_unwinds_43 : decode cX9_unwinds 43 = .ok (.iaload, 1) := by decide +kernel
theorem dX9_unwinds_44 : decode cX9_unwinds 44 = .ok (.istore_n 2, 1) := by decide +kernel
theorem dX9_unwinds_45 : decode cX9_unwinds 45 = .ok (.aload_n 0, 1) := by decide +kernel
theorem dX9_unwinds_46 : decode cX9_unwinds 46 = .ok (.dup, 1) := by decide +kernel
theorem dX9_unwinds_47 : decode cX9_unwinds 47 = .ok (.getfield 129, 3) := by decide +kernel
theorem dX9_unwinds_50 : decode cX9_unwinds 50 = .ok (.iload_n 2, 1) := by decide +kernel
theorem dX9_unwinds_51 : decode cX9_unwinds 51 = .ok (.bipush 13, 2) := by decide +kernel
theorem dX9_unwinds_53 : decode cX9_unwinds 53 = .ok (.if_icmp .eq 9, 3) := by decide +kernel
theorem dX9_unwinds_56 : decode cX9_unwinds 56 = .ok (.iload_n 2, 1) := by decide +kernel
theorem dX9_unwinds_57 : decode cX9_unwinds 57 = .ok (.bipush 19, 2) := by decide +kernel
theorem dX9_unwinds_59 : decode cX9_unwinds 59 = .ok (.if_icmp .ne 7, 3) := by decide +kernel
theorem dX9_unwinds_62 : decode cX9_unwinds 62 = .ok (.iconst 1, 1) := by decide +kernel
theorem dX9_unwinds_63 : decode cX9_unwinds 63 = .ok (.goto 4, 3) := by decide +kernel
theorem dX9_unwinds_66 : decode cX9_unwinds 66 = .ok (.iconst 0, 1) := by decide +kernel
theorem dX9_unwinds_67 : decode cX9_unwinds 67 = .ok (.isub, 1) := by decide +kernel
theorem dX9_unwinds_68 : decode cX9_unwinds 68 = .ok (.putfield 129, 3) := by decide +kernel
theorem dX9_unwinds_71 : decode cX9_unwinds 71 = .ok (.aload_n 0, 1) := by decide +kernel
theorem dX9_unwinds_72 : decode cX9_unwinds 72 = .ok (.iload_n 2, 1) := by decide +kernel
theorem dX9_unwinds_73 : decode cX9_unwinds 73 = .ok (.invokevirtual 132, 3) := by decide +kernel
theorem dX9_unwinds_76 : decode cX9_unwinds 76 = .ok (.goto (-76), 3) := by decide +kernel
theorem dX9_unwinds_79 : decode cX9_unwinds 79 = .ok (.return_, 1) := by decide +kernel
theorem dX9_holds_0 : decode cX9_holds 0 = .ok (.aload_n 0, 1) := by decide +kernel
theorem dX9_holds_1 : decode cX9_holds 1 = .ok (.getfield 49, 3) := by decide +kernel
theorem dX9_holds_4 : decode cX9_holds 4 = .ok (.aload_n 0, 1) := by decide +kernel
theorem dX9_holds_5 : decode cX9_holds 5 = .ok (.getfield 122, 3) := by decide +kernel
theorem dX9_holds_8 : decode cX9_holds 8 = .ok (.iload_n 1, 1) := by decide +kernel
theorem dX9_holds_9 : decode cX9_holds 9 = .ok (.iastore, 1) := by decide +kernel
theorem dX9_holds_10 : decode cX9_holds 10 = .ok (.aload_n 0, 1) := by decide +kernel
theorem dX9_holds_11 : decode cX9_holds 11 = .ok (.dup, 1) := by decide +kernel
theorem dX9_holds_12 : decode cX9_holds 12 = .ok (.getfield 122, 3) := by decide +kernel
theorem dX9_holds_15 : decode cX9_holds 15 = .ok (.iconst 1, 1) := by decide +kernel
theorem dX9_holds_16 : decode cX9_holds 16 = .ok (.iadd, 1) := by decide +kernel
theorem dX9_holds_17 : decode cX9_holds 17 = .ok (.putfield 122, 3) := by decide +kernel
theorem dX9_holds_20 : decode cX9_holds 20 = .ok (.return_, 1) := by decide +kernel
theorem dX9_opensOne_0 : decode cX9_opensOne 0 = .ok (.aload_n 0, 1) := by decide +kernel
theorem dX9_opensOne_1 : decode cX9_opensOne 1 = .ok (.getfield 129, 3) := by decide +kernel
theorem dX9_opensOne_4 : decode cX9_opensOne 4 = .ok (.iconst 5, 1) := by decide +kernel
theorem dX9_opensOne_5 : decode cX9_opensOne 5 = .ok (.if_icmp .ne 5, 3) := by decide +kernel
theorem dX9_opensOne_8 : decode cX9_opensOne 8 = .ok (.iconst 0, 1) := by decide +kernel
theorem dX9_opensOne_9 : decode cX9_opensOne 9 = .ok (.ireturn, 1) := by decide +kernel
theorem dX9_opensOne_10 : decode cX9_opensOne 10 = .ok (.aload_n 0, 1) := by decide +kernel
theorem dX9_opensOne_11 : decode cX9_opensOne 11 = .ok (.dup, 1) := by decide +kernel
theorem dX9_opensOne_12 : decode cX9_opensOne 12 = .ok (.getfield 129, 3) := by decide +kernel
theorem dX9_opensOne_15 : decode cX9_opensOne 15 = .ok (.iconst 1, 1) := by decide +kernel
theorem dX9_opensOne_16 : decode cX9_opensOne 16 = .ok (.iadd, 1) := by decide +kernel
theorem dX9_opensOne_17 : decode cX9_opensOne 17 = .ok (.putfield 129, 3) := by decide +kernel
theorem dX9_opensOne_20 : decode cX9_opensOne 20 = .ok (.aload_n 0, 1) := by decide +kernel
theorem dX9_opensOne_21 : decode cX9_opensOne 21 = .ok (.iload_n 1, 1) := by decide +kernel
theorem dX9_opensOne_22 : decode cX9_opensOne 22 = .ok (.invokevirtual 136, 3) := by decide +kernel
theorem dX9_opensOne_25 : decode cX9_opensOne 25 = .ok (.iconst 1, 1) := by decide +kernel
theorem dX9_opensOne_26 : decode cX9_opensOne 26 = .ok (.ireturn, 1) := by decide +kernel
theorem dX9_between_0 : decode cX9_between 0 = .ok (.aload_n 0, 1) := by decide +kernel
theorem dX9_between_1 : decode cX9_between 1 = .ok (.iload_n 1, 1) := by decide +kernel
theorem dX9_between_2 : decode cX9_between 2 = .ok (.invokestatic 125, 3) := by decide +kernel
theorem dX9_between_5 : decode cX9_between 5 = .ok (.iconst 4, 1) := by decide +kernel
theorem dX9_between_6 : decode cX9_between 6 = .ok (.if_icmp .ne 7, 3) := by decide +kernel
theorem dX9_between_9 : decode cX9_between 9 = .ok (.iconst 5, 1) := by decide +kernel
theorem dX9_between_10 : decode cX9_between 10 = .ok (.goto 7, 3) := by decide +kernel
theorem dX9_between_13 : decode cX9_between 13 = .ok (.iload_n 1, 1) := by decide +kernel
theorem dX9_between_14 : decode cX9_between 14 = .ok (.invokestatic 125, 3) := by decide +kernel
theorem dX9_between_17 : decode cX9_between 17 = .ok (.invokevirtual 139, 3) := by decide +kernel
theorem dX9_between_20 : decode cX9_between 20 = .ok (.iload_n 1, 1) := by decide +kernel
theorem dX9_between_21 : decode cX9_between 21 = .ok (.invokestatic 125, 3) := by decide +kernel
theorem dX9_between_24 : decode cX9_between 24 = .ok (.iconst 4, 1) := by decide +kernel
theorem dX9_between_25 : decode cX9_between 25 = .ok (.if_icmp .ne 30, 3) := by decide +kernel
theorem dX9_between_28 : decode cX9_between 28 = .ok (.aload_n 0, 1) := by decide +kernel
theorem dX9_between_29 : decode cX9_between 29 = .ok (.getfield 122, 3) := by decide +kernel
theorem dX9_between_32 : decode cX9_between 32 = .ok (.ifCond .le 23, 3) := by decide +kernel
theorem dX9_between_35 : decode cX9_between 35 = .ok (.aload_n 0, 1) := by decide +kernel
theorem dX9_between_36 : decode cX9_between 36 = .ok (.getfield 49, 3) := by decide +kernel
theorem dX9_between_39 : decode cX9_between 39 = .ok (.aload_n 0, 1) := by decide +kernel
theorem dX9_between_40 : decode cX9_between 40 = .ok (.getfield 122, 3) := by decide +kernel
theorem dX9_between_43 : decode cX9_between 43 = .ok (.iconst 1, 1) := by decide +kernel
theorem dX9_between_44 : decode cX9_between 44 = .ok (.isub, 1) := by decide +kernel
theorem dX9_between_45 : decode cX9_between 45 = .ok (.iaload, 1) := by decide +kernel
theorem dX9_between_46 : decode cX9_between 46 = .ok (.invokestatic 125, 3) := by decide +kernel
theorem dX9_between_49 : decode cX9_between 49 = .ok (.iconst 4, 1) := by decide +kernel
theorem dX9_between_50 : decode cX9_between 50 = .ok (.if_icmp .ne 5, 3) := by decide +kernel
theorem dX9_between_53 : decode cX9_between 53 = .ok (.iconst 0, 1) := by decide +kernel
theorem dX9_between_54 : decode cX9_between 54 = .ok (.ireturn, 1) := by decide +kernel
theorem dX9_between_55 : decode cX9_between 55 = .ok (.aload_n 0, 1) := by decide +kernel
theorem dX9_between_56 : decode cX9_between 56 = .ok (.iload_n 1, 1) := by decide +kernel
theorem dX9_between_57 : decode cX9_between 57 = .ok (.invokevirtual 136, 3) := by decide +kernel
theorem dX9_between_60 : decode cX9_between 60 = .ok (.iconst 1, 1) := by decide +kernel
theorem dX9_between_61 : decode cX9_between 61 = .ok (.ireturn, 1) := by decide +kernel
theorem dX9_signOf_0 : decode cX9_signOf 0 = .ok (.aload_n 0, 1) := by decide +kernel
theorem dX9_signOf_1 : decode cX9_signOf 1 = .ok (.getfield 109, 3) := by decide +kernel
theorem dX9_signOf_4 : decode cX9_signOf 4 = .ok (.iconst 4, 1) := by decide +kernel
theorem dX9_signOf_5 : decode cX9_signOf 5 = .ok (.if_icmp .ne 8, 3) := by decide +kernel
theorem dX9_signOf_8 : decode cX9_signOf 8 = .ok (.bipush 11, 2) := by decide +kernel
theorem dX9_signOf_10 : decode cX9_signOf 10 = .ok (.goto 87, 3) := by decide +kernel
theorem dX9_signOf_13 : decode cX9_signOf 13 = .ok (.aload_n 0, 1) := by decide +kernel
theorem dX9_signOf_14 : decode cX9_signOf 14 = .ok (.getfield 109, 3) := by decide +kernel
theorem dX9_signOf_17 : decode cX9_signOf 17 = .ok (.iconst 5, 1) := by decide +kernel
theorem dX9_signOf_18 : decode cX9_signOf 18 = .ok (.if_icmp .ne 8, 3) := by decide +kernel
theorem dX9_signOf_21 : decode cX9_signOf 21 = .ok (.bipush 12, 2) := by decide +kernel
theorem dX9_signOf_23 : decode cX9_signOf 23 = .ok (.goto 74, 3) := by decide +kernel
theorem dX9_signOf_26 : decode cX9_signOf 26 = .ok (.aload_n 0, 1) := by decide +kernel
theorem dX9_signOf_27 : decode cX9_signOf 27 = .ok (.getfield 109, 3) := by decide +kernel
theorem dX9_signOf_30 : decode cX9_signOf 30 = .ok (.bipush 60, 2) := by decide +kernel
theorem dX9_signOf_32 : decode cX9_signOf 32 = .ok (.if_icmp .ne 8, 3) := by decide +kernel
theorem dX9_signOf_35 : decode cX9_signOf 35 = .ok (.bipush 14, 2) := by decide +kernel
theorem dX9_signOf_37 : decode cX9_signOf 37 = .ok (.goto 60, 3) := by decide +kernel
theorem dX9_signOf_40 : decode cX9_signOf 40 = .ok (.aload_n 0, 1) := by decide +kernel
theorem dX9_signOf_41 : decode cX9_signOf 41 = .ok (.getfield 109, 3) := by decide +kernel
theorem dX9_signOf_44 : decode cX9_signOf 44 = .ok (.bipush 61, 2) := by decide +kernel
theorem dX9_signOf_46 : decode cX9_signOf 46 = .ok (.if_icmp .ne 8, 3) := by decide +kernel
theorem dX9_signOf_49 : decode cX9_signOf 49 = .ok (.bipush 15, 2) := by decide +kernel
theorem dX9_signOf_51 : decode cX9_signOf 51 = .ok (.goto 46, 3) := by decide +kernel
theorem dX9_signOf_54 : decode cX9_signOf 54 = .ok (.aload_n 0, 1) := by decide +kernel
theorem dX9_signOf_55 : decode cX9_signOf 55 = .ok (.getfield 109, 3) := by decide +kernel
theorem dX9_signOf_58 : decode cX9_signOf 58 = .ok (.bipush 43, 2) := by decide +kernel
theorem dX9_signOf_60 : decode cX9_signOf 60 = .ok (.if_icmp .ne 8, 3) := by decide +kernel
theorem dX9_signOf_63 : decode cX9_signOf 63 = .ok (.bipush 16, 2) := by decide +kernel
theorem dX9_signOf_65 : decode cX9_signOf 65 = .ok (.goto 32, 3) := by decide +kernel
theorem dX9_signOf_68 : decode cX9_signOf 68 = .ok (.aload_n 0, 1) := by decide +kernel
theorem dX9_signOf_69 : decode cX9_signOf 69 = .ok (.getfield 109, 3) := by decide +kernel
theorem dX9_signOf_72 : decode cX9_signOf 72 = .ok (.bipush 45, 2) := by decide +kernel
theorem dX9_signOf_74 : decode cX9_signOf 74 = .ok (.if_icmp .ne 8, 3) := by decide +kernel
theorem dX9_signOf_77 : decode cX9_signOf 77 = .ok (.bipush 17, 2) := by decide +kernel
theorem dX9_signOf_79 : decode cX9_signOf 79 = .ok (.goto 18, 3) := by decide +kernel
theorem dX9_signOf_82 : decode cX9_signOf 82 = .ok (.aload_n 0, 1) := by decide +kernel
theorem dX9_signOf_83 : decode cX9_signOf 83 = .ok (.getfield 109, 3) := by decide +kernel
theorem dX9_signOf_86 : decode cX9_signOf 86 = .ok (.bipush 42, 2) := by decide +kernel
theorem dX9_signOf_88 : decode cX9_signOf 88 = .ok (.if_icmp .ne 8, 3) := by decide +kernel
theorem dX9_signOf_91 : decode cX9_signOf 91 = .ok (.bipush 18, 2) := by decide +kernel
theorem dX9_signOf_93 : decode cX9_signOf 93 = .ok (.goto 4, 3) := by decide +kernel
theorem dX9_signOf_96 : decode cX9_signOf 96 = .ok (.iconst (-1), 1) := by decide +kernel
theorem dX9_signOf_97 : decode cX9_signOf 97 = .ok (.ireturn, 1) := by decide +kernel
theorem dX9_eRead_0 : decode cX9_eRead 0 = .ok (.aload_n 0, 1) := by decide +kernel
theorem dX9_eRead_1 : decode cX9_eRead 1 = .ok (.iconst 0, 1) := by decide +kernel
theorem dX9_eRead_2 : decode cX9_eRead 2 = .ok (.putfield 122, 3) := by decide +kernel
theorem dX9_eRead_5 : decode cX9_eRead 5 = .ok (.aload_n 0, 1) := by decide +kernel
theorem dX9_eRead_6 : decode cX9_eRead 6 = .ok (.iconst 0, 1) := by decide +kernel
theorem dX9_eRead_7 : decode cX9_eRead 7 = .ok (.putfield 129, 3) := by decide +kernel
theorem dX9_eRead_10 : decode cX9_eRead 10 = .ok (.iconst 1, 1) := by decide +kernel
theorem dX9_eRead_11 : decode cX9_eRead 11 = .ok (.istore_n 1, 1) := by decide +kernel
theorem dX9_eRead_12 : decode cX9_eRead 12 = .ok (.iconst 1, 1) := by decide +kernel
theorem dX9_eRead_13 : decode cX9_eRead 13 = .ok (.istore_n 2, 1) := by decide +kernel
theorem dX9_eRead_14 : decode cX9_eRead 14 = .ok (.aload_n 0, 1) := by decide +kernel
theorem dX9_eRead_15 : decode cX9_eRead 15 = .ok (.invokevirtual 142, 3) := by decide +kernel
theorem dX9_eRead_18 : decode cX9_eRead 18 = .ok (.iload_n 1, 1) := by decide +kernel
theorem dX9_eRead_19 : decode cX9_eRead 19 = .ok (.ifCond .eq 131, 3) := by decide +kernel
theorem dX9_eRead_22 : decode cX9_eRead 22 = .ok (.aload_n 0, 1) := by decide +kernel
theorem dX9_eRead_23 : decode cX9_eRead 23 = .ok (.getfield 109, 3) := by decide +kernel
theorem dX9_eRead_26 : decode cX9_eRead 26 = .ok (.iconst 1, 1) := by decide +kernel
theorem dX9_eRead_27 : decode cX9_eRead 27 = .ok (.if_icmp .eq 11, 3) := by decide +kernel
theorem dX9_eRead_30 : decode cX9_eRead 30 = .ok (.aload_n 0, 1) := by decide +kernel
theorem dX9_eRead_31 : decode cX9_eRead 31 = .ok (.getfield 109, 3) := by decide +kernel
theorem dX9_eRead_34 : decode cX9_eRead 34 = .ok (.iconst 2, 1) := by decide +kernel
theorem dX9_eRead_35 : decode cX9_eRead 35 = .ok (.if_icmp .ne 40, 3) := by decide +kernel
theorem dX9_eRead_38 : decode cX9_eRead 38 = .ok (.aload_n 0, 1) := by decide +kernel
theorem dX9_eRead_39 : decode cX9_eRead 39 = .ok (.aload_n 0, 1) := by decide +kernel
theorem dX9_eRead_40 : decode cX9_eRead 40 = .ok (.getfield 109, 3) := by decide +kernel
theorem dX9_eRead_43 : decode cX9_eRead 43 = .ok (.iconst 1, 1) := by decide +kernel
theorem dX9_eRead_44 : decode cX9_eRead 44 = .ok (.if_icmp .ne 13, 3) := by decide +kernel
theorem dX9_eRead_47 : decode cX9_eRead 47 = .ok (.ldc 145, 2) := by decide +kernel
theorem dX9_eRead_49 : decode cX9_eRead 49 = .ok (.aload_n 0, 1) := by decide +kernel
theorem dX9_eRead_50 : decode cX9_eRead 50 = .ok (.getfield 112, 3) := by decide +kernel
theorem dX9_eRead_53 : decode cX9_eRead 53 = .ok (.iadd, 1) := by decide +kernel
theorem dX9_eRead_54 : decode cX9_eRead 54 = .ok (.goto 7, 3) := by decide +kernel
theorem dX9_eRead_57 : decode cX9_eRead 57 = .ok (.aload_n 0, 1) := by decide +kernel
theorem dX9_eRead_58 : decode cX9_eRead 58 = .ok (.getfield 112, 3) := by decide +kernel
theorem dX9_eRead_61 : decode cX9_eRead 61 = .ok (.invokevirtual 132, 3) := by decide +kernel
theorem dX9_eRead_64 : decode cX9_eRead 64 = .ok (.aload_n 0, 1) := by decide +kernel
theorem dX9_eRead_65 : decode cX9_eRead 65 = .ok (.bipush 7, 2) := by decide +kernel
theorem dX9_eRead_67 : decode cX9_eRead 67 = .ok (.invokevirtual 139, 3) := by decide +kernel
theorem dX9_eRead_70 : decode cX9_eRead 70 = .ok (.iconst 0, 1) := by decide +kernel
theorem dX9_eRead_71 : decode cX9_eRead 71 = .ok (.istore_n 1, 1) := by decide +kernel
theorem dX9_eRead_72 : decode cX9_eRead 72 = .ok (.goto (-58), 3) := by decide +kernel
theorem dX9_eRead_75 : decode cX9_eRead 75 = .ok (.aload_n 0, 1) := by decide +kernel
theorem dX9_eRead_76 : decode cX9_eRead 76 = .ok (.getfield 109, 3) := by decide +kernel
theorem dX9_eRead_79 : decode cX9_eRead 79 = .ok (.bipush 6, 2) := by decide +kernel
theorem dX9_eRead_81 : decode cX9_eRead 81 = .ok (.if_icmp .ne 18, 3) := by decide +kernel
theorem dX9_eRead_84 : decode cX9_eRead 84 = .ok (.iload_n 2, 1) := by decide +kernel
theorem dX9_eRead_85 : decode cX9_eRead 85 = .ok (.ifCond .eq 14, 3) := by decide +kernel
theorem dX9_eRead_88 : decode cX9_eRead 88 = .ok (.aload_n 0, 1) := by decide +kernel
theorem dX9_eRead_89 : decode cX9_eRead 89 = .ok (.bipush 13, 2) := by decide +kernel
theorem dX9_eRead_91 : decode cX9_eRead 91 = .ok (.invokevirtual 146, 3) := by decide +kernel
theorem dX9_eRead_94 : decode cX9_eRead 94 = .ok (.ifCond .ne (-80), 3) := by decide +kernel
theorem dX9_eRead_97 : decode cX9_eRead 97 = .ok (.iconst 0, 1) := by decide +kernel
theorem dX9_eRead_98 : decode cX9_eRead 98 = .ok (.ireturn, 1) := by decide +kernel
theorem dX9_eRead_99 : decode cX9_eRead 99 = .ok (.aload_n 0, 1) := by decide +kernel
theorem dX9_eRead_100 : decode cX9_eRead 100 = .ok (.getfield 109, 3) := by decide +kernel
theorem dX9_eRead_103 : decode cX9_eRead 103 = .ok (.bipush 45, 2) := by decide +kernel
theorem dX9_eRead_105 : decode cX9_eRead 105 = .ok (.if_icmp .ne 19, 3) := by decide +kernel
theorem dX9_eRead_108 : decode cX9_eRead 108 = .ok (.aload_n 0, 1) := by decide +kernel
theorem dX9_eRead_109 : decode cX9_eRead 109 = .ok (.bipush 19, 2) := by decide +kernel
theorem dX9_eRead_111 : decode cX9_eRead 111 = .ok (.invokevirtual 146, 3) := by decide +kernel
theorem dX9_eRead_114 : decode cX9_eRead 114 = .ok (.ifCond .ne 5, 3) := by decide +kernel
theorem dX9_eRead_117 : decode cX9_eRead 117 = .ok (.iconst 0, 1) := by decide +kernel
theorem dX9_eRead_118 : decode cX9_eRead 118 = .ok (.ireturn, 1) := by decide +kernel
theorem dX9_eRead_119 : decode cX9_eRead 119 = .ok (.iconst 0, 1) := by decide +kernel
theorem dX9_eRead_120 : decode cX9_eRead 120 = .ok (.istore_n 2, 1) := by decide +kernel
theorem dX9_eRead_121 : decode cX9_eRead 121 = .ok (.goto (-107), 3) := by decide +kernel
theorem dX9_eRead_124 : decode cX9_eRead 124 = .ok (.aload_n 0, 1) := by decide +kernel
theorem dX9_eRead_125 : decode cX9_eRead 125 = .ok (.getfield 109, 3) := by decide +kernel
theorem dX9_eRead_128 : decode cX9_eRead 128 = .ok (.bipush 40, 2) := by decide +kernel
theorem dX9_eRead_130 : decode cX9_eRead 130 = .ok (.if_icmp .ne 18, 3) := by decide +kernel
theorem dX9_eRead_133 : decode cX9_eRead 133 = .ok (.aload_n 0, 1) := by decide +kernel
theorem dX9_eRead_134 : decode cX9_eRead 134 = .ok (.iconst 0, 1) := by decide +kernel
theorem dX9_eRead_135 : decode cX9_eRead 135 = .ok (.invokevirtual 146, 3) := by decide +kernel
theorem dX9_eRead_138 : decode cX9_eRead 138 = .ok (.ifCond .ne 5, 3) := by decide +kernel
theorem dX9_eRead_141 : decode cX9_eRead 141 = .ok (.iconst 0, 1) := by decide +kernel
theorem dX9_eRead_142 : decode cX9_eRead 142 = .ok (.ireturn, 1) := by decide +kernel
theorem dX9_eRead_143 : decode cX9_eRead 143 = .ok (.iconst 1, 1) := by decide +kernel
theorem dX9_eRead_144 : decode cX9_eRead 144 = .ok (.istore_n 2, 1) := by decide +kernel
theorem dX9_eRead_145 : decode cX9_eRead 145 = .ok (.goto (-131), 3) := by decide +kernel
theorem dX9_eRead_148 : decode cX9_eRead 148 = .ok (.iconst 0, 1) := by decide +kernel
theorem dX9_eRead_149 : decode cX9_eRead 149 = .ok (.ireturn, 1) := by decide +kernel
theorem dX9_eRead_150 : decode cX9_eRead 150 = .ok (.aload_n 0, 1) := by decide +kernel
theorem dX9_eRead_151 : decode cX9_eRead 151 = .ok (.getfield 109, 3) := by decide +kernel
theorem dX9_eRead_154 : decode cX9_eRead 154 = .ok (.bipush 59, 2) := by decide +kernel
theorem dX9_eRead_156 : decode cX9_eRead 156 = .ok (.if_icmp .ne 21, 3) := by decide +kernel
theorem dX9_eRead_159 : decode cX9_eRead 159 = .ok (.aload_n 0, 1) := by decide +kernel
theorem dX9_eRead_160 : decode cX9_eRead 160 = .ok (.iconst 1, 1) := by decide +kernel
theorem dX9_eRead_161 : decode cX9_eRead 161 = .ok (.invokevirtual 139, 3) := by decide +kernel
theorem dX9_eRead_164 : decode cX9_eRead 164 = .ok (.aload_n 0, 1) := by decide +kernel
theorem dX9_eRead_165 : decode cX9_eRead 165 = .ok (.getfield 122, 3) := by decide +kernel
theorem dX9_eRead_168 : decode cX9_eRead 168 = .ok (.ifCond .ne 7, 3) := by decide +kernel
theorem dX9_eRead_171 : decode cX9_eRead 171 = .ok (.iconst 1, 1) := by decide +kernel
theorem dX9_eRead_172 : decode cX9_eRead 172 = .ok (.goto 4, 3) := by decide +kernel
theorem dX9_eRead_175 : decode cX9_eRead 175 = .ok (.iconst 0, 1) := by decide +kernel
theorem dX9_eRead_176 : decode cX9_eRead 176 = .ok (.ireturn, 1) := by decide +kernel
theorem dX9_eRead_177 : decode cX9_eRead 177 = .ok (.aload_n 0, 1) := by decide +kernel
theorem dX9_eRead_178 : decode cX9_eRead 178 = .ok (.getfield 109, 3) := by decide +kernel
theorem dX9_eRead_181 : decode cX9_eRead 181 = .ok (.bipush 41, 2) := by decide +kernel
theorem dX9_eRead_183 : decode cX9_eRead 183 = .ok (.if_icmp .ne 46, 3) := by decide +kernel
theorem dX9_eRead_186 : decode cX9_eRead 186 = .ok (.aload_n 0, 1) := by decide +kernel
theorem dX9_eRead_187 : decode cX9_eRead 187 = .ok (.iconst 1, 1) := by decide +kernel
theorem dX9_eRead_188 : decode cX9_eRead 188 = .ok (.invokevirtual 139, 3) := by decide +kernel
theorem dX9_eRead_191 : decode cX9_eRead 191 = .ok (.aload_n 0, 1) := by decide +kernel
theorem dX9_eRead_192 : decode cX9_eRead 192 = .ok (.getfield 122, 3) := by decide +kernel
theorem dX9_eRead_195 : decode cX9_eRead 195 = .ok (.ifCond .ne 5, 3) := by decide +kernel
theorem dX9_eRead_198 : decode cX9_eRead 198 = .ok (.iconst 0, 1) := by decide +kernel
theorem dX9_eRead_199 : decode cX9_eRead 199 = .ok (.ireturn, 1) := by decide +kernel
theorem dX9_eRead_200 : decode cX9_eRead 200 = .ok (.aload_n 0, 1) := by decide +kernel
theorem dX9_eRead_201 : decode cX9_eRead 201 = .ok (.dup, 1) := by decide +kernel
theorem dX9_eRead_202 : decode cX9_eRead 202 = .ok (.getfield 122, 3) := by decide +kernel
theorem dX9_eRead_205 : decode cX9_eRead 205 = .ok (.iconst 1, 1) := by decide +kernel
theorem dX9_eRead_206 : decode cX9_eRead 206 = .ok (.isub, 1) := by decide +kernel
theorem dX9_eRead_207 : decode cX9_eRead 207 = .ok (.putfield 122, 3) := by decide +kernel
theorem dX9_eRead_210 : decode cX9_eRead 210 = .ok (.aload_n 0, 1) := by decide +kernel
theorem dX9_eRead_211 : decode cX9_eRead 211 = .ok (.dup, 1) := by decide +kernel
theorem dX9_eRead_212 : decode cX9_eRead 212 = .ok (.getfield 129, 3) := by decide +kernel
theorem dX9_eRead_215 : decode cX9_eRead 215 = .ok (.iconst 1, 1) := by decide +kernel
theorem dX9_eRead_216 : decode cX9_eRead 216 = .ok (.isub, 1) := by decide +kernel
theorem dX9_eRead_217 : decode cX9_eRead 217 = .ok (.putfield 129, 3) := by decide +kernel
theorem dX9_eRead_220 : decode cX9_eRead 220 = .ok (.aload_n 0, 1) := by decide +kernel
theorem dX9_eRead_221 : decode cX9_eRead 221 = .ok (.bipush 7, 2) := by decide +kernel
theorem dX9_eRead_223 : decode cX9_eRead 223 = .ok (.invokevirtual 139, 3) := by decide +kernel
theorem dX9_eRead_226 : decode cX9_eRead 226 = .ok (.goto (-212), 3) := by decide +kernel
theorem dX9_eRead_229 : decode cX9_eRead 229 = .ok (.aload_n 0, 1) := by decide +kernel
theorem dX9_eRead_230 : decode cX9_eRead 230 = .ok (.invokevirtual 149, 3) := by decide +kernel
theorem dX9_eRead_233 : decode cX9_eRead 233 = .ok (.istore_n 3, 1) := by decide +kernel
theorem dX9_eRead_234 : decode cX9_eRead 234 = .ok (.iload_n 3, 1) := by decide +kernel
theorem dX9_eRead_235 : decode cX9_eRead 235 = .ok (.iconst (-1), 1) := by decide +kernel
theorem dX9_eRead_236 : decode cX9_eRead 236 = .ok (.if_icmp .eq 11, 3) := by decide +kernel
theorem dX9_eRead_239 : decode cX9_eRead 239 = .ok (.aload_n 0, 1) := by decide +kernel
theorem dX9_eRead_240 : decode cX9_eRead 240 = .ok (.iload_n 3, 1) := by decide +kernel
theorem dX9_eRead_241 : decode cX9_eRead 241 = .ok (.invokevirtual 152, 3) := by decide +kernel
theorem dX9_eRead_244 : decode cX9_eRead 244 = .ok (.ifCond .ne 5, 3) := by decide +kernel
theorem dX9_eRead_247 : decode cX9_eRead 247 = .ok (.iconst 0, 1) := by decide +kernel
theorem dX9_eRead_248 : decode cX9_eRead 248 = .ok (.ireturn, 1) := by decide +kernel
theorem dX9_eRead_249 : decode cX9_eRead 249 = .ok (.iconst 1, 1) := by decide +kernel
theorem dX9_eRead_250 : decode cX9_eRead 250 = .ok (.istore_n 1, 1) := by decide +kernel
theorem dX9_eRead_251 : decode cX9_eRead 251 = .ok (.iload_n 3, 1) := by decide +kernel
theorem dX9_eRead_252 : decode cX9_eRead 252 = .ok (.bipush 12, 2) := by decide +kernel
theorem dX9_eRead_254 : decode cX9_eRead 254 = .ok (.if_icmp .gt 7, 3) := by decide +kernel
theorem dX9_eRead_257 : decode cX9_eRead 257 = .ok (.iconst 1, 1) := by decide +kernel
theorem dX9_eRead_258 : decode cX9_eRead 258 = .ok (.goto 4, 3) := by decide +kernel
theorem dX9_eRead_261 : decode cX9_eRead 261 = .ok (.iconst 0, 1) := by decide +kernel
theorem dX9_eRead_262 : decode cX9_eRead 262 = .ok (.istore_n 2, 1) := by decide +kernel
theorem dX9_eRead_263 : decode cX9_eRead 263 = .ok (.goto (-249), 3) := by decide +kernel
theorem dX9_text_0 : decode cX9_text 0 = .ok (.aload_n 0, 1) := by decide +kernel
theorem dX9_text_1 : decode cX9_text 1 = .ok (.getfield 94, 3) := by decide +kernel
theorem dX9_text_4 : decode cX9_text 4 = .ok (.bipush 6, 2) := by decide +kernel
theorem dX9_text_6 : decode cX9_text 6 = .ok (.if_icmp .ne 6, 3) := by decide +kernel
theorem dX9_text_9 : decode cX9_text 9 = .ok (.bipush (-4), 2) := by decide +kernel
theorem dX9_text_11 : decode cX9_text 11 = .ok (.ireturn, 1) := by decide +kernel
theorem dX9_text_12 : decode cX9_text 12 = .ok (.aload_n 0, 1) := by decide +kernel
theorem dX9_text_13 : decode cX9_text 13 = .ok (.iconst 0, 1) := by decide +kernel
theorem dX9_text_14 : decode cX9_text 14 = .ok (.putfield 103, 3) := by decide +kernel
theorem dX9_text_17 : decode cX9_text 17 = .ok (.aload_n 0, 1) := by decide +kernel
theorem dX9_text_18 : decode cX9_text 18 = .ok (.iconst 0, 1) := by decide +kernel
theorem dX9_text_19 : decode cX9_text 19 = .ok (.putfield 119, 3) := by decide +kernel
theorem dX9_text_22 : decode cX9_text 22 = .ok (.iconst 1, 1) := by decide +kernel
theorem dX9_text_23 : decode cX9_text 23 = .ok (.istore_n 1, 1) := by decide +kernel
theorem dX9_text_24 : decode cX9_text 24 = .ok (.iconst 0, 1) := by decide +kernel
theorem dX9_text_25 : decode cX9_text 25 = .ok (.istore_n 2, 1) := by decide +kernel
theorem dX9_text_26 : decode cX9_text 26 = .ok (.iload_n 2, 1) := by decide +kernel
theorem dX9_text_27 : decode cX9_text 27 = .ok (.iconst 3, 1) := by decide +kernel
theorem dX9_text_28 : decode cX9_text 28 = .ok (.if_icmp .ge 73, 3) := by decide +kernel
theorem dX9_text_31 : decode cX9_text 31 = .ok (.iload_n 1, 1) := by decide +kernel
theorem dX9_text_32 : decode cX9_text 32 = .ok (.ifCond .eq 69, 3) := by decide +kernel
theorem dX9_text_35 : decode cX9_text 35 = .ok (.aload_n 0, 1) := by decide +kernel
theorem dX9_text_36 : decode cX9_text 36 = .ok (.invokevirtual 142, 3) := by decide +kernel
theorem dX9_text_39 : decode cX9_text 39 = .ok (.aload_n 0, 1) := by decide +kernel
theorem dX9_text_40 : decode cX9_text 40 = .ok (.getfield 109, 3) := by decide +kernel
theorem dX9_text_43 : decode cX9_text 43 = .ok (.iconst 3, 1) := by decide +kernel
theorem dX9_text_44 : decode cX9_text 44 = .ok (.if_icmp .ne 15, 3) := by decide +kernel
theorem dX9_text_47 : decode cX9_text 47 = .ok (.aload_n 0, 1) := by decide +kernel
theorem dX9_text_48 : decode cX9_text 48 = .ok (.getfield 112, 3) := by decide +kernel
theorem dX9_text_51 : decode cX9_text 51 = .ok (.iload_n 2, 1) := by decide +kernel
theorem dX9_text_52 : decode cX9_text 52 = .ok (.if_icmp .ne 7, 3) := by decide +kernel
theorem dX9_text_55 : decode cX9_text 55 = .ok (.iconst 1, 1) := by decide +kernel
theorem dX9_text_56 : decode cX9_text 56 = .ok (.goto 4, 3) := by decide +kernel
theorem dX9_text_59 : decode cX9_text 59 = .ok (.iconst 0, 1) := by decide +kernel
theorem dX9_text_60 : decode cX9_text 60 = .ok (.istore_n 1, 1) := by decide +kernel
theorem dX9_text_61 : decode cX9_text 61 = .ok (.aload_n 0, 1) := by decide +kernel
theorem dX9_text_62 : decode cX9_text 62 = .ok (.getfield 25, 3) := by decide +kernel
theorem dX9_text_65 : decode cX9_text 65 = .ok (.iconst 4, 1) := by decide +kernel
theorem dX9_text_66 : decode cX9_text 66 = .ok (.aload_n 0, 1) := by decide +kernel
theorem dX9_text_67 : decode cX9_text 67 = .ok (.getfield 94, 3) := by decide +kernel
theorem dX9_text_70 : decode cX9_text 70 = .ok (.imul, 1) := by decide +kernel
theorem dX9_text_71 : decode cX9_text 71 = .ok (.iload_n 2, 1) := by decide +kernel
theorem dX9_text_72 : decode cX9_text 72 = .ok (.iadd, 1) := by decide +kernel
theorem dX9_text_73 : decode cX9_text 73 = .ok (.aload_n 0, 1) := by decide +kernel
theorem dX9_text_74 : decode cX9_text 74 = .ok (.getfield 119, 3) := by decide +kernel
theorem dX9_text_77 : decode cX9_text 77 = .ok (.iastore, 1) := by decide +kernel
theorem dX9_text_78 : decode cX9_text 78 = .ok (.iload_n 1, 1) := by decide +kernel
theorem dX9_text_79 : decode cX9_text 79 = .ok (.ifCond .eq 14, 3) := by decide +kernel
theorem dX9_text_82 : decode cX9_text 82 = .ok (.aload_n 0, 1) := by decide +kernel
theorem dX9_text_83 : decode cX9_text 83 = .ok (.invokevirtual 155, 3) := by decide +kernel
theorem dX9_text_86 : decode cX9_text 86 = .ok (.ifCond .eq 7, 3) := by decide +kernel
theorem dX9_text_89 : decode cX9_text 89 = .ok (.iconst 1, 1) := by decide +kernel
theorem dX9_text_90 : decode cX9_text 90 = .ok (.goto 4, 3) := by decide +kernel
theorem dX9_text_93 : decode cX9_text 93 = .ok (.iconst 0, 1) := by decide +kernel
theorem dX9_text_94 : decode cX9_text 94 = .ok (.istore_n 1, 1) := by decide +kernel
theorem dX9_text_95 : decode cX9_text 95 = .ok (.iinc 2 1, 3) := by decide +kernel
theorem dX9_text_98 : decode cX9_text 98 = .ok (.goto (-72), 3) := by decide +kernel
theorem dX9_text_101 : decode cX9_text 101 = .ok (.iload_n 1, 1) := by decide +kernel
theorem dX9_text_102 : decode cX9_text 102 = .ok (.ifCond .eq 20, 3) := by decide +kernel
theorem dX9_text_105 : decode cX9_text 105 = .ok (.aload_n 0, 1) := by decide +kernel
theorem dX9_text_106 : decode cX9_text 106 = .ok (.invokevirtual 142, 3) := by decide +kernel
theorem dX9_text_109 : decode cX9_text 109 = .ok (.aload_n 0, 1) := by decide +kernel
theorem dX9_text_110 : decode cX9_text 110 = .ok (.getfield 109, 3) := by decide +kernel
theorem dX9_text_113 : decode cX9_text 113 = .ok (.ifCond .ne 7, 3) := by decide +kernel
theorem dX9_text_116 : decode cX9_text 116 = .ok (.iconst 1, 1) := by decide +kernel
theorem dX9_text_117 : decode cX9_text 117 = .ok (.goto 4, 3) := by decide +kernel
theorem dX9_text_120 : decode cX9_text 120 = .ok (.iconst 0, 1) := by decide +kernel
theorem dX9_text_121 : decode cX9_text 121 = .ok (.istore_n 1, 1) := by decide +kernel
theorem dX9_text_122 : decode cX9_text 122 = .ok (.aload_n 0, 1) := by decide +kernel
theorem dX9_text_123 : decode cX9_text 123 = .ok (.getfield 25, 3) := by decide +kernel
theorem dX9_text_126 : decode cX9_text 126 = .ok (.iconst 4, 1) := by decide +kernel
theorem dX9_text_127 : decode cX9_text 127 = .ok (.aload_n 0, 1) := by decide +kernel
theorem dX9_text_128 : decode cX9_text 128 = .ok (.getfield 94, 3) := by decide +kernel
theorem dX9_text_131 : decode cX9_text 131 = .ok (.imul, 1) := by decide +kernel
theorem dX9_text_132 : decode cX9_text 132 = .ok (.iconst 3, 1) := by decide +kernel
theorem dX9_text_133 : decode cX9_text 133 = .ok (.iadd, 1) := by decide +kernel
theorem dX9_text_134 : decode cX9_text 134 = .ok (.aload_n 0, 1) := by decide +kernel
theorem dX9_text_135 : decode cX9_text 135 = .ok (.getfield 119, 3) := by decide +kernel
theorem dX9_text_138 : decode cX9_text 138 = .ok (.iastore, 1) := by decide +kernel
theorem dX9_text_139 : decode cX9_text 139 = .ok (.aload_n 0, 1) := by decide +kernel
theorem dX9_text_140 : decode cX9_text 140 = .ok (.iconst 0, 1) := by decide +kernel
theorem dX9_text_141 : decode cX9_text 141 = .ok (.putfield 67, 3) := by decide +kernel
theorem dX9_text_144 : decode cX9_text 144 = .ok (.iload_n 1, 1) := by decide +kernel
theorem dX9_text_145 : decode cX9_text 145 = .ok (.ifCond .ne 11, 3) := by decide +kernel
theorem dX9_text_148 : decode cX9_text 148 = .ok (.bipush (-100), 2) := by decide +kernel
theorem dX9_text_150 : decode cX9_text 150 = .ok (.aload_n 0, 1) := by decide +kernel
theorem dX9_text_151 : decode cX9_text 151 = .ok (.getfield 106, 3) := by decide +kernel
theorem dX9_text_154 : decode cX9_text 154 = .ok (.isub, 1) := by decide +kernel
theorem dX9_text_155 : decode cX9_text 155 = .ok (.ireturn, 1) := by decide +kernel
theorem dX9_text_156 : decode cX9_text 156 = .ok (.aload_n 0, 1) := by decide +kernel
theorem dX9_text_157 : decode cX9_text 157 = .ok (.dup, 1) := by decide +kernel
theorem dX9_text_158 : decode cX9_text 158 = .ok (.getfield 94, 3) := by decide +kernel
theorem dX9_text_161 : decode cX9_text 161 = .ok (.iconst 1, 1) := by decide +kernel
theorem dX9_text_162 : decode cX9_text 162 = .ok (.iadd, 1) := by decide +kernel
theorem dX9_text_163 : decode cX9_text 163 = .ok (.putfield 94, 3) := by decide +kernel
theorem dX9_text_166 : decode cX9_text 166 = .ok (.aload_n 0, 1) := by decide +kernel
theorem dX9_text_167 : decode cX9_text 167 = .ok (.getfield 94, 3) := by decide +kernel
theorem dX9_text_170 : decode cX9_text 170 = .ok (.iconst 1, 1) := by decide +kernel
theorem dX9_text_171 : decode cX9_text 171 = .ok (.isub, 1) := by decide +kernel
theorem dX9_text_172 : decode cX9_text 172 = .ok (.ireturn, 1) := by decide +kernel
theorem dX9_two_0 : decode cX9_two 0 = .ok (.iload_n 0, 1) := by decide +kernel
theorem dX9_two_1 : decode cX9_two 1 = .ok (.tableswitch 101 11 17 #[43, 57, 101, 71, 82, 93, 97], 43) := by decide +kernel
theorem dX9_two_44 : decode cX9_two 44 = .ok (.iload_n 1, 1) := by decide +kernel
theorem dX9_two_45 : decode cX9_two 45 = .ok (.ifCond .ne 7, 3) := by decide +kernel
theorem dX9_two_48 : decode cX9_two 48 = .ok (.iload_n 2, 1) := by decide +kernel
theorem dX9_two_49 : decode cX9_two 49 = .ok (.ifCond .eq 7, 3) := by decide +kernel
theorem dX9_two_52 : decode cX9_two 52 = .ok (.iconst 1, 1) := by decide +kernel
theorem dX9_two_53 : decode cX9_two 53 = .ok (.goto 4, 3) := by decide +kernel
theorem dX9_two_56 : decode cX9_two 56 = .ok (.iconst 0, 1) := by decide +kernel
theorem dX9_two_57 : decode cX9_two 57 = .ok (.ireturn, 1) := by decide +kernel
theorem dX9_two_58 : decode cX9_two 58 = .ok (.iload_n 1, 1) := by decide +kernel
theorem dX9_two_59 : decode cX9_two 59 = .ok (.ifCond .eq 11, 3) := by decide +kernel
theorem dX9_two_62 : decode cX9_two 62 = .ok (.iload_n 2, 1) := by decide +kernel
theorem dX9_two_63 : decode cX9_two 63 = .ok (.ifCond .eq 7, 3) := by decide +kernel
theorem dX9_two_66 : decode cX9_two 66 = .ok (.iconst 1, 1) := by decide +kernel
theorem dX9_two_67 : decode cX9_two 67 = .ok (.goto 4, 3) := by decide +kernel
theorem dX9_two_70 : decode cX9_two 70 = .ok (.iconst 0, 1) := by decide +kernel
theorem dX9_two_71 : decode cX9_two 71 = .ok (.ireturn, 1) := by decide +kernel
theorem dX9_two_72 : decode cX9_two 72 = .ok (.iload_n 1, 1) := by decide +kernel
theorem dX9_two_73 : decode cX9_two 73 = .ok (.iload_n 2, 1) := by decide +kernel
theorem dX9_two_74 : decode cX9_two 74 = .ok (.if_icmp .ge 7, 3) := by decide +kernel
theorem dX9_two_77 : decode cX9_two 77 = .ok (.iconst 1, 1) := by decide +kernel
theorem dX9_two_78 : decode cX9_two 78 = .ok (.goto 4, 3) := by decide +kernel
theorem dX9_two_81 : decode cX9_two 81 = .ok (.iconst 0, 1) := by decide +kernel
theorem dX9_two_82 : decode cX9_two 82 = .ok (.ireturn, 1) := by decide +kernel
theorem dX9_two_83 : decode cX9_two 83 = .ok (.iload_n 1, 1) := by decide +kernel
theorem dX9_two_84 : decode cX9_two 84 = .ok (.iload_n 2, 1) := by decide +kernel
theorem dX9_two_85 : decode cX9_two 85 = .ok (.if_icmp .ne 7, 3) := by decide +kernel
theorem dX9_two_88 : decode cX9_two 88 = .ok (.iconst 1, 1) := by decide +kernel
theorem dX9_two_89 : decode cX9_two 89 = .ok (.goto 4, 3) := by decide +kernel
theorem dX9_two_92 : decode cX9_two 92 = .ok (.iconst 0, 1) := by decide +kernel
theorem dX9_two_93 : decode cX9_two 93 = .ok (.ireturn, 1) := by decide +kernel
theorem dX9_two_94 : decode cX9_two 94 = .ok (.iload_n 1, 1) := by decide +kernel
theorem dX9_two_95 : decode cX9_two 95 = .ok (.iload_n 2, 1) := by decide +kernel
theorem dX9_two_96 : decode cX9_two 96 = .ok (.iadd, 1) := by decide +kernel
theorem dX9_two_97 : decode cX9_two 97 = .ok (.ireturn, 1) := by decide +kernel
theorem dX9_two_98 : decode cX9_two 98 = .ok (.iload_n 1, 1) := by decide +kernel
theorem dX9_two_99 : decode cX9_two 99 = .ok (.iload_n 2, 1) := by decide +kernel
theorem dX9_two_100 : decode cX9_two 100 = .ok (.isub, 1) := by decide +kernel
theorem dX9_two_101 : decode cX9_two 101 = .ok (.ireturn, 1) := by decide +kernel
theorem dX9_two_102 : decode cX9_two 102 = .ok (.iload_n 1, 1) := by decide +kernel
theorem dX9_two_103 : decode cX9_two 103 = .ok (.iload_n 2, 1) := by decide +kernel
theorem dX9_two_104 : decode cX9_two 104 = .ok (.imul, 1) := by decide +kernel
theorem dX9_two_105 : decode cX9_two 105 = .ok (.ireturn, 1) := by decide +kernel
theorem dX9_says_0 : decode cX9_says 0 = .ok (.iconst 0, 1) := by decide +kernel
theorem dX9_says_1 : decode cX9_says 1 = .ok (.istore_n 2, 1) := by decide +kernel
theorem dX9_says_2 : decode cX9_says 2 = .ok (.aload_n 0, 1) := by decide +kernel
theorem dX9_says_3 : decode cX9_says 3 = .ok (.getfield 25, 3) := by decide +kernel
theorem dX9_says_6 : decode cX9_says 6 = .ok (.iconst 4, 1) := by decide +kernel
theorem dX9_says_7 : decode cX9_says 7 = .ok (.aload_n 0, 1) := by decide +kernel
theorem dX9_says_8 : decode cX9_says 8 = .ok (.getfield 97, 3) := by decide +kernel
theorem dX9_says_11 : decode cX9_says 11 = .ok (.imul, 1) := by decide +kernel
theorem dX9_says_12 : decode cX9_says 12 = .ok (.iload_n 1, 1) := by decide +kernel
theorem dX9_says_13 : decode cX9_says 13 = .ok (.iadd, 1) := by decide +kernel
theorem dX9_says_14 : decode cX9_says 14 = .ok (.iaload, 1) := by decide +kernel
theorem dX9_says_15 : decode cX9_says 15 = .ok (.istore_n 3, 1) := by decide +kernel
theorem dX9_says_16 : decode cX9_says 16 = .ok (.iload_n 3, 1) := by decide +kernel
theorem dX9_says_17 : decode cX9_says 17 = .ok (.aload_n 0, 1) := by decide +kernel
theorem dX9_says_18 : decode cX9_says 18 = .ok (.getfield 25, 3) := by decide +kernel
theorem dX9_says_21 : decode cX9_says 21 = .ok (.iconst 4, 1) := by decide +kernel
theorem dX9_says_22 : decode cX9_says 22 = .ok (.aload_n 0, 1) := by decide +kernel
theorem dX9_says_23 : decode cX9_says 23 = .ok (.getfield 97, 3) := by decide +kernel
theorem dX9_says_26 : decode cX9_says 26 = .ok (.imul, 1) := by decide +kernel
theorem dX9_says_27 : decode cX9_says 27 = .ok (.iload_n 1, 1) := by decide +kernel
theorem dX9_says_28 : decode cX9_says 28 = .ok (.iadd, 1) := by decide +kernel
theorem dX9_says_29 : decode cX9_says 29 = .ok (.iconst 1, 1) := by decide +kernel
theorem dX9_says_30 : decode cX9_says 30 = .ok (.iadd, 1) := by decide +kernel
theorem dX9_says_31 : decode cX9_says 31 = .ok (.iaload, 1) := by decide +kernel
theorem dX9_says_32 : decode cX9_says 32 = .ok (.if_icmp .ge 165, 3) := by decide +kernel
theorem dX9_says_35 : decode cX9_says 35 = .ok (.aload_n 0, 1) := by decide +kernel
theorem dX9_says_36 : decode cX9_says 36 = .ok (.getfield 22, 3) := by decide +kernel
theorem dX9_says_39 : decode cX9_says 39 = .ok (.sipush 200, 3) := by decide +kernel
theorem dX9_says_42 : decode cX9_says 42 = .ok (.aload_n 0, 1) := by decide +kernel
theorem dX9_says_43 : decode cX9_says 43 = .ok (.getfield 97, 3) := by decide +kernel
theorem dX9_says_46 : decode cX9_says 46 = .ok (.imul, 1) := by decide +kernel
theorem dX9_says_47 : decode cX9_says 47 = .ok (.iload_n 3, 1) := by decide +kernel
theorem dX9_says_48 : decode cX9_says 48 = .ok (.iadd, 1) := by decide +kernel
theorem dX9_says_49 : decode cX9_says 49 = .ok (.iaload, 1) := by decide +kernel
theorem dX9_says_50 : decode cX9_says 50 = .ok (.istore 4, 2) := by decide +kernel
theorem dX9_says_52 : decode cX9_says 52 = .ok (.iload 4, 2) := by decide +kernel
theorem dX9_says_54 : decode cX9_says 54 = .ok (.ldc 145, 2) := by decide +kernel
theorem dX9_says_56 : decode cX9_says 56 = .ok (.if_icmp .ge 10, 3) := by decide +kernel
theorem dX9_says_59 : decode cX9_says 59 = .ok (.iload 4, 2) := by decide +kernel
theorem dX9_says_61 : decode cX9_says 61 = .ok (.bipush 11, 2) := by decide +kernel
theorem dX9_says_63 : decode cX9_says 63 = .ok (.if_icmp .ge 37, 3) := by decide +kernel
theorem dX9_says_66 : decode cX9_says 66 = .ok (.aload_n 0, 1) := by decide +kernel
theorem dX9_says_67 : decode cX9_says 67 = .ok (.getfield 52, 3) := by decide +kernel
theorem dX9_says_70 : decode cX9_says 70 = .ok (.iload_n 2, 1) := by decide +kernel
theorem dX9_says_71 : decode cX9_says 71 = .ok (.iload 4, 2) := by decide +kernel
theorem dX9_says_73 : decode cX9_says 73 = .ok (.bipush 11, 2) := by decide +kernel
theorem dX9_says_75 : decode cX9_says 75 = .ok (.if_icmp .ge 13, 3) := by decide +kernel
theorem dX9_says_78 : decode cX9_says 78 = .ok (.aload_n 0, 1) := by decide +kernel
theorem dX9_says_79 : decode cX9_says 79 = .ok (.getfield 55, 3) := by decide +kernel
theorem dX9_says_82 : decode cX9_says 82 = .ok (.iload 4, 2) := by decide +kernel
theorem dX9_says_84 : decode cX9_says 84 = .ok (.iaload, 1) := by decide +kernel
theorem dX9_says_85 : decode cX9_says 85 = .ok (.goto 8, 3) := by decide +kernel
theorem dX9_says_88 : decode cX9_says 88 = .ok (.iload 4, 2) := by decide +kernel
theorem dX9_says_90 : decode cX9_says 90 = .ok (.ldc 145, 2) := by decide +kernel
theorem dX9_says_92 : decode cX9_says 92 = .ok (.isub, 1) := by decide +kernel
theorem dX9_says_93 : decode cX9_says 93 = .ok (.iastore, 1) := by decide +kernel
theorem dX9_says_94 : decode cX9_says 94 = .ok (.iinc 2 1, 3) := by decide +kernel
theorem dX9_says_97 : decode cX9_says 97 = .ok (.goto 94, 3) := by decide +kernel
theorem dX9_says_100 : decode cX9_says 100 = .ok (.iload 4, 2) := by decide +kernel
theorem dX9_says_102 : decode cX9_says 102 = .ok (.bipush 13, 2) := by decide +kernel
theorem dX9_says_104 : decode cX9_says 104 = .ok (.if_icmp .ne 30, 3) := by decide +kernel
theorem dX9_says_107 : decode cX9_says 107 = .ok (.aload_n 0, 1) := by decide +kernel
theorem dX9_says_108 : decode cX9_says 108 = .ok (.getfield 52, 3) := by decide +kernel
theorem dX9_says_111 : decode cX9_says 111 = .ok (.iload_n 2, 1) := by decide +kernel
theorem dX9_says_112 : decode cX9_says 112 = .ok (.iconst 1, 1) := by decide +kernel
theorem dX9_says_113 : decode cX9_says 113 = .ok (.isub, 1) := by decide +kernel
theorem dX9_says_114 : decode cX9_says 114 = .ok (.aload_n 0, 1) := by decide +kernel
theorem dX9_says_115 : decode cX9_says 115 = .ok (.getfield 52, 3) := by decide +kernel
theorem dX9_says_118 : decode cX9_says 118 = .ok (.iload_n 2, 1) := by decide +kernel
theorem dX9_says_119 : decode cX9_says 119 = .ok (.iconst 1, 1) := by decide +kernel
theorem dX9_says_120 : decode cX9_says 120 = .ok (.isub, 1) := by decide +kernel
theorem dX9_says_121 : decode cX9_says 121 = .ok (.iaload, 1) := by decide +kernel
theorem dX9_says_122 : decode cX9_says 122 = .ok (.ifCond .ne 7, 3) := by decide +kernel
theorem dX9_says_125 : decode cX9_says 125 = .ok (.iconst 1, 1) := by decide +kernel
theorem dX9_says_126 : decode cX9_says 126 = .ok (.goto 4, 3) := by decide +kernel
theorem dX9_says_129 : decode cX9_says 129 = .ok (.iconst 0, 1) := by decide +kernel
theorem dX9_says_130 : decode cX9_says 130 = .ok (.iastore, 1) := by decide +kernel
theorem dX9_says_131 : decode cX9_says 131 = .ok (.goto 60, 3) := by decide +kernel
theorem dX9_says_134 : decode cX9_says 134 = .ok (.iload 4, 2) := by decide +kernel
theorem dX9_says_136 : decode cX9_says 136 = .ok (.bipush 19, 2) := by decide +kernel
theorem dX9_says_138 : decode cX9_says 138 = .ok (.if_icmp .ne 23, 3) := by decide +kernel
theorem dX9_says_141 : decode cX9_says 141 = .ok (.aload_n 0, 1) := by decide +kernel
theorem dX9_says_142 : decode cX9_says 142 = .ok (.getfield 52, 3) := by decide +kernel
theorem dX9_says_145 : decode cX9_says 145 = .ok (.iload_n 2, 1) := by decide +kernel
theorem dX9_says_146 : decode cX9_says 146 = .ok (.iconst 1, 1) := by decide +kernel
theorem dX9_says_147 : decode cX9_says 147 = .ok (.isub, 1) := by decide +kernel
theorem dX9_says_148 : decode cX9_says 148 = .ok (.aload_n 0, 1) := by decide +kernel
theorem dX9_says_149 : decode cX9_says 149 = .ok (.getfield 52, 3) := by decide +kernel
theorem dX9_says_152 : decode cX9_says 152 = .ok (.iload_n 2, 1) := by decide +kernel
theorem dX9_says_153 : decode cX9_says 153 = .ok (.iconst 1, 1) := by decide +kernel
theorem dX9_says_154 : decode cX9_says 154 = .ok (.isub, 1) := by decide +kernel
theorem dX9_says_155 : decode cX9_says 155 = .ok (.iaload, 1) := by decide +kernel
theorem dX9_says_156 : decode cX9_says 156 = .ok (.ineg, 1) := by decide +kernel
theorem dX9_says_157 : decode cX9_says 157 = .ok (.iastore, 1) := by decide +kernel
theorem dX9_says_158 : decode cX9_says 158 = .ok (.goto 33, 3) := by decide +kernel
theorem dX9_says_161 : decode cX9_says 161 = .ok (.iinc 2 (-1), 3) := by decide +kernel
theorem dX9_says_164 : decode cX9_says 164 = .ok (.aload_n 0, 1) := by decide +kernel
theorem dX9_says_165 : decode cX9_says 165 = .ok (.getfield 52, 3) := by decide +kernel
theorem dX9_says_168 : decode cX9_says 168 = .ok (.iload_n 2, 1) := by decide +kernel
theorem dX9_says_169 : decode cX9_says 169 = .ok (.iconst 1, 1) := by decide +kernel
theorem dX9_says_170 : decode cX9_says 170 = .ok (.isub, 1) := by decide +kernel
theorem dX9_says_171 : decode cX9_says 171 = .ok (.iload 4, 2) := by decide +kernel
theorem dX9_says_173 : decode cX9_says 173 = .ok (.aload_n 0, 1) := by decide +kernel
theorem dX9_says_174 : decode cX9_says 174 = .ok (.getfield 52, 3) := by decide +kernel
theorem dX9_says_177 : decode cX9_says 177 = .ok (.iload_n 2, 1) := by decide +kernel
theorem dX9_says_178 : decode cX9_says 178 = .ok (.iconst 1, 1) := by decide +kernel
theorem dX9_says_179 : decode cX9_says 179 = .ok (.isub, 1) := by decide +kernel
theorem dX9_says_180 : decode cX9_says 180 = .ok (.iaload, 1) := by decide +kernel
theorem dX9_says_181 : decode cX9_says 181 = .ok (.aload_n 0, 1) := by decide +kernel
theorem dX9_says_182 : decode cX9_says 182 = .ok (.getfield 52, 3) := by decide +kernel
theorem dX9_says_185 : decode cX9_says 185 = .ok (.iload_n 2, 1) := by decide +kernel
theorem dX9_says_186 : decode cX9_says 186 = .ok (.iaload, 1) := by decide +kernel
theorem dX9_says_187 : decode cX9_says 187 = .ok (.invokestatic 159, 3) := by decide +kernel
theorem dX9_says_190 : decode cX9_says 190 = .ok (.iastore, 1) := by decide +kernel
theorem dX9_says_191 : decode cX9_says 191 = .ok (.iinc 3 1, 3) := by decide +kernel
theorem dX9_says_194 : decode cX9_says 194 = .ok (.goto (-178), 3) := by decide +kernel
theorem dX9_says_197 : decode cX9_says 197 = .ok (.aload_n 0, 1) := by decide +kernel
theorem dX9_says_198 : decode cX9_says 198 = .ok (.getfield 52, 3) := by decide +kernel
theorem dX9_says_201 : decode cX9_says 201 = .ok (.iconst 0, 1) := by decide +kernel
theorem dX9_says_202 : decode cX9_says 202 = .ok (.iaload, 1) := by decide +kernel
theorem dX9_says_203 : decode cX9_says 203 = .ok (.ireturn, 1) := by decide +kernel
theorem dX9_force_0 : decode cX9_force 0 = .ok (.iload_n 1, 1) := by decide +kernel
theorem dX9_force_1 : decode cX9_force 1 = .ok (.iconst 0, 1) := by decide +kernel
theorem dX9_force_2 : decode cX9_force 2 = .ok (.aload_n 0, 1) := by decide +kernel
theorem dX9_force_3 : decode cX9_force 3 = .ok (.getfield 94, 3) := by decide +kernel
theorem dX9_force_6 : decode cX9_force 6 = .ok (.iconst 1, 1) := by decide +kernel
theorem dX9_force_7 : decode cX9_force 7 = .ok (.isub, 1) := by decide +kernel
theorem dX9_force_8 : decode cX9_force 8 = .ok (.invokestatic 78, 3) := by decide +kernel
theorem dX9_force_11 : decode cX9_force 11 = .ok (.ifCond .ne 6, 3) := by decide +kernel
theorem dX9_force_14 : decode cX9_force 14 = .ok (.bipush (-2), 2) := by decide +kernel
theorem dX9_force_16 : decode cX9_force 16 = .ok (.ireturn, 1) := by decide +kernel
theorem dX9_force_17 : decode cX9_force 17 = .ok (.aload_n 0, 1) := by decide +kernel
theorem dX9_force_18 : decode cX9_force 18 = .ok (.getfield 97, 3) := by decide +kernel
theorem dX9_force_21 : decode cX9_force 21 = .ok (.istore_n 2, 1) := by decide +kernel
theorem dX9_force_22 : decode cX9_force 22 = .ok (.aload_n 0, 1) := by decide +kernel
theorem dX9_force_23 : decode cX9_force 23 = .ok (.iload_n 1, 1) := by decide +kernel
theorem dX9_force_24 : decode cX9_force 24 = .ok (.putfield 97, 3) := by decide +kernel
theorem dX9_force_27 : decode cX9_force 27 = .ok (.iload_n 2, 1) := by decide +kernel
theorem dX9_force_28 : decode cX9_force 28 = .ok (.ireturn, 1) := by decide +kernel
theorem dX9_asksOf_0 : decode cX9_asksOf 0 = .ok (.aload_n 0, 1) := by decide +kernel
theorem dX9_asksOf_1 : decode cX9_asksOf 1 = .ok (.getfield 55, 3) := by decide +kernel
theorem dX9_asksOf_4 : decode cX9_asksOf 4 = .ok (.iconst 0, 1) := by decide +kernel
theorem dX9_asksOf_5 : decode cX9_asksOf 5 = .ok (.aload_n 0, 1) := by decide +kernel
theorem dX9_asksOf_6 : decode cX9_asksOf 6 = .ok (.getfield 16, 3) := by decide +kernel
theorem dX9_asksOf_9 : decode cX9_asksOf 9 = .ok (.iconst 5, 1) := by decide +kernel
theorem dX9_asksOf_10 : decode cX9_asksOf 10 = .ok (.iload_n 2, 1) := by decide +kernel
theorem dX9_asksOf_11 : decode cX9_asksOf 11 = .ok (.imul, 1) := by decide +kernel
theorem dX9_asksOf_12 : decode cX9_asksOf 12 = .ok (.iaload, 1) := by decide +kernel
theorem dX9_asksOf_13 : decode cX9_asksOf 13 = .ok (.iastore, 1) := by decide +kernel
theorem dX9_asksOf_14 : decode cX9_asksOf 14 = .ok (.aload_n 0, 1) := by decide +kernel
theorem dX9_asksOf_15 : decode cX9_asksOf 15 = .ok (.getfield 55, 3) := by decide +kernel
theorem dX9_asksOf_18 : decode cX9_asksOf 18 = .ok (.iconst 1, 1) := by decide +kernel
theorem dX9_asksOf_19 : decode cX9_asksOf 19 = .ok (.aload_n 0, 1) := by decide +kernel
theorem dX9_asksOf_20 : decode cX9_asksOf 20 = .ok (.getfield 16, 3) := by decide +kernel
theorem dX9_asksOf_23 : decode cX9_asksOf 23 = .ok (.iconst 5, 1) := by decide +kernel
theorem dX9_asksOf_24 : decode cX9_asksOf 24 = .ok (.iload_n 2, 1) := by decide +kernel
theorem dX9_asksOf_25 : decode cX9_asksOf 25 = .ok (.imul, 1) := by decide +kernel
theorem dX9_asksOf_26 : decode cX9_asksOf 26 = .ok (.iconst 1, 1) := by decide +kernel
theorem dX9_asksOf_27 : decode cX9_asksOf 27 = .ok (.iadd, 1) := by decide +kernel
theorem dX9_asksOf_28 : decode cX9_asksOf 28 = .ok (.iaload, 1) := by decide +kernel
theorem dX9_asksOf_29 : decode cX9_asksOf 29 = .ok (.iastore, 1) := by decide +kernel
theorem dX9_asksOf_30 : decode cX9_asksOf 30 = .ok (.aload_n 0, 1) := by decide +kernel
theorem dX9_asksOf_31 : decode cX9_asksOf 31 = .ok (.getfield 55, 3) := by decide +kernel
theorem dX9_asksOf_34 : decode cX9_asksOf 34 = .ok (.iconst 2, 1) := by decide +kernel
theorem dX9_asksOf_35 : decode cX9_asksOf 35 = .ok (.iload_n 3, 1) := by decide +kernel
theorem dX9_asksOf_36 : decode cX9_asksOf 36 = .ok (.iastore, 1) := by decide +kernel
theorem dX9_asksOf_37 : decode cX9_asksOf 37 = .ok (.aload_n 0, 1) := by decide +kernel
theorem dX9_asksOf_38 : decode cX9_asksOf 38 = .ok (.getfield 55, 3) := by decide +kernel
theorem dX9_asksOf_41 : decode cX9_asksOf 41 = .ok (.iconst 3, 1) := by decide +kernel
theorem dX9_asksOf_42 : decode cX9_asksOf 42 = .ok (.iload 4, 2) := by decide +kernel
theorem dX9_asksOf_44 : decode cX9_asksOf 44 = .ok (.iastore, 1) := by decide +kernel
theorem dX9_asksOf_45 : decode cX9_asksOf 45 = .ok (.aload_n 0, 1) := by decide +kernel
theorem dX9_asksOf_46 : decode cX9_asksOf 46 = .ok (.getfield 55, 3) := by decide +kernel
theorem dX9_asksOf_49 : decode cX9_asksOf 49 = .ok (.iconst 4, 1) := by decide +kernel
theorem dX9_asksOf_50 : decode cX9_asksOf 50 = .ok (.iload 5, 2) := by decide +kernel
theorem dX9_asksOf_52 : decode cX9_asksOf 52 = .ok (.iastore, 1) := by decide +kernel
theorem dX9_asksOf_53 : decode cX9_asksOf 53 = .ok (.aload_n 0, 1) := by decide +kernel
theorem dX9_asksOf_54 : decode cX9_asksOf 54 = .ok (.getfield 55, 3) := by decide +kernel
theorem dX9_asksOf_57 : decode cX9_asksOf 57 = .ok (.iconst 5, 1) := by decide +kernel
theorem dX9_asksOf_58 : decode cX9_asksOf 58 = .ok (.aload_n 0, 1) := by decide +kernel
theorem dX9_asksOf_59 : decode cX9_asksOf 59 = .ok (.getfield 16, 3) := by decide +kernel
theorem dX9_asksOf_62 : decode cX9_asksOf 62 = .ok (.iconst 5, 1) := by decide +kernel
theorem dX9_asksOf_63 : decode cX9_asksOf 63 = .ok (.iload_n 2, 1) := by decide +kernel
theorem dX9_asksOf_64 : decode cX9_asksOf 64 = .ok (.imul, 1) := by decide +kernel
theorem dX9_asksOf_65 : decode cX9_asksOf 65 = .ok (.iconst 2, 1) := by decide +kernel
theorem dX9_asksOf_66 : decode cX9_asksOf 66 = .ok (.iadd, 1) := by decide +kernel
theorem dX9_asksOf_67 : decode cX9_asksOf 67 = .ok (.iaload, 1) := by decide +kernel
theorem dX9_asksOf_68 : decode cX9_asksOf 68 = .ok (.iastore, 1) := by decide +kernel
theorem dX9_asksOf_69 : decode cX9_asksOf 69 = .ok (.aload_n 0, 1) := by decide +kernel
theorem dX9_asksOf_70 : decode cX9_asksOf 70 = .ok (.iload_n 1, 1) := by decide +kernel
theorem dX9_asksOf_71 : decode cX9_asksOf 71 = .ok (.invokevirtual 163, 3) := by decide +kernel
theorem dX9_asksOf_74 : decode cX9_asksOf 74 = .ok (.istore 6, 2) := by decide +kernel
theorem dX9_asksOf_76 : decode cX9_asksOf 76 = .ok (.iload_n 1, 1) := by decide +kernel
theorem dX9_asksOf_77 : decode cX9_asksOf 77 = .ok (.ifCond .ne 15, 3) := by decide +kernel
theorem dX9_asksOf_80 : decode cX9_asksOf 80 = .ok (.iload 6, 2) := by decide +kernel
theorem dX9_asksOf_82 : decode cX9_asksOf 82 = .ok (.iconst 0, 1) := by decide +kernel
theorem dX9_asksOf_83 : decode cX9_asksOf 83 = .ok (.sipush 999, 3) := by decide +kernel
theorem dX9_asksOf_86 : decode cX9_asksOf 86 = .ok (.invokestatic 166, 3) := by decide +kernel
theorem dX9_asksOf_89 : decode cX9_asksOf 89 = .ok (.goto 26, 3) := by decide +kernel
theorem dX9_asksOf_92 : decode cX9_asksOf 92 = .ok (.iload_n 1, 1) := by decide +kernel
theorem dX9_asksOf_93 : decode cX9_asksOf 93 = .ok (.iconst 1, 1) := by decide +kernel
theorem dX9_asksOf_94 : decode cX9_asksOf 94 = .ok (.if_icmp .ne 13, 3) := by decide +kernel
theorem dX9_asksOf_97 : decode cX9_asksOf 97 = .ok (.iload 6, 2) := by decide +kernel
theorem dX9_asksOf_99 : decode cX9_asksOf 99 = .ok (.iconst 0, 1) := by decide +kernel
theorem dX9_asksOf_100 : decode cX9_asksOf 100 = .ok (.iconst 5, 1) := by decide +kernel
theorem dX9_asksOf_101 : decode cX9_asksOf 101 = .ok (.invokestatic 166, 3) := by decide +kernel
theorem dX9_asksOf_104 : decode cX9_asksOf 104 = .ok (.goto 11, 3) := by decide +kernel
theorem dX9_asksOf_107 : decode cX9_asksOf 107 = .ok (.iload 6, 2) := by decide +kernel
theorem dX9_asksOf_109 : decode cX9_asksOf 109 = .ok (.bipush (-2), 2) := by decide +kernel
theorem dX9_asksOf_111 : decode cX9_asksOf 111 = .ok (.iconst 2, 1) := by decide +kernel
theorem dX9_asksOf_112 : decode cX9_asksOf 112 = .ok (.invokestatic 166, 3) := by decide +kernel
theorem dX9_asksOf_115 : decode cX9_asksOf 115 = .ok (.ireturn, 1) := by decide +kernel
theorem dX9_asks_0 : decode cX9_asks 0 = .ok (.iload_n 1, 1) := by decide +kernel
theorem dX9_asks_1 : decode cX9_asks 1 = .ok (.iconst 0, 1) := by decide +kernel
theorem dX9_asks_2 : decode cX9_asks 2 = .ok (.iconst 2, 1) := by decide +kernel
theorem dX9_asks_3 : decode cX9_asks 3 = .ok (.invokestatic 78, 3) := by decide +kernel
theorem dX9_asks_6 : decode cX9_asks 6 = .ok (.ifCond .eq 44, 3) := by decide +kernel
theorem dX9_asks_9 : decode cX9_asks 9 = .ok (.aload_n 0, 1) := by decide +kernel
theorem dX9_asks_10 : decode cX9_asks 10 = .ok (.iload_n 2, 1) := by decide +kernel
theorem dX9_asks_11 : decode cX9_asks 11 = .ok (.invokevirtual 82, 3) := by decide +kernel
theorem dX9_asks_14 : decode cX9_asks 14 = .ok (.ifCond .eq 36, 3) := by decide +kernel
theorem dX9_asks_17 : decode cX9_asks 17 = .ok (.iload_n 3, 1) := by decide +kernel
theorem dX9_asks_18 : decode cX9_asks 18 = .ok (.iconst 0, 1) := by decide +kernel
theorem dX9_asks_19 : decode cX9_asks 19 = .ok (.bipush 33, 2) := by decide +kernel
theorem dX9_asks_21 : decode cX9_asks 21 = .ok (.invokestatic 78, 3) := by decide +kernel
theorem dX9_asks_24 : decode cX9_asks 24 = .ok (.ifCond .eq 26, 3) := by decide +kernel
theorem dX9_asks_27 : decode cX9_asks 27 = .ok (.iload_n 3, 1) := by decide +kernel
theorem dX9_asks_28 : decode cX9_asks 28 = .ok (.bipush 10, 2) := by decide +kernel
theorem dX9_asks_30 : decode cX9_asks 30 = .ok (.irem, 1) := by decide +kernel
theorem dX9_asks_31 : decode cX9_asks 31 = .ok (.iconst 4, 1) := by decide +kernel
theorem dX9_asks_32 : decode cX9_asks 32 = .ok (.if_icmp .ge 18, 3) := by decide +kernel
theorem dX9_asks_35 : decode cX9_asks 35 = .ok (.iload 4, 2) := by decide +kernel
theorem dX9_asks_37 : decode cX9_asks 37 = .ok (.iconst 0, 1) := by decide +kernel
theorem dX9_asks_38 : decode cX9_asks 38 = .ok (.bipush 8, 2) := by decide +kernel
theorem dX9_asks_40 : decode cX9_asks 40 = .ok (.invokestatic 78, 3) := by decide +kernel
theorem dX9_asks_43 : decode cX9_asks 43 = .ok (.ifCond .eq 7, 3) := by decide +kernel
theorem dX9_asks_46 : decode cX9_asks 46 = .ok (.iconst 1, 1) := by decide +kernel
theorem dX9_asks_47 : decode cX9_asks 47 = .ok (.goto 4, 3) := by decide +kernel
theorem dX9_asks_50 : decode cX9_asks 50 = .ok (.iconst 0, 1) := by decide +kernel
theorem dX9_asks_51 : decode cX9_asks 51 = .ok (.istore 5, 2) := by decide +kernel
theorem dX9_asks_53 : decode cX9_asks 53 = .ok (.iload 5, 2) := by decide +kernel
theorem dX9_asks_55 : decode cX9_asks 55 = .ok (.ifCond .eq 22, 3) := by decide +kernel
theorem dX9_asks_58 : decode cX9_asks 58 = .ok (.aload_n 0, 1) := by decide +kernel
theorem dX9_asks_59 : decode cX9_asks 59 = .ok (.iload_n 1, 1) := by decide +kernel
theorem dX9_asks_60 : decode cX9_asks 60 = .ok (.iload_n 2, 1) := by decide +kernel
theorem dX9_asks_61 : decode cX9_asks 61 = .ok (.iload_n 3, 1) := by decide +kernel
theorem dX9_asks_62 : decode cX9_asks 62 = .ok (.bipush 10, 2) := by decide +kernel
theorem dX9_asks_64 : decode cX9_asks 64 = .ok (.idiv, 1) := by decide +kernel
theorem dX9_asks_65 : decode cX9_asks 65 = .ok (.iload_n 3, 1) := by decide +kernel
theorem dX9_asks_66 : decode cX9_asks 66 = .ok (.bipush 10, 2) := by decide +kernel
theorem dX9_asks_68 : decode cX9_asks 68 = .ok (.irem, 1) := by decide +kernel
theorem dX9_asks_69 : decode cX9_asks 69 = .ok (.iload 4, 2) := by decide +kernel
theorem dX9_asks_71 : decode cX9_asks 71 = .ok (.invokevirtual 169, 3) := by decide +kernel
theorem dX9_asks_74 : decode cX9_asks 74 = .ok (.goto 6, 3) := by decide +kernel
theorem dX9_asks_77 : decode cX9_asks 77 = .ok (.sipush (-1000), 3) := by decide +kernel
theorem dX9_asks_80 : decode cX9_asks 80 = .ok (.ireturn, 1) := by decide +kernel
theorem dX9_man_0 : decode cX9_man 0 = .ok (.iload_n 1, 1) := by decide +kernel
theorem dX9_man_1 : decode cX9_man 1 = .ok (.iconst 0, 1) := by decide +kernel
theorem dX9_man_2 : decode cX9_man 2 = .ok (.bipush 59, 2) := by decide +kernel
theorem dX9_man_4 : decode cX9_man 4 = .ok (.invokestatic 78, 3) := by decide +kernel
theorem dX9_man_7 : decode cX9_man 7 = .ok (.ifCond .eq 14, 3) := by decide +kernel
theorem dX9_man_10 : decode cX9_man 10 = .ok (.iload_n 2, 1) := by decide +kernel
theorem dX9_man_11 : decode cX9_man 11 = .ok (.iconst 0, 1) := by decide +kernel
theorem dX9_man_12 : decode cX9_man 12 = .ok (.sipush 9999, 3) := by decide +kernel
theorem dX9_man_15 : decode cX9_man 15 = .ok (.invokestatic 78, 3) := by decide +kernel
theorem dX9_man_18 : decode cX9_man 18 = .ok (.ifCond .ne 6, 3) := by decide +kernel
theorem dX9_man_21 : decode cX9_man 21 = .ok (.bipush (-2), 2) := by decide +kernel
theorem dX9_man_23 : decode cX9_man 23 = .ok (.ireturn, 1) := by decide +kernel
theorem dX9_man_24 : decode cX9_man 24 = .ok (.aload_n 0, 1) := by decide +kernel
theorem dX9_man_25 : decode cX9_man 25 = .ok (.getfield 75, 3) := by decide +kernel
theorem dX9_man_28 : decode cX9_man 28 = .ok (.bipush 6, 2) := by decide +kernel
theorem dX9_man_30 : decode cX9_man 30 = .ok (.if_icmp .ne 6, 3) := by decide +kernel
theorem dX9_man_33 : decode cX9_man 33 = .ok (.bipush (-4), 2) := by decide +kernel
theorem dX9_man_35 : decode cX9_man 35 = .ok (.ireturn, 1) := by decide +kernel
theorem dX9_man_36 : decode cX9_man 36 = .ok (.aload_n 0, 1) := by decide +kernel
theorem dX9_man_37 : decode cX9_man 37 = .ok (.getfield 7, 3) := by decide +kernel
theorem dX9_man_40 : decode cX9_man 40 = .ok (.aload_n 0, 1) := by decide +kernel
theorem dX9_man_41 : decode cX9_man 41 = .ok (.getfield 75, 3) := by decide +kernel
theorem dX9_man_44 : decode cX9_man 44 = .ok (.iload_n 1, 1) := by decide +kernel
theorem dX9_man_45 : decode cX9_man 45 = .ok (.bipush 10, 2) := by decide +kernel
theorem dX9_man_47 : decode cX9_man 47 = .ok (.idiv, 1) := by decide +kernel
theorem dX9_man_48 : decode cX9_man 48 = .ok (.iastore, 1) := by decide +kernel
theorem dX9_man_49 : decode cX9_man 49 = .ok (.aload_n 0, 1) := by decide +kernel
theorem dX9_man_50 : decode cX9_man 50 = .ok (.getfield 13, 3) := by decide +kernel
theorem dX9_man_53 : decode cX9_man 53 = .ok (.aload_n 0, 1) := by decide +kernel
theorem dX9_man_54 : decode cX9_man 54 = .ok (.getfield 75, 3) := by decide +kernel
theorem dX9_man_57 : decode cX9_man 57 = .ok (.iload_n 1, 1) := by decide +kernel
theorem dX9_man_58 : decode cX9_man 58 = .ok (.bipush 10, 2) := by decide +kernel
theorem dX9_man_60 : decode cX9_man 60 = .ok (.irem, 1) := by decide +kernel
theorem dX9_man_61 : decode cX9_man 61 = .ok (.iastore, 1) := by decide +kernel
theorem dX9_man_62 : decode cX9_man 62 = .ok (.iconst 0, 1) := by decide +kernel
theorem dX9_man_63 : decode cX9_man 63 = .ok (.istore_n 3, 1) := by decide +kernel
theorem dX9_man_64 : decode cX9_man 64 = .ok (.iload_n 3, 1) := by decide +kernel
theorem dX9_man_65 : decode cX9_man 65 = .ok (.iconst 5, 1) := by decide +kernel
theorem dX9_man_66 : decode cX9_man 66 = .ok (.if_icmp .ge 46, 3) := by decide +kernel
theorem dX9_man_69 : decode cX9_man 69 = .ok (.aload_n 0, 1) := by decide +kernel
theorem dX9_man_70 : decode cX9_man 70 = .ok (.getfield 16, 3) := by decide +kernel
theorem dX9_man_73 : decode cX9_man 73 = .ok (.iconst 5, 1) := by decide +kernel
theorem dX9_man_74 : decode cX9_man 74 = .ok (.aload_n 0, 1) := by decide +kernel
theorem dX9_man_75 : decode cX9_man 75 = .ok (.getfield 75, 3) := by decide +kernel
theorem dX9_man_78 : decode cX9_man 78 = .ok (.imul, 1) := by decide +kernel
theorem dX9_man_79 : decode cX9_man 79 = .ok (.iload_n 3, 1) := by decide +kernel
theorem dX9_man_80 : decode cX9_man 80 = .ok (.iadd, 1) := by decide +kernel
theorem dX9_man_81 : decode cX9_man 81 = .ok (.iload_n 3, 1) := by decide +kernel
theorem dX9_man_82 : decode cX9_man 82 = .ok (.ifCond .ne 10, 3) := by decide +kernel
theorem dX9_man_85 : decode cX9_man 85 = .ok (.iload_n 2, 1) := by decide +kernel
theorem dX9_man_86 : decode cX9_man 86 = .ok (.bipush 100, 2) := by decide +kernel
theorem dX9_man_88 : decode cX9_man 88 = .ok (.idiv, 1) := by decide +kernel
theorem dX9_man_89 : decode cX9_man 89 = .ok (.goto 16, 3) := by decide +kernel
theorem dX9_man_92 : decode cX9_man 92 = .ok (.iload_n 3, 1) := by decide +kernel
theorem dX9_man_93 : decode cX9_man 93 = .ok (.iconst 1, 1) := by decide +kernel
theorem dX9_man_94 : decode cX9_man 94 = .ok (.if_icmp .ne 10, 3) := by decide +kernel
theorem dX9_man_97 : decode cX9_man 97 = .ok (.iload_n 2, 1) := by decide +kernel
theorem dX9_man_98 : decode cX9_man 98 = .ok (.bipush 100, 2) := by decide +kernel
theorem dX9_man_100 : decode cX9_man 100 = .ok (.irem, 1) := by decide +kernel
theorem dX9_man_101 : decode cX9_man 101 = .ok (.goto 4, 3) := by decide +kernel
theorem dX9_man_104 : decode cX9_man 104 = .ok (.iconst 0, 1) := by decide +kernel
theorem dX9_man_105 : decode cX9_man 105 = .ok (.iastore, 1) := by decide +kernel
theorem dX9_man_106 : decode cX9_man 106 = .ok (.iinc 3 1, 3) := by decide +kernel
theorem dX9_man_109 : decode cX9_man 109 = .ok (.goto (-45), 3) := by decide +kernel
theorem dX9_man_112 : decode cX9_man 112 = .ok (.aload_n 0, 1) := by decide +kernel
theorem dX9_man_113 : decode cX9_man 113 = .ok (.dup, 1) := by decide +kernel
theorem dX9_man_114 : decode cX9_man 114 = .ok (.getfield 75, 3) := by decide +kernel
theorem dX9_man_117 : decode cX9_man 117 = .ok (.iconst 1, 1) := by decide +kernel
theorem dX9_man_118 : decode cX9_man 118 = .ok (.iadd, 1) := by decide +kernel
theorem dX9_man_119 : decode cX9_man 119 = .ok (.putfield 75, 3) := by decide +kernel
theorem dX9_man_122 : decode cX9_man 122 = .ok (.aload_n 0, 1) := by decide +kernel
theorem dX9_man_123 : decode cX9_man 123 = .ok (.getfield 75, 3) := by decide +kernel
theorem dX9_man_126 : decode cX9_man 126 = .ok (.iconst 1, 1) := by decide +kernel
theorem dX9_man_127 : decode cX9_man 127 = .ok (.isub, 1) := by decide +kernel
theorem dX9_man_128 : decode cX9_man 128 = .ok (.ireturn, 1) := by decide +kernel
theorem dX9_put_0 : decode cX9_put 0 = .ok (.aload_n 0, 1) := by decide +kernel
theorem dX9_put_1 : decode cX9_put 1 = .ok (.iload_n 1, 1) := by decide +kernel
theorem dX9_put_2 : decode cX9_put 2 = .ok (.invokevirtual 82, 3) := by decide +kernel
theorem dX9_put_5 : decode cX9_put 5 = .ok (.ifCond .ne 6, 3) := by decide +kernel
theorem dX9_put_8 : decode cX9_put 8 = .ok (.bipush (-5), 2) := by decide +kernel
theorem dX9_put_10 : decode cX9_put 10 = .ok (.ireturn, 1) := by decide +kernel
theorem dX9_put_11 : decode cX9_put 11 = .ok (.iload_n 2, 1) := by decide +kernel
theorem dX9_put_12 : decode cX9_put 12 = .ok (.iconst 0, 1) := by decide +kernel
theorem dX9_put_13 : decode cX9_put 13 = .ok (.iconst 2, 1) := by decide +kernel
theorem dX9_put_14 : decode cX9_put 14 = .ok (.invokestatic 78, 3) := by decide +kernel
theorem dX9_put_17 : decode cX9_put 17 = .ok (.ifCond .eq 23, 3) := by decide +kernel
theorem dX9_put_20 : decode cX9_put 20 = .ok (.iload_n 3, 1) := by decide +kernel
theorem dX9_put_21 : decode cX9_put 21 = .ok (.iconst 0, 1) := by decide +kernel
theorem dX9_put_22 : decode cX9_put 22 = .ok (.iload_n 2, 1) := by decide +kernel
theorem dX9_put_23 : decode cX9_put 23 = .ok (.iconst 2, 1) := by decide +kernel
theorem dX9_put_24 : decode cX9_put 24 = .ok (.if_icmp .ne 8, 3) := by decide +kernel
theorem dX9_put_27 : decode cX9_put 27 = .ok (.bipush 9, 2) := by decide +kernel
theorem dX9_put_29 : decode cX9_put 29 = .ok (.goto 5, 3) := by decide +kernel
theorem dX9_put_32 : decode cX9_put 32 = .ok (.bipush 99, 2) := by decide +kernel
theorem dX9_put_34 : decode cX9_put 34 = .ok (.invokestatic 78, 3) := by decide +kernel
theorem dX9_put_37 : decode cX9_put 37 = .ok (.ifCond .ne 6, 3) := by decide +kernel
theorem dX9_put_40 : decode cX9_put 40 = .ok (.bipush (-7), 2) := by decide +kernel
theorem dX9_put_42 : decode cX9_put 42 = .ok (.ireturn, 1) := by decide +kernel
theorem dX9_put_43 : decode cX9_put 43 = .ok (.aload_n 0, 1) := by decide +kernel
theorem dX9_put_44 : decode cX9_put 44 = .ok (.getfield 16, 3) := by decide +kernel
theorem dX9_put_47 : decode cX9_put 47 = .ok (.iconst 5, 1) := by decide +kernel
theorem dX9_put_48 : decode cX9_put 48 = .ok (.iload_n 1, 1) := by decide +kernel
theorem dX9_put_49 : decode cX9_put 49 = .ok (.imul, 1) := by decide +kernel
theorem dX9_put_50 : decode cX9_put 50 = .ok (.iload_n 2, 1) := by decide +kernel
theorem dX9_put_51 : decode cX9_put 51 = .ok (.iadd, 1) := by decide +kernel
theorem dX9_put_52 : decode cX9_put 52 = .ok (.iaload, 1) := by decide +kernel
theorem dX9_put_53 : decode cX9_put 53 = .ok (.istore 4, 2) := by decide +kernel
theorem dX9_put_55 : decode cX9_put 55 = .ok (.aload_n 0, 1) := by decide +kernel
theorem dX9_put_56 : decode cX9_put 56 = .ok (.getfield 16, 3) := by decide +kernel
theorem dX9_put_59 : decode cX9_put 59 = .ok (.iconst 5, 1) := by decide +kernel
theorem dX9_put_60 : decode cX9_put 60 = .ok (.iload_n 1, 1) := by decide +kernel
theorem dX9_put_61 : decode cX9_put 61 = .ok (.imul, 1) := by decide +kernel
theorem dX9_put_62 : decode cX9_put 62 = .ok (.iload_n 2, 1) := by decide +kernel
theorem dX9_put_63 : decode cX9_put 63 = .ok (.iadd, 1) := by decide +kernel
theorem dX9_put_64 : decode cX9_put 64 = .ok (.iload_n 3, 1) := by decide +kernel
theorem dX9_put_65 : decode cX9_put 65 = .ok (.iastore, 1) := by decide +kernel
theorem dX9_put_66 : decode cX9_put 66 = .ok (.iload 4, 2) := by decide +kernel
theorem dX9_put_68 : decode cX9_put 68 = .ok (.ireturn, 1) := by decide +kernel
theorem dX9_told_0 : decode cX9_told 0 = .ok (.aload_n 0, 1) := by decide +kernel
theorem dX9_told_1 : decode cX9_told 1 = .ok (.iload_n 1, 1) := by decide +kernel
theorem dX9_told_2 : decode cX9_told 2 = .ok (.invokevirtual 82, 3) := by decide +kernel
theorem dX9_told_5 : decode cX9_told 5 = .ok (.ifCond .ne 6, 3) := by decide +kernel
theorem dX9_told_8 : decode cX9_told 8 = .ok (.bipush (-5), 2) := by decide +kernel
theorem dX9_told_10 : decode cX9_told 10 = .ok (.ireturn, 1) := by decide +kernel
theorem dX9_told_11 : decode cX9_told 11 = .ok (.iload_n 2, 1) := by decide +kernel
theorem dX9_told_12 : decode cX9_told 12 = .ok (.iconst 0, 1) := by decide +kernel
theorem dX9_told_13 : decode cX9_told 13 = .ok (.iconst 4, 1) := by decide +kernel
theorem dX9_told_14 : decode cX9_told 14 = .ok (.invokestatic 78, 3) := by decide +kernel
theorem dX9_told_17 : decode cX9_told 17 = .ok (.ifCond .eq 16, 3) := by decide +kernel
theorem dX9_told_20 : decode cX9_told 20 = .ok (.aload_n 0, 1) := by decide +kernel
theorem dX9_told_21 : decode cX9_told 21 = .ok (.getfield 16, 3) := by decide +kernel
theorem dX9_told_24 : decode cX9_told 24 = .ok (.iconst 5, 1) := by decide +kernel
theorem dX9_told_25 : decode cX9_told 25 = .ok (.iload_n 1, 1) := by decide +kernel
theorem dX9_told_26 : decode cX9_told 26 = .ok (.imul, 1) := by decide +kernel
theorem dX9_told_27 : decode cX9_told 27 = .ok (.iload_n 2, 1) := by decide +kernel
theorem dX9_told_28 : decode cX9_told 28 = .ok (.iadd, 1) := by decide +kernel
theorem dX9_told_29 : decode cX9_told 29 = .ok (.iaload, 1) := by decide +kernel
theorem dX9_told_30 : decode cX9_told 30 = .ok (.goto 34, 3) := by decide +kernel
theorem dX9_told_33 : decode cX9_told 33 = .ok (.iload_n 2, 1) := by decide +kernel
theorem dX9_told_34 : decode cX9_told 34 = .ok (.iconst 5, 1) := by decide +kernel
theorem dX9_told_35 : decode cX9_told 35 = .ok (.if_icmp .ne 12, 3) := by decide +kernel
theorem dX9_told_38 : decode cX9_told 38 = .ok (.aload_n 0, 1) := by decide +kernel
theorem dX9_told_39 : decode cX9_told 39 = .ok (.getfield 7, 3) := by decide +kernel
theorem dX9_told_42 : decode cX9_told 42 = .ok (.iload_n 1, 1) := by decide +kernel
theorem dX9_told_43 : decode cX9_told 43 = .ok (.iaload, 1) := by decide +kernel
theorem dX9_told_44 : decode cX9_told 44 = .ok (.goto 20, 3) := by decide +kernel
theorem dX9_told_47 : decode cX9_told 47 = .ok (.iload_n 2, 1) := by decide +kernel
theorem dX9_told_48 : decode cX9_told 48 = .ok (.bipush 6, 2) := by decide +kernel
theorem dX9_told_50 : decode cX9_told 50 = .ok (.if_icmp .ne 12, 3) := by decide +kernel
theorem dX9_told_53 : decode cX9_told 53 = .ok (.aload_n 0, 1) := by decide +kernel
theorem dX9_told_54 : decode cX9_told 54 = .ok (.getfield 13, 3) := by decide +kernel
theorem dX9_told_57 : decode cX9_told 57 = .ok (.iload_n 1, 1) := by decide +kernel
theorem dX9_told_58 : decode cX9_told 58 = .ok (.iaload, 1) := by decide +kernel
theorem dX9_told_59 : decode cX9_told 59 = .ok (.goto 5, 3) := by decide +kernel
theorem dX9_told_62 : decode cX9_told 62 = .ok (.bipush (-7), 2) := by decide +kernel
theorem dX9_told_64 : decode cX9_told 64 = .ok (.ireturn, 1) := by decide +kernel
theorem dX9_plainForce_0 : decode cX9_plainForce 0 = .ok (.iload_n 2, 1) := by decide +kernel
theorem dX9_plainForce_1 : decode cX9_plainForce 1 = .ok (.iconst 2, 1) := by decide +kernel
theorem dX9_plainForce_2 : decode cX9_plainForce 2 = .ok (.if_icmp .ne 17, 3) := by decide +kernel
theorem dX9_plainForce_5 : decode cX9_plainForce 5 = .ok (.iload_n 3, 1) := by decide +kernel
theorem dX9_plainForce_6 : decode cX9_plainForce 6 = .ok (.ifCond .ne 9, 3) := by decide +kernel
theorem dX9_plainForce_9 : decode cX9_plainForce 9 = .ok (.iconst 2, 1) := by decide +kernel
theorem dX9_plainForce_10 : decode cX9_plainForce 10 = .ok (.iload_n 1, 1) := by decide +kernel
theorem dX9_plainForce_11 : decode cX9_plainForce 11 = .ok (.imul, 1) := by decide +kernel
theorem dX9_plainForce_12 : decode cX9_plainForce 12 = .ok (.goto 8, 3) := by decide +kernel
theorem dX9_plainForce_15 : decode cX9_plainForce 15 = .ok (.iconst 0, 1) := by decide +kernel
theorem dX9_plainForce_16 : decode cX9_plainForce 16 = .ok (.goto 4, 3) := by decide +kernel
theorem dX9_plainForce_19 : decode cX9_plainForce 19 = .ok (.iload_n 1, 1) := by decide +kernel
theorem dX9_plainForce_20 : decode cX9_plainForce 20 = .ok (.ireturn, 1) := by decide +kernel
theorem dX9_forcesOf_0 : decode cX9_forcesOf 0 = .ok (.aload_n 0, 1) := by decide +kernel
theorem dX9_forcesOf_1 : decode cX9_forcesOf 1 = .ok (.iload_n 2, 1) := by decide +kernel
theorem dX9_forcesOf_2 : decode cX9_forcesOf 2 = .ok (.iload_n 3, 1) := by decide +kernel
theorem dX9_forcesOf_3 : decode cX9_forcesOf 3 = .ok (.iload 4, 2) := by decide +kernel
theorem dX9_forcesOf_5 : decode cX9_forcesOf 5 = .ok (.invokevirtual 173, 3) := by decide +kernel
theorem dX9_forcesOf_8 : decode cX9_forcesOf 8 = .ok (.istore 5, 2) := by decide +kernel
theorem dX9_forcesOf_10 : decode cX9_forcesOf 10 = .ok (.aload_n 0, 1) := by decide +kernel
theorem dX9_forcesOf_11 : decode cX9_forcesOf 11 = .ok (.getfield 13, 3) := by decide +kernel
theorem dX9_forcesOf_14 : decode cX9_forcesOf 14 = .ok (.iload_n 1, 1) := by decide +kernel
theorem dX9_forcesOf_15 : decode cX9_forcesOf 15 = .ok (.iaload, 1) := by decide +kernel
theorem dX9_forcesOf_16 : decode cX9_forcesOf 16 = .ok (.istore 6, 2) := by decide +kernel
theorem dX9_forcesOf_18 : decode cX9_forcesOf 18 = .ok (.aload_n 0, 1) := by decide +kernel
theorem dX9_forcesOf_19 : decode cX9_forcesOf 19 = .ok (.getfield 7, 3) := by decide +kernel
theorem dX9_forcesOf_22 : decode cX9_forcesOf 22 = .ok (.iload_n 1, 1) := by decide +kernel
theorem dX9_forcesOf_23 : decode cX9_forcesOf 23 = .ok (.iaload, 1) := by decide +kernel
theorem dX9_forcesOf_24 : decode cX9_forcesOf 24 = .ok (.tableswitch 115 1 5 #[36, 53, 69, 53, 96], 36) := by decide +kernel
theorem dX9_forcesOf_60 : decode cX9_forcesOf 60 = .ok (.iload_n 3, 1) := by decide +kernel
theorem dX9_forcesOf_61 : decode cX9_forcesOf 61 = .ok (.ifCond .ne 13, 3) := by decide +kernel
theorem dX9_forcesOf_64 : decode cX9_forcesOf 64 = .ok (.iload 5, 2) := by decide +kernel
theorem dX9_forcesOf_66 : decode cX9_forcesOf 66 = .ok (.iconst 3, 1) := by decide +kernel
theorem dX9_forcesOf_67 : decode cX9_forcesOf 67 = .ok (.iload 6, 2) := by decide +kernel
theorem dX9_forcesOf_69 : decode cX9_forcesOf 69 = .ok (.imul, 1) := by decide +kernel
theorem dX9_forcesOf_70 : decode cX9_forcesOf 70 = .ok (.iadd, 1) := by decide +kernel
theorem dX9_forcesOf_71 : decode cX9_forcesOf 71 = .ok (.goto 5, 3) := by decide +kernel
theorem dX9_forcesOf_74 : decode cX9_forcesOf 74 = .ok (.iload 5, 2) := by decide +kernel
theorem dX9_forcesOf_76 : decode cX9_forcesOf 76 = .ok (.ireturn, 1) := by decide +kernel
theorem dX9_forcesOf_77 : decode cX9_forcesOf 77 = .ok (.iload_n 3, 1) := by decide +kernel
theorem dX9_forcesOf_78 : decode cX9_forcesOf 78 = .ok (.iconst 1, 1) := by decide +kernel
theorem dX9_forcesOf_79 : decode cX9_forcesOf 79 = .ok (.if_icmp .ne 9, 3) := by decide +kernel
theorem dX9_forcesOf_82 : decode cX9_forcesOf 82 = .ok (.iload_n 2, 1) := by decide +kernel
theorem dX9_forcesOf_83 : decode cX9_forcesOf 83 = .ok (.iconst 5, 1) := by decide +kernel
theorem dX9_forcesOf_84 : decode cX9_forcesOf 84 = .ok (.iadd, 1) := by decide +kernel
theorem dX9_forcesOf_85 : decode cX9_forcesOf 85 = .ok (.goto 7, 3) := by decide +kernel
theorem dX9_forcesOf_88 : decode cX9_forcesOf 88 = .ok (.iload 5, 2) := by decide +kernel
theorem dX9_forcesOf_90 : decode cX9_forcesOf 90 = .ok (.iconst 2, 1) := by decide +kernel
theorem dX9_forcesOf_91 : decode cX9_forcesOf 91 = .ok (.idiv, 1) := by decide +kernel
theorem dX9_forcesOf_92 : decode cX9_forcesOf 92 = .ok (.ireturn, 1) := by decide +kernel
theorem dX9_forcesOf_93 : decode cX9_forcesOf 93 = .ok (.iload 4, 2) := by decide +kernel
theorem dX9_forcesOf_95 : decode cX9_forcesOf 95 = .ok (.iconst 2, 1) := by decide +kernel
theorem dX9_forcesOf_96 : decode cX9_forcesOf 96 = .ok (.if_icmp .ne 7, 3) := by decide +kernel
theorem dX9_forcesOf_99 : decode cX9_forcesOf 99 = .ok (.iconst 0, 1) := by decide +kernel
theorem dX9_forcesOf_100 : decode cX9_forcesOf 100 = .ok (.goto 19, 3) := by decide +kernel
theorem dX9_forcesOf_103 : decode cX9_forcesOf 103 = .ok (.iload_n 3, 1) := by decide +kernel
theorem dX9_forcesOf_104 : decode cX9_forcesOf 104 = .ok (.ifCond .ne 13, 3) := by decide +kernel
theorem dX9_forcesOf_107 : decode cX9_forcesOf 107 = .ok (.iload 5, 2) := by decide +kernel
theorem dX9_forcesOf_109 : decode cX9_forcesOf 109 = .ok (.iconst 3, 1) := by decide +kernel
theorem dX9_forcesOf_110 : decode cX9_forcesOf 110 = .ok (.iload 6, 2) := by decide +kernel
theorem dX9_forcesOf_112 : decode cX9_forcesOf 112 = .ok (.imul, 1) := by decide +kernel
theorem dX9_forcesOf_113 : decode cX9_forcesOf 113 = .ok (.iadd, 1) := by decide +kernel
theorem dX9_forcesOf_114 : decode cX9_forcesOf 114 = .ok (.goto 5, 3) := by decide +kernel
theorem dX9_forcesOf_117 : decode cX9_forcesOf 117 = .ok (.iload 5, 2) := by decide +kernel
theorem dX9_forcesOf_119 : decode cX9_forcesOf 119 = .ok (.ireturn, 1) := by decide +kernel
theorem dX9_forcesOf_120 : decode cX9_forcesOf 120 = .ok (.iload_n 3, 1) := by decide +kernel
theorem dX9_forcesOf_121 : decode cX9_forcesOf 121 = .ok (.iload 4, 2) := by decide +kernel
theorem dX9_forcesOf_123 : decode cX9_forcesOf 123 = .ok (.if_icmp .ne 10, 3) := by decide +kernel
theorem dX9_forcesOf_126 : decode cX9_forcesOf 126 = .ok (.iload 5, 2) := by decide +kernel
theorem dX9_forcesOf_128 : decode cX9_forcesOf 128 = .ok (.iconst 2, 1) := by decide +kernel
theorem dX9_forcesOf_129 : decode cX9_forcesOf 129 = .ok (.idiv, 1) := by decide +kernel
theorem dX9_forcesOf_130 : decode cX9_forcesOf 130 = .ok (.goto 8, 3) := by decide +kernel
theorem dX9_forcesOf_133 : decode cX9_forcesOf 133 = .ok (.iload 5, 2) := by decide +kernel
theorem dX9_forcesOf_135 : decode cX9_forcesOf 135 = .ok (.iload 6, 2) := by decide +kernel
theorem dX9_forcesOf_137 : decode cX9_forcesOf 137 = .ok (.iadd, 1) := by decide +kernel
theorem dX9_forcesOf_138 : decode cX9_forcesOf 138 = .ok (.ireturn, 1) := by decide +kernel
theorem dX9_forcesOf_139 : decode cX9_forcesOf 139 = .ok (.iload 5, 2) := by decide +kernel
theorem dX9_forcesOf_141 : decode cX9_forcesOf 141 = .ok (.ireturn, 1) := by decide +kernel
theorem dX9_standsOf_0 : decode cX9_standsOf 0 = .ok (.aload_n 0, 1) := by decide +kernel
theorem dX9_standsOf_1 : decode cX9_standsOf 1 = .ok (.iconst 1, 1) := by decide +kernel
theorem dX9_standsOf_2 : decode cX9_standsOf 2 = .ok (.iload_n 1, 1) := by decide +kernel
theorem dX9_standsOf_3 : decode cX9_standsOf 3 = .ok (.iconst 0, 1) := by decide +kernel
theorem dX9_standsOf_4 : decode cX9_standsOf 4 = .ok (.iconst 0, 1) := by decide +kernel
theorem dX9_standsOf_5 : decode cX9_standsOf 5 = .ok (.iconst 0, 1) := by decide +kernel
theorem dX9_standsOf_6 : decode cX9_standsOf 6 = .ok (.invokevirtual 169, 3) := by decide +kernel
theorem dX9_standsOf_9 : decode cX9_standsOf 9 = .ok (.istore_n 2, 1) := by decide +kernel
theorem dX9_standsOf_10 : decode cX9_standsOf 10 = .ok (.aload_n 0, 1) := by decide +kernel
theorem dX9_standsOf_11 : decode cX9_standsOf 11 = .ok (.getfield 7, 3) := by decide +kernel
theorem dX9_standsOf_14 : decode cX9_standsOf 14 = .ok (.iload_n 1, 1) := by decide +kernel
theorem dX9_standsOf_15 : decode cX9_standsOf 15 = .ok (.iaload, 1) := by decide +kernel
theorem dX9_standsOf_16 : decode cX9_standsOf 16 = .ok (.iconst 2, 1) := by decide +kernel
theorem dX9_standsOf_17 : decode cX9_standsOf 17 = .ok (.if_icmp .ne 9, 3) := by decide +kernel
theorem dX9_standsOf_20 : decode cX9_standsOf 20 = .ok (.iload_n 2, 1) := by decide +kernel
theorem dX9_standsOf_21 : decode cX9_standsOf 21 = .ok (.iconst 1, 1) := by decide +kernel
theorem dX9_standsOf_22 : decode cX9_standsOf 22 = .ok (.iadd, 1) := by decide +kernel
theorem dX9_standsOf_23 : decode cX9_standsOf 23 = .ok (.goto 27, 3) := by decide +kernel
theorem dX9_standsOf_26 : decode cX9_standsOf 26 = .ok (.aload_n 0, 1) := by decide +kernel
theorem dX9_standsOf_27 : decode cX9_standsOf 27 = .ok (.getfield 7, 3) := by decide +kernel
theorem dX9_standsOf_30 : decode cX9_standsOf 30 = .ok (.iload_n 1, 1) := by decide +kernel
theorem dX9_standsOf_31 : decode cX9_standsOf 31 = .ok (.iaload, 1) := by decide +kernel
theorem dX9_standsOf_32 : decode cX9_standsOf 32 = .ok (.iconst 4, 1) := by decide +kernel
theorem dX9_standsOf_33 : decode cX9_standsOf 33 = .ok (.if_icmp .ne 16, 3) := by decide +kernel
theorem dX9_standsOf_36 : decode cX9_standsOf 36 = .ok (.iload_n 2, 1) := by decide +kernel
theorem dX9_standsOf_37 : decode cX9_standsOf 37 = .ok (.iconst 1, 1) := by decide +kernel
theorem dX9_standsOf_38 : decode cX9_standsOf 38 = .ok (.iadd, 1) := by decide +kernel
theorem dX9_standsOf_39 : decode cX9_standsOf 39 = .ok (.aload_n 0, 1) := by decide +kernel
theorem dX9_standsOf_40 : decode cX9_standsOf 40 = .ok (.getfield 13, 3) := by decide +kernel
theorem dX9_standsOf_43 : decode cX9_standsOf 43 = .ok (.iload_n 1, 1) := by decide +kernel
theorem dX9_standsOf_44 : decode cX9_standsOf 44 = .ok (.iaload, 1) := by decide +kernel
theorem dX9_standsOf_45 : decode cX9_standsOf 45 = .ok (.iadd, 1) := by decide +kernel
theorem dX9_standsOf_46 : decode cX9_standsOf 46 = .ok (.goto 4, 3) := by decide +kernel
theorem dX9_standsOf_49 : decode cX9_standsOf 49 = .ok (.iload_n 2, 1) := by decide +kernel
theorem dX9_standsOf_50 : decode cX9_standsOf 50 = .ok (.istore_n 3, 1) := by decide +kernel
theorem dX9_standsOf_51 : decode cX9_standsOf 51 = .ok (.iload_n 3, 1) := by decide +kernel
theorem dX9_standsOf_52 : decode cX9_standsOf 52 = .ok (.iconst 0, 1) := by decide +kernel
theorem dX9_standsOf_53 : decode cX9_standsOf 53 = .ok (.bipush 9, 2) := by decide +kernel
theorem dX9_standsOf_55 : decode cX9_standsOf 55 = .ok (.invokestatic 166, 3) := by decide +kernel
theorem dX9_standsOf_58 : decode cX9_standsOf 58 = .ok (.ireturn, 1) := by decide +kernel
theorem dX9_startsOf_0 : decode cX9_startsOf 0 = .ok (.aload_n 0, 1) := by decide +kernel
theorem dX9_startsOf_1 : decode cX9_startsOf 1 = .ok (.iconst 2, 1) := by decide +kernel
theorem dX9_startsOf_2 : decode cX9_startsOf 2 = .ok (.iload_n 1, 1) := by decide +kernel
theorem dX9_startsOf_3 : decode cX9_startsOf 3 = .ok (.iconst 0, 1) := by decide +kernel
theorem dX9_startsOf_4 : decode cX9_startsOf 4 = .ok (.iconst 0, 1) := by decide +kernel
theorem dX9_startsOf_5 : decode cX9_startsOf 5 = .ok (.iconst 4, 1) := by decide +kernel
theorem dX9_startsOf_6 : decode cX9_startsOf 6 = .ok (.invokevirtual 169, 3) := by decide +kernel
theorem dX9_startsOf_9 : decode cX9_startsOf 9 = .ok (.istore_n 2, 1) := by decide +kernel
theorem dX9_startsOf_10 : decode cX9_startsOf 10 = .ok (.aload_n 0, 1) := by decide +kernel
theorem dX9_startsOf_11 : decode cX9_startsOf 11 = .ok (.getfield 7, 3) := by decide +kernel
theorem dX9_startsOf_14 : decode cX9_startsOf 14 = .ok (.iload_n 1, 1) := by decide +kernel
theorem dX9_startsOf_15 : decode cX9_startsOf 15 = .ok (.iaload, 1) := by decide +kernel
theorem dX9_startsOf_16 : decode cX9_startsOf 16 = .ok (.iconst 3, 1) := by decide +kernel
theorem dX9_startsOf_17 : decode cX9_startsOf 17 = .ok (.if_icmp .ne 9, 3) := by decide +kernel
theorem dX9_startsOf_20 : decode cX9_startsOf 20 = .ok (.iload_n 2, 1) := by decide +kernel
theorem dX9_startsOf_21 : decode cX9_startsOf 21 = .ok (.iconst 1, 1) := by decide +kernel
theorem dX9_startsOf_22 : decode cX9_startsOf 22 = .ok (.iadd, 1) := by decide +kernel
theorem dX9_startsOf_23 : decode cX9_startsOf 23 = .ok (.goto 22, 3) := by decide +kernel
theorem dX9_startsOf_26 : decode cX9_startsOf 26 = .ok (.aload_n 0, 1) := by decide +kernel
theorem dX9_startsOf_27 : decode cX9_startsOf 27 = .ok (.getfield 7, 3) := by decide +kernel
theorem dX9_startsOf_30 : decode cX9_startsOf 30 = .ok (.iload_n 1, 1) := by decide +kernel
theorem dX9_startsOf_31 : decode cX9_startsOf 31 = .ok (.iaload, 1) := by decide +kernel
theorem dX9_startsOf_32 : decode cX9_startsOf 32 = .ok (.iconst 4, 1) := by decide +kernel
theorem dX9_startsOf_33 : decode cX9_startsOf 33 = .ok (.if_icmp .ne 11, 3) := by decide +kernel
theorem dX9_startsOf_36 : decode cX9_startsOf 36 = .ok (.iload_n 2, 1) := by decide +kernel
theorem dX9_startsOf_37 : decode cX9_startsOf 37 = .ok (.ifCond .le 7, 3) := by decide +kernel
theorem dX9_startsOf_40 : decode cX9_startsOf 40 = .ok (.iconst 0, 1) := by decide +kernel
theorem dX9_startsOf_41 : decode cX9_startsOf 41 = .ok (.goto 4, 3) := by decide +kernel
theorem dX9_startsOf_44 : decode cX9_startsOf 44 = .ok (.iload_n 2, 1) := by decide +kernel
theorem dX9_startsOf_45 : decode cX9_startsOf 45 = .ok (.ireturn, 1) := by decide +kernel
theorem dX9_begins_0 : decode cX9_begins 0 = .ok (.aload_n 0, 1) := by decide +kernel
theorem dX9_begins_1 : decode cX9_begins 1 = .ok (.iload_n 1, 1) := by decide +kernel
theorem dX9_begins_2 : decode cX9_begins 2 = .ok (.putfield 176, 3) := by decide +kernel
theorem dX9_begins_5 : decode cX9_begins 5 = .ok (.aload_n 0, 1) := by decide +kernel
theorem dX9_begins_6 : decode cX9_begins 6 = .ok (.iload_n 2, 1) := by decide +kernel
theorem dX9_begins_7 : decode cX9_begins 7 = .ok (.putfield 179, 3) := by decide +kernel
theorem dX9_begins_10 : decode cX9_begins 10 = .ok (.iconst 0, 1) := by decide +kernel
theorem dX9_begins_11 : decode cX9_begins 11 = .ok (.istore_n 3, 1) := by decide +kernel
theorem dX9_begins_12 : decode cX9_begins 12 = .ok (.iload_n 3, 1) := by decide +kernel
theorem dX9_begins_13 : decode cX9_begins 13 = .ok (.sipush 288, 3) := by decide +kernel
theorem dX9_begins_16 : decode cX9_begins 16 = .ok (.if_icmp .ge 16, 3) := by decide +kernel
theorem dX9_begins_19 : decode cX9_begins 19 = .ok (.aload_n 0, 1) := by decide +kernel
theorem dX9_begins_20 : decode cX9_begins 20 = .ok (.getfield 58, 3) := by decide +kernel
theorem dX9_begins_23 : decode cX9_begins 23 = .ok (.iload_n 3, 1) := by decide +kernel
theorem dX9_begins_24 : decode cX9_begins 24 = .ok (.iconst (-1), 1) := by decide +kernel
theorem dX9_begins_25 : decode cX9_begins 25 = .ok (.iastore, 1) := by decide +kernel
theorem dX9_begins_26 : decode cX9_begins 26 = .ok (.iinc 3 1, 3) := by decide +kernel
theorem dX9_begins_29 : decode cX9_begins 29 = .ok (.goto (-17), 3) := by decide +kernel
theorem dX9_begins_32 : decode cX9_begins 32 = .ok (.aload_n 0, 1) := by decide +kernel
theorem dX9_begins_33 : decode cX9_begins 33 = .ok (.aload_n 0, 1) := by decide +kernel
theorem dX9_begins_34 : decode cX9_begins 34 = .ok (.iload_n 1, 1) := by decide +kernel
theorem dX9_begins_35 : decode cX9_begins 35 = .ok (.invokevirtual 182, 3) := by decide +kernel
theorem dX9_begins_38 : decode cX9_begins 38 = .ok (.putfield 185, 3) := by decide +kernel
theorem dX9_begins_41 : decode cX9_begins 41 = .ok (.aload_n 0, 1) := by decide +kernel
theorem dX9_begins_42 : decode cX9_begins 42 = .ok (.aload_n 0, 1) := by decide +kernel
theorem dX9_begins_43 : decode cX9_begins 43 = .ok (.iload_n 2, 1) := by decide +kernel
theorem dX9_begins_44 : decode cX9_begins 44 = .ok (.invokevirtual 182, 3) := by decide +kernel
theorem dX9_begins_47 : decode cX9_begins 47 = .ok (.putfield 188, 3) := by decide +kernel
theorem dX9_begins_50 : decode cX9_begins 50 = .ok (.aload_n 0, 1) := by decide +kernel
theorem dX9_begins_51 : decode cX9_begins 51 = .ok (.iconst 4, 1) := by decide +kernel
theorem dX9_begins_52 : decode cX9_begins 52 = .ok (.aload_n 0, 1) := by decide +kernel
theorem dX9_begins_53 : decode cX9_begins 53 = .ok (.iload_n 1, 1) := by decide +kernel
theorem dX9_begins_54 : decode cX9_begins 54 = .ok (.invokevirtual 191, 3) := by decide +kernel
theorem dX9_begins_57 : decode cX9_begins 57 = .ok (.iadd, 1) := by decide +kernel
theorem dX9_begins_58 : decode cX9_begins 58 = .ok (.aload_n 0, 1) := by decide +kernel
theorem dX9_begins_59 : decode cX9_begins 59 = .ok (.iload_n 2, 1) := by decide +kernel
theorem dX9_begins_60 : decode cX9_begins 60 = .ok (.invokevirtual 191, 3) := by decide +kernel
theorem dX9_begins_63 : decode cX9_begins 63 = .ok (.isub, 1) := by decide +kernel
theorem dX9_begins_64 : decode cX9_begins 64 = .ok (.iconst 1, 1) := by decide +kernel
theorem dX9_begins_65 : decode cX9_begins 65 = .ok (.bipush 7, 2) := by decide +kernel
theorem dX9_begins_67 : decode cX9_begins 67 = .ok (.invokestatic 166, 3) := by decide +kernel
theorem dX9_begins_70 : decode cX9_begins 70 = .ok (.putfield 194, 3) := by decide +kernel
theorem dX9_begins_73 : decode cX9_begins 73 = .ok (.return_, 1) := by decide +kernel
theorem dX9_strengthOf_0 : decode cX9_strengthOf 0 = .ok (.sipush 144, 3) := by decide +kernel
theorem dX9_strengthOf_3 : decode cX9_strengthOf 3 = .ok (.iload_n 1, 1) := by decide +kernel
theorem dX9_strengthOf_4 : decode cX9_strengthOf 4 = .ok (.imul, 1) := by decide +kernel
theorem dX9_strengthOf_5 : decode cX9_strengthOf 5 = .ok (.bipush 36, 2) := by decide +kernel
theorem dX9_strengthOf_7 : decode cX9_strengthOf 7 = .ok (.iload_n 2, 1) := by decide +kernel
theorem dX9_strengthOf_8 : decode cX9_strengthOf 8 = .ok (.imul, 1) := by decide +kernel
theorem dX9_strengthOf_9 : decode cX9_strengthOf 9 = .ok (.iadd, 1) := by decide +kernel
theorem dX9_strengthOf_10 : decode cX9_strengthOf 10 = .ok (.bipush 9, 2) := by decide +kernel
theorem dX9_strengthOf_12 : decode cX9_strengthOf 12 = .ok (.iload_n 3, 1) := by decide +kernel
theorem dX9_strengthOf_13 : decode cX9_strengthOf 13 = .ok (.imul, 1) := by decide +kernel
theorem dX9_strengthOf_14 : decode cX9_strengthOf 14 = .ok (.iadd, 1) := by decide +kernel
theorem dX9_strengthOf_15 : decode cX9_strengthOf 15 = .ok (.iload 4, 2) := by decide +kernel
theorem dX9_strengthOf_17 : decode cX9_strengthOf 17 = .ok (.iadd, 1) := by decide +kernel
theorem dX9_strengthOf_18 : decode cX9_strengthOf 18 = .ok (.istore 5, 2) := by decide +kernel
theorem dX9_strengthOf_20 : decode cX9_strengthOf 20 = .ok (.aload_n 0, 1) := by decide +kernel
theorem dX9_strengthOf_21 : decode cX9_strengthOf 21 = .ok (.getfield 58, 3) := by decide +kernel
theorem dX9_strengthOf_24 : decode cX9_strengthOf 24 = .ok (.iload 5, 2) := by decide +kernel
theorem dX9_strengthOf_26 : decode cX9_strengthOf 26 = .ok (.iaload, 1) := by decide +kernel
theorem dX9_strengthOf_27 : decode cX9_strengthOf 27 = .ok (.iconst (-1), 1) := by decide +kernel
theorem dX9_strengthOf_28 : decode cX9_strengthOf 28 = .ok (.if_icmp .ne 71, 3) := by decide +kernel
theorem dX9_strengthOf_31 : decode cX9_strengthOf 31 = .ok (.iload_n 1, 1) := by decide +kernel
theorem dX9_strengthOf_32 : decode cX9_strengthOf 32 = .ok (.ifCond .ne 10, 3) := by decide +kernel
theorem dX9_strengthOf_35 : decode cX9_strengthOf 35 = .ok (.aload_n 0, 1) := by decide +kernel
theorem dX9_strengthOf_36 : decode cX9_strengthOf 36 = .ok (.getfield 176, 3) := by decide +kernel
theorem dX9_strengthOf_39 : decode cX9_strengthOf 39 = .ok (.goto 7, 3) := by decide +kernel
theorem dX9_strengthOf_42 : decode cX9_strengthOf 42 = .ok (.aload_n 0, 1) := by decide +kernel
theorem dX9_strengthOf_43 : decode cX9_strengthOf 43 = .ok (.getfield 179, 3) := by decide +kernel
theorem dX9_strengthOf_46 : decode cX9_strengthOf 46 = .ok (.istore 6, 2) := by decide +kernel
theorem dX9_strengthOf_48 : decode cX9_strengthOf 48 = .ok (.aload_n 0, 1) := by decide +kernel
theorem dX9_strengthOf_49 : decode cX9_strengthOf 49 = .ok (.iload 6, 2) := by decide +kernel
theorem dX9_strengthOf_51 : decode cX9_strengthOf 51 = .ok (.aload_n 0, 1) := by decide +kernel
theorem dX9_strengthOf_52 : decode cX9_strengthOf 52 = .ok (.iconst 0, 1) := by decide +kernel
theorem dX9_strengthOf_53 : decode cX9_strengthOf 53 = .ok (.iload 6, 2) := by decide +kernel
theorem dX9_strengthOf_55 : decode cX9_strengthOf 55 = .ok (.iload_n 2, 1) := by decide +kernel
theorem dX9_strengthOf_56 : decode cX9_strengthOf 56 = .ok (.iload_n 3, 1) := by decide +kernel
theorem dX9_strengthOf_57 : decode cX9_strengthOf 57 = .ok (.iload 4, 2) := by decide +kernel
theorem dX9_strengthOf_59 : decode cX9_strengthOf 59 = .ok (.invokevirtual 169, 3) := by decide +kernel
theorem dX9_strengthOf_62 : decode cX9_strengthOf 62 = .ok (.iload_n 2, 1) := by decide +kernel
theorem dX9_strengthOf_63 : decode cX9_strengthOf 63 = .ok (.iload_n 3, 1) := by decide +kernel
theorem dX9_strengthOf_64 : decode cX9_strengthOf 64 = .ok (.invokevirtual 197, 3) := by decide +kernel
theorem dX9_strengthOf_67 : decode cX9_strengthOf 67 = .ok (.aload_n 0, 1) := by decide +kernel
theorem dX9_strengthOf_68 : decode cX9_strengthOf 68 = .ok (.getfield 16, 3) := by decide +kernel
theorem dX9_strengthOf_71 : decode cX9_strengthOf 71 = .ok (.iconst 5, 1) := by decide +kernel
theorem dX9_strengthOf_72 : decode cX9_strengthOf 72 = .ok (.iload 6, 2) := by decide +kernel
theorem dX9_strengthOf_74 : decode cX9_strengthOf 74 = .ok (.imul, 1) := by decide +kernel
theorem dX9_strengthOf_75 : decode cX9_strengthOf 75 = .ok (.iconst 2, 1) := by decide +kernel
theorem dX9_strengthOf_76 : decode cX9_strengthOf 76 = .ok (.iadd, 1) := by decide +kernel
theorem dX9_strengthOf_77 : decode cX9_strengthOf 77 = .ok (.iaload, 1) := by decide +kernel
theorem dX9_strengthOf_78 : decode cX9_strengthOf 78 = .ok (.isub, 1) := by decide +kernel
theorem dX9_strengthOf_79 : decode cX9_strengthOf 79 = .ok (.istore 7, 2) := by decide +kernel
theorem dX9_strengthOf_81 : decode cX9_strengthOf 81 = .ok (.aload_n 0, 1) := by decide +kernel
theorem dX9_strengthOf_82 : decode cX9_strengthOf 82 = .ok (.getfield 58, 3) := by decide +kernel
theorem dX9_strengthOf_85 : decode cX9_strengthOf 85 = .ok (.iload 5, 2) := by decide +kernel
theorem dX9_strengthOf_87 : decode cX9_strengthOf 87 = .ok (.iload 7, 2) := by decide +kernel
theorem dX9_strengthOf_89 : decode cX9_strengthOf 89 = .ok (.ifCond .ge 7, 3) := by decide +kernel
theorem dX9_strengthOf_92 : decode cX9_strengthOf 92 = .ok (.iconst 0, 1) := by decide +kernel
theorem dX9_strengthOf_93 : decode cX9_strengthOf 93 = .ok (.goto 5, 3) := by decide +kernel
theorem dX9_strengthOf_96 : decode cX9_strengthOf 96 = .ok (.iload 7, 2) := by decide +kernel
theorem dX9_strengthOf_98 : decode cX9_strengthOf 98 = .ok (.iastore, 1) := by decide +kernel
theorem dX9_strengthOf_99 : decode cX9_strengthOf 99 = .ok (.aload_n 0, 1) := by decide +kernel
theorem dX9_strengthOf_100 : decode cX9_strengthOf 100 = .ok (.getfield 58, 3) := by decide +kernel
theorem dX9_strengthOf_103 : decode cX9_strengthOf 103 = .ok (.iload 5, 2) := by decide +kernel
theorem dX9_strengthOf_105 : decode cX9_strengthOf 105 = .ok (.iaload, 1) := by decide +kernel
theorem dX9_strengthOf_106 : decode cX9_strengthOf 106 = .ok (.ireturn, 1) := by decide +kernel
theorem dX9_bouts_0 : decode cX9_bouts 0 = .ok (.aload_n 0, 1) := by decide +kernel
theorem dX9_bouts_1 : decode cX9_bouts 1 = .ok (.getfield 194, 3) := by decide +kernel
theorem dX9_bouts_4 : decode cX9_bouts 4 = .ok (.istore_n 3, 1) := by decide +kernel
theorem dX9_bouts_5 : decode cX9_bouts 5 = .ok (.iconst 0, 1) := by decide +kernel
theorem dX9_bouts_6 : decode cX9_bouts 6 = .ok (.istore 4, 2) := by decide +kernel
theorem dX9_bouts_8 : decode cX9_bouts 8 = .ok (.iconst 0, 1) := by decide +kernel
theorem dX9_bouts_9 : decode cX9_bouts 9 = .ok (.istore 5, 2) := by decide +kernel
theorem dX9_bouts_11 : decode cX9_bouts 11 = .ok (.iconst 0, 1) := by decide +kernel
theorem dX9_bouts_12 : decode cX9_bouts 12 = .ok (.istore 6, 2) := by decide +kernel
theorem dX9_bouts_14 : decode cX9_bouts 14 = .ok (.aload_n 0, 1) := by decide +kernel
theorem dX9_bouts_15 : decode cX9_bouts 15 = .ok (.iconst (-1), 1) := by decide +kernel
theorem dX9_bouts_16 : decode cX9_bouts 16 = .ok (.putfield 201, 3) := by decide +kernel
theorem dX9_bouts_19 : decode cX9_bouts 19 = .ok (.aload_n 0, 1) := by decide +kernel
theorem dX9_bouts_20 : decode cX9_bouts 20 = .ok (.iconst 0, 1) := by decide +kernel
theorem dX9_bouts_21 : decode cX9_bouts 21 = .ok (.putfield 204, 3) := by decide +kernel
theorem dX9_bouts_24 : decode cX9_bouts 24 = .ok (.aload_n 0, 1) := by decide +kernel
theorem dX9_bouts_25 : decode cX9_bouts 25 = .ok (.getfield 61, 3) := by decide +kernel
theorem dX9_bouts_28 : decode cX9_bouts 28 = .ok (.iconst 0, 1) := by decide +kernel
theorem dX9_bouts_29 : decode cX9_bouts 29 = .ok (.iload_n 3, 1) := by decide +kernel
theorem dX9_bouts_30 : decode cX9_bouts 30 = .ok (.iastore, 1) := by decide +kernel
theorem dX9_bouts_31 : decode cX9_bouts 31 = .ok (.iconst 0, 1) := by decide +kernel
theorem dX9_bouts_32 : decode cX9_bouts 32 = .ok (.istore 7, 2) := by decide +kernel
theorem dX9_bouts_34 : decode cX9_bouts 34 = .ok (.iload 7, 2) := by decide +kernel
theorem dX9_bouts_36 : decode cX9_bouts 36 = .ok (.bipush 9, 2) := by decide +kernel
theorem dX9_bouts_38 : decode cX9_bouts 38 = .ok (.if_icmp .ge 234, 3) := by decide +kernel
theorem dX9_bouts_41 : decode cX9_bouts 41 = .ok (.iload 6, 2) := by decide +kernel
theorem dX9_bouts_43 : decode cX9_bouts 43 = .ok (.ifCond .ne 213, 3) := by decide +kernel
theorem dX9_bouts_46 : decode cX9_bouts 46 = .ok (.iload_n 1, 1) := by decide +kernel
theorem dX9_bouts_47 : decode cX9_bouts 47 = .ok (.iconst 2, 1) := by decide +kernel
theorem dX9_bouts_48 : decode cX9_bouts 48 = .ok (.iload 7, 2) := by decide +kernel
theorem dX9_bouts_50 : decode cX9_bouts 50 = .ok (.imul, 1) := by decide +kernel
theorem dX9_bouts_51 : decode cX9_bouts 51 = .ok (.ishr, 1) := by decide +kernel
theorem dX9_bouts_52 : decode cX9_bouts 52 = .ok (.iconst 3, 1) := by decide +kernel
theorem dX9_bouts_53 : decode cX9_bouts 53 = .ok (.iand, 1) := by decide +kernel
theorem dX9_bouts_54 : decode cX9_bouts 54 = .ok (.istore 8, 2) := by decide +kernel
theorem dX9_bouts_56 : decode cX9_bouts 56 = .ok (.iload_n 2, 1) := by decide +kernel
theorem dX9_bouts_57 : decode cX9_bouts 57 = .ok (.iconst 2, 1) := by decide +kernel
theorem dX9_bouts_58 : decode cX9_bouts 58 = .ok (.iload 7, 2) := by decide +kernel
theorem dX9_bouts_60 : decode cX9_bouts 60 = .ok (.imul, 1) := by decide +kernel
theorem dX9_bouts_61 : decode cX9_bouts 61 = .ok (.ishr, 1) := by decide +kernel
theorem dX9_bouts_62 : decode cX9_bouts 62 = .ok (.iconst 3, 1) := by decide +kernel
theorem dX9_bouts_63 : decode cX9_bouts 63 = .ok (.iand, 1) := by decide +kernel
theorem dX9_bouts_64 : decode cX9_bouts 64 = .ok (.istore 9, 2) := by decide +kernel
theorem dX9_bouts_66 : decode cX9_bouts 66 = .ok (.aload_n 0, 1) := by decide +kernel
theorem dX9_bouts_67 : decode cX9_bouts 67 = .ok (.iconst 0, 1) := by decide +kernel
theorem dX9_bouts_68 : decode cX9_bouts 68 = .ok (.iload 8, 2) := by decide +kernel
theorem dX9_bouts_70 : decode cX9_bouts 70 = .ok (.iload 9, 2) := by decide +kernel
theorem dX9_bouts_72 : decode cX9_bouts 72 = .ok (.iload_n 3, 1) := by decide +kernel
theorem dX9_bouts_73 : decode cX9_bouts 73 = .ok (.invokevirtual 207, 3) := by decide +kernel
theorem dX9_bouts_76 : decode cX9_bouts 76 = .ok (.aload_n 0, 1) := by decide +kernel
theorem dX9_bouts_77 : decode cX9_bouts 77 = .ok (.iconst 1, 1) := by decide +kernel
theorem dX9_bouts_78 : decode cX9_bouts 78 = .ok (.iload 9, 2) := by decide +kernel
theorem dX9_bouts_80 : decode cX9_bouts 80 = .ok (.iload 8, 2) := by decide +kernel
theorem dX9_bouts_82 : decode cX9_bouts 82 = .ok (.bipush 8, 2) := by decide +kernel
theorem dX9_bouts_84 : decode cX9_bouts 84 = .ok (.iload_n 3, 1) := by decide +kernel
theorem dX9_bouts_85 : decode cX9_bouts 85 = .ok (.isub, 1) := by decide +kernel
theorem dX9_bouts_86 : decode cX9_bouts 86 = .ok (.invokevirtual 207, 3) := by decide +kernel
theorem dX9_bouts_89 : decode cX9_bouts 89 = .ok (.isub, 1) := by decide +kernel
theorem dX9_bouts_90 : decode cX9_bouts 90 = .ok (.istore 10, 2) := by decide +kernel
theorem dX9_bouts_92 : decode cX9_bouts 92 = .ok (.iload_n 3, 1) := by decide +kernel
theorem dX9_bouts_93 : decode cX9_bouts 93 = .ok (.iload 10, 2) := by decide +kernel
theorem dX9_bouts_95 : decode cX9_bouts 95 = .ok (.bipush 20, 2) := by decide +kernel
theorem dX9_bouts_97 : decode cX9_bouts 97 = .ok (.if_icmp .le 7, 3) := by decide +kernel
theorem dX9_bouts_100 : decode cX9_bouts 100 = .ok (.iconst 2, 1) := by decide +kernel
theorem dX9_bouts_101 : decode cX9_bouts 101 = .ok (.goto 34, 3) := by decide +kernel
theorem dX9_bouts_104 : decode cX9_bouts 104 = .ok (.iload 10, 2) := by decide +kernel
theorem dX9_bouts_106 : decode cX9_bouts 106 = .ok (.ifCond .le 7, 3) := by decide +kernel
theorem dX9_bouts_109 : decode cX9_bouts 109 = .ok (.iconst 1, 1) := by decide +kernel
theorem dX9_bouts_110 : decode cX9_bouts 110 = .ok (.goto 25, 3) := by decide +kernel
theorem dX9_bouts_113 : decode cX9_bouts 113 = .ok (.iload 10, 2) := by decide +kernel
theorem dX9_bouts_115 : decode cX9_bouts 115 = .ok (.bipush (-20), 2) := by decide +kernel
theorem dX9_bouts_117 : decode cX9_bouts 117 = .ok (.if_icmp .ge 8, 3) := by decide +kernel
theorem dX9_bouts_120 : decode cX9_bouts 120 = .ok (.bipush (-2), 2) := by decide +kernel
theorem dX9_bouts_122 : decode cX9_bouts 122 = .ok (.goto 13, 3) := by decide +kernel
theorem dX9_bouts_125 : decode cX9_bouts 125 = .ok (.iload 10, 2) := by decide +kernel
theorem dX9_bouts_127 : decode cX9_bouts 127 = .ok (.ifCond .ge 7, 3) := by decide +kernel
theorem dX9_bouts_130 : decode cX9_bouts 130 = .ok (.iconst (-1), 1) := by decide +kernel
theorem dX9_bouts_131 : decode cX9_bouts 131 = .ok (.goto 4, 3) := by decide +kernel
theorem dX9_bouts_134 : decode cX9_bouts 134 = .ok (.iconst 0, 1) := by decide +kernel
theorem dX9_bouts_135 : decode cX9_bouts 135 = .ok (.iadd, 1) := by decide +kernel
theorem dX9_bouts_136 : decode cX9_bouts 136 = .ok (.istore_n 3, 1) := by decide +kernel
theorem dX9_bouts_137 : decode cX9_bouts 137 = .ok (.aload_n 0, 1) := by decide +kernel
theorem dX9_bouts_138 : decode cX9_bouts 138 = .ok (.dup, 1) := by decide +kernel
theorem dX9_bouts_139 : decode cX9_bouts 139 = .ok (.getfield 204, 3) := by decide +kernel
theorem dX9_bouts_142 : decode cX9_bouts 142 = .ok (.iconst 1, 1) := by decide +kernel
theorem dX9_bouts_143 : decode cX9_bouts 143 = .ok (.iadd, 1) := by decide +kernel
theorem dX9_bouts_144 : decode cX9_bouts 144 = .ok (.putfield 204, 3) := by decide +kernel
theorem dX9_bouts_147 : decode cX9_bouts 147 = .ok (.iload_n 3, 1) := by decide +kernel
theorem dX9_bouts_148 : decode cX9_bouts 148 = .ok (.bipush 8, 2) := by decide +kernel
theorem dX9_bouts_150 : decode cX9_bouts 150 = .ok (.if_icmp .lt 55, 3) := by decide +kernel
theorem dX9_bouts_153 : decode cX9_bouts 153 = .ok (.iload 5, 2) := by decide +kernel
theorem dX9_bouts_155 : decode cX9_bouts 155 = .ok (.aload_n 0, 1) := by decide +kernel
theorem dX9_bouts_156 : decode cX9_bouts 156 = .ok (.getfield 188, 3) := by decide +kernel
theorem dX9_bouts_159 : decode cX9_bouts 159 = .ok (.if_icmp .lt 7, 3) := by decide +kernel
theorem dX9_bouts_162 : decode cX9_bouts 162 = .ok (.iconst 1, 1) := by decide +kernel
theorem dX9_bouts_163 : decode cX9_bouts 163 = .ok (.goto 4, 3) := by decide +kernel
theorem dX9_bouts_166 : decode cX9_bouts 166 = .ok (.iconst 0, 1) := by decide +kernel
theorem dX9_bouts_167 : decode cX9_bouts 167 = .ok (.istore 6, 2) := by decide +kernel
theorem dX9_bouts_169 : decode cX9_bouts 169 = .ok (.iload 6, 2) := by decide +kernel
theorem dX9_bouts_171 : decode cX9_bouts 171 = .ok (.ifCond .eq 8, 3) := by decide +kernel
theorem dX9_bouts_174 : decode cX9_bouts 174 = .ok (.bipush 8, 2) := by decide +kernel
theorem dX9_bouts_176 : decode cX9_bouts 176 = .ok (.goto 5, 3) := by decide +kernel
theorem dX9_bouts_179 : decode cX9_bouts 179 = .ok (.bipush 7, 2) := by decide +kernel
theorem dX9_bouts_181 : decode cX9_bouts 181 = .ok (.istore_n 3, 1) := by decide +kernel
theorem dX9_bouts_182 : decode cX9_bouts 182 = .ok (.aload_n 0, 1) := by decide +kernel
theorem dX9_bouts_183 : decode cX9_bouts 183 = .ok (.iload 6, 2) := by decide +kernel
theorem dX9_bouts_185 : decode cX9_bouts 185 = .ok (.ifCond .eq 10, 3) := by decide +kernel
theorem dX9_bouts_188 : decode cX9_bouts 188 = .ok (.aload_n 0, 1) := by decide +kernel
theorem dX9_bouts_189 : decode cX9_bouts 189 = .ok (.getfield 176, 3) := by decide +kernel
theorem dX9_bouts_192 : decode cX9_bouts 192 = .ok (.goto 4, 3) := by decide +kernel
theorem dX9_bouts_195 : decode cX9_bouts 195 = .ok (.iconst (-1), 1) := by decide +kernel
theorem dX9_bouts_196 : decode cX9_bouts 196 = .ok (.putfield 201, 3) := by decide +kernel
theorem dX9_bouts_199 : decode cX9_bouts 199 = .ok (.iinc 5 1, 3) := by decide +kernel
theorem dX9_bouts_202 : decode cX9_bouts 202 = .ok (.goto 54, 3) := by decide +kernel
theorem dX9_bouts_205 : decode cX9_bouts 205 = .ok (.iload_n 3, 1) := by decide +kernel
theorem dX9_bouts_206 : decode cX9_bouts 206 = .ok (.ifCond .gt 50, 3) := by decide +kernel
theorem dX9_bouts_209 : decode cX9_bouts 209 = .ok (.iload 4, 2) := by decide +kernel
theorem dX9_bouts_211 : decode cX9_bouts 211 = .ok (.aload_n 0, 1) := by decide +kernel
theorem dX9_bouts_212 : decode cX9_bouts 212 = .ok (.getfield 185, 3) := by decide +kernel
theorem dX9_bouts_215 : decode cX9_bouts 215 = .ok (.if_icmp .lt 7, 3) := by decide +kernel
theorem dX9_bouts_218 : decode cX9_bouts 218 = .ok (.iconst 1, 1) := by decide +kernel
theorem dX9_bouts_219 : decode cX9_bouts 219 = .ok (.goto 4, 3) := by decide +kernel
theorem dX9_bouts_222 : decode cX9_bouts 222 = .ok (.iconst 0, 1) := by decide +kernel
theorem dX9_bouts_223 : decode cX9_bouts 223 = .ok (.istore 6, 2) := by decide +kernel
theorem dX9_bouts_225 : decode cX9_bouts 225 = .ok (.iload 6, 2) := by decide +kernel
theorem dX9_bouts_227 : decode cX9_bouts 227 = .ok (.ifCond .eq 7, 3) := by decide +kernel
theorem dX9_bouts_230 : decode cX9_bouts 230 = .ok (.iconst 0, 1) := by decide +kernel
theorem dX9_bouts_231 : decode cX9_bouts 231 = .ok (.goto 4, 3) := by decide +kernel
theorem dX9_bouts_234 : decode cX9_bouts 234 = .ok (.iconst 1, 1) := by decide +kernel
theorem dX9_bouts_235 : decode cX9_bouts 235 = .ok (.istore_n 3, 1) := by decide +kernel
theorem dX9_bouts_236 : decode cX9_bouts 236 = .ok (.aload_n 0, 1) := by decide +kernel
theorem dX9_bouts_237 : decode cX9_bouts 237 = .ok (.iload 6, 2) := by decide +kernel
theorem dX9_bouts_239 : decode cX9_bouts 239 = .ok (.ifCond .eq 10, 3) := by decide +kernel
theorem dX9_bouts_242 : decode cX9_bouts 242 = .ok (.aload_n 0, 1) := by decide +kernel
theorem dX9_bouts_243 : decode cX9_bouts 243 = .ok (.getfield 179, 3) := by decide +kernel
theorem dX9_bouts_246 : decode cX9_bouts 246 = .ok (.goto 4, 3) := by decide +kernel
theorem dX9_bouts_249 : decode cX9_bouts 249 = .ok (.iconst (-1), 1) := by decide +kernel
theorem dX9_bouts_250 : decode cX9_bouts 250 = .ok (.putfield 201, 3) := by decide +kernel
theorem dX9_bouts_253 : decode cX9_bouts 253 = .ok (.iinc 4 1, 3) := by decide +kernel
theorem dX9_bouts_256 : decode cX9_bouts 256 = .ok (.aload_n 0, 1) := by decide +kernel
theorem dX9_bouts_257 : decode cX9_bouts 257 = .ok (.getfield 61, 3) := by decide +kernel
theorem dX9_bouts_260 : decode cX9_bouts 260 = .ok (.iload 7, 2) := by decide +kernel
theorem dX9_bouts_262 : decode cX9_bouts 262 = .ok (.iconst 1, 1) := by decide +kernel
theorem dX9_bouts_263 : decode cX9_bouts 263 = .ok (.iadd, 1) := by decide +kernel
theorem dX9_bouts_264 : decode cX9_bouts 264 = .ok (.iload_n 3, 1) := by decide +kernel
theorem dX9_bouts_265 : decode cX9_bouts 265 = .ok (.iastore, 1) := by decide +kernel
theorem dX9_bouts_266 : decode cX9_bouts 266 = .ok (.iinc 7 1, 3) := by decide +kernel
theorem dX9_bouts_269 : decode cX9_bouts 269 = .ok (.goto (-235), 3) := by decide +kernel
theorem dX9_bouts_272 : decode cX9_bouts 272 = .ok (.iload 6, 2) := by decide +kernel
theorem dX9_bouts_274 : decode cX9_bouts 274 = .ok (.ifCond .ne 32, 3) := by decide +kernel
theorem dX9_bouts_277 : decode cX9_bouts 277 = .ok (.aload_n 0, 1) := by decide +kernel
theorem dX9_bouts_278 : decode cX9_bouts 278 = .ok (.iload_n 3, 1) := by decide +kernel
theorem dX9_bouts_279 : decode cX9_bouts 279 = .ok (.iconst 4, 1) := by decide +kernel
theorem dX9_bouts_280 : decode cX9_bouts 280 = .ok (.if_icmp .le 10, 3) := by decide +kernel
theorem dX9_bouts_283 : decode cX9_bouts 283 = .ok (.aload_n 0, 1) := by decide +kernel
theorem dX9_bouts_284 : decode cX9_bouts 284 = .ok (.getfield 176, 3) := by decide +kernel
theorem dX9_bouts_287 : decode cX9_bouts 287 = .ok (.goto 16, 3) := by decide +kernel
theorem dX9_bouts_290 : decode cX9_bouts 290 = .ok (.iload_n 3, 1) := by decide +kernel
theorem dX9_bouts_291 : decode cX9_bouts 291 = .ok (.iconst 4, 1) := by decide +kernel
theorem dX9_bouts_292 : decode cX9_bouts 292 = .ok (.if_icmp .ge 10, 3) := by decide +kernel
theorem dX9_bouts_295 : decode cX9_bouts 295 = .ok (.aload_n 0, 1) := by decide +kernel
theorem dX9_bouts_296 : decode cX9_bouts 296 = .ok (.getfield 179, 3) := by decide +kernel
theorem dX9_bouts_299 : decode cX9_bouts 299 = .ok (.goto 4, 3) := by decide +kernel
theorem dX9_bouts_302 : decode cX9_bouts 302 = .ok (.iconst (-1), 1) := by decide +kernel
theorem dX9_bouts_303 : decode cX9_bouts 303 = .ok (.putfield 201, 3) := by decide +kernel
theorem dX9_bouts_306 : decode cX9_bouts 306 = .ok (.return_, 1) := by decide +kernel
theorem dX9_bout0_0 : decode cX9_bout0 0 = .ok (.aload_n 0, 1) := by decide +kernel
theorem dX9_bout0_1 : decode cX9_bout0 1 = .ok (.iload_n 1, 1) := by decide +kernel
theorem dX9_bout0_2 : decode cX9_bout0 2 = .ok (.iload_n 2, 1) := by decide +kernel
theorem dX9_bout0_3 : decode cX9_bout0 3 = .ok (.invokevirtual 210, 3) := by decide +kernel
theorem dX9_bout0_6 : decode cX9_bout0 6 = .ok (.aload_n 0, 1) := by decide +kernel
theorem dX9_bout0_7 : decode cX9_bout0 7 = .ok (.iload_n 3, 1) := by decide +kernel
theorem dX9_bout0_8 : decode cX9_bout0 8 = .ok (.iload 4, 2) := by decide +kernel
theorem dX9_bout0_10 : decode cX9_bout0 10 = .ok (.invokevirtual 214, 3) := by decide +kernel
theorem dX9_bout0_13 : decode cX9_bout0 13 = .ok (.return_, 1) := by decide +kernel
theorem dX9_bout_0 : decode cX9_bout 0 = .ok (.aload_n 0, 1) := by decide +kernel
theorem dX9_bout_1 : decode cX9_bout 1 = .ok (.iload_n 1, 1) := by decide +kernel
theorem dX9_bout_2 : decode cX9_bout 2 = .ok (.invokevirtual 217, 3) := by decide +kernel
theorem dX9_bout_5 : decode cX9_bout 5 = .ok (.ifCond .ne 6, 3) := by decide +kernel
theorem dX9_bout_8 : decode cX9_bout 8 = .ok (.bipush (-5), 2) := by decide +kernel
theorem dX9_bout_10 : decode cX9_bout 10 = .ok (.ireturn, 1) := by decide +kernel
theorem dX9_bout_11 : decode cX9_bout 11 = .ok (.iload_n 2, 1) := by decide +kernel
theorem dX9_bout_12 : decode cX9_bout 12 = .ok (.invokestatic 220, 3) := by decide +kernel
theorem dX9_bout_15 : decode cX9_bout 15 = .ok (.ifCond .eq 32, 3) := by decide +kernel
theorem dX9_bout_18 : decode cX9_bout 18 = .ok (.iload_n 3, 1) := by decide +kernel
theorem dX9_bout_19 : decode cX9_bout 19 = .ok (.invokestatic 220, 3) := by decide +kernel
theorem dX9_bout_22 : decode cX9_bout 22 = .ok (.ifCond .eq 25, 3) := by decide +kernel
theorem dX9_bout_25 : decode cX9_bout 25 = .ok (.iload 4, 2) := by decide +kernel
theorem dX9_bout_27 : decode cX9_bout 27 = .ok (.iconst 0, 1) := by decide +kernel
theorem dX9_bout_28 : decode cX9_bout 28 = .ok (.iconst 1, 1) := by decide +kernel
theorem dX9_bout_29 : decode cX9_bout 29 = .ok (.invokestatic 78, 3) := by decide +kernel
theorem dX9_bout_32 : decode cX9_bout 32 = .ok (.ifCond .ne 18, 3) := by decide +kernel
theorem dX9_bout_35 : decode cX9_bout 35 = .ok (.iload 4, 2) := by decide +kernel
theorem dX9_bout_37 : decode cX9_bout 37 = .ok (.bipush 10, 2) := by decide +kernel
theorem dX9_bout_39 : decode cX9_bout 39 = .ok (.bipush 19, 2) := by decide +kernel
theorem dX9_bout_41 : decode cX9_bout 41 = .ok (.invokestatic 78, 3) := by decide +kernel
theorem dX9_bout_44 : decode cX9_bout 44 = .ok (.ifCond .ne 6, 3) := by decide +kernel
theorem dX9_bout_47 : decode cX9_bout 47 = .ok (.bipush (-7), 2) := by decide +kernel
theorem dX9_bout_49 : decode cX9_bout 49 = .ok (.ireturn, 1) := by decide +kernel
theorem dX9_bout_50 : decode cX9_bout 50 = .ok (.aload_n 0, 1) := by decide +kernel
theorem dX9_bout_51 : decode cX9_bout 51 = .ok (.iload_n 1, 1) := by decide +kernel
theorem dX9_bout_52 : decode cX9_bout 52 = .ok (.bipush 10, 2) := by decide +kernel
theorem dX9_bout_54 : decode cX9_bout 54 = .ok (.idiv, 1) := by decide +kernel
theorem dX9_bout_55 : decode cX9_bout 55 = .ok (.iload_n 1, 1) := by decide +kernel
theorem dX9_bout_56 : decode cX9_bout 56 = .ok (.bipush 10, 2) := by decide +kernel
theorem dX9_bout_58 : decode cX9_bout 58 = .ok (.irem, 1) := by decide +kernel
theorem dX9_bout_59 : decode cX9_bout 59 = .ok (.iload_n 2, 1) := by decide +kernel
theorem dX9_bout_60 : decode cX9_bout 60 = .ok (.iload_n 3, 1) := by decide +kernel
theorem dX9_bout_61 : decode cX9_bout 61 = .ok (.invokevirtual 223, 3) := by decide +kernel
theorem dX9_bout_64 : decode cX9_bout 64 = .ok (.iload 4, 2) := by decide +kernel
theorem dX9_bout_66 : decode cX9_bout 66 = .ok (.ifCond .ne 10, 3) := by decide +kernel
theorem dX9_bout_69 : decode cX9_bout 69 = .ok (.aload_n 0, 1) := by decide +kernel
theorem dX9_bout_70 : decode cX9_bout 70 = .ok (.getfield 201, 3) := by decide +kernel
theorem dX9_bout_73 : decode cX9_bout 73 = .ok (.goto 26, 3) := by decide +kernel
theorem dX9_bout_76 : decode cX9_bout 76 = .ok (.iload 4, 2) := by decide +kernel
theorem dX9_bout_78 : decode cX9_bout 78 = .ok (.iconst 1, 1) := by decide +kernel
theorem dX9_bout_79 : decode cX9_bout 79 = .ok (.if_icmp .ne 10, 3) := by decide +kernel
theorem dX9_bout_82 : decode cX9_bout 82 = .ok (.aload_n 0, 1) := by decide +kernel
theorem dX9_bout_83 : decode cX9_bout 83 = .ok (.getfield 204, 3) := by decide +kernel
theorem dX9_bout_86 : decode cX9_bout 86 = .ok (.goto 13, 3) := by decide +kernel
theorem dX9_bout_89 : decode cX9_bout 89 = .ok (.aload_n 0, 1) := by decide +kernel
theorem dX9_bout_90 : decode cX9_bout 90 = .ok (.getfield 61, 3) := by decide +kernel
theorem dX9_bout_93 : decode cX9_bout 93 = .ok (.iload 4, 2) := by decide +kernel
theorem dX9_bout_95 : decode cX9_bout 95 = .ok (.bipush 10, 2) := by decide +kernel
theorem dX9_bout_97 : decode cX9_bout 97 = .ok (.isub, 1) := by decide +kernel
theorem dX9_bout_98 : decode cX9_bout 98 = .ok (.iaload, 1) := by decide +kernel
theorem dX9_bout_99 : decode cX9_bout 99 = .ok (.ireturn, 1) := by decide +kernel
theorem dX9_fights_0 : decode cX9_fights 0 = .ok (.aload_n 0, 1) := by decide +kernel
theorem dX9_fights_1 : decode cX9_fights 1 = .ok (.iload_n 1, 1) := by decide +kernel
theorem dX9_fights_2 : decode cX9_fights 2 = .ok (.iload_n 2, 1) := by decide +kernel
theorem dX9_fights_3 : decode cX9_fights 3 = .ok (.iload_n 3, 1) := by decide +kernel
theorem dX9_fights_4 : decode cX9_fights 4 = .ok (.iload 4, 2) := by decide +kernel
theorem dX9_fights_6 : decode cX9_fights 6 = .ok (.invokevirtual 223, 3) := by decide +kernel
theorem dX9_fights_9 : decode cX9_fights 9 = .ok (.aload_n 0, 1) := by decide +kernel
theorem dX9_fights_10 : decode cX9_fights 10 = .ok (.getfield 201, 3) := by decide +kernel
theorem dX9_fights_13 : decode cX9_fights 13 = .ok (.iconst (-1), 1) := by decide +kernel
theorem dX9_fights_14 : decode cX9_fights 14 = .ok (.if_icmp .eq 126, 3) := by decide +kernel
theorem dX9_fights_17 : decode cX9_fights 17 = .ok (.aload_n 0, 1) := by decide +kernel
theorem dX9_fights_18 : decode cX9_fights 18 = .ok (.getfield 201, 3) := by decide +kernel
theorem dX9_fights_21 : decode cX9_fights 21 = .ok (.istore 5, 2) := by decide +kernel
theorem dX9_fights_23 : decode cX9_fights 23 = .ok (.iload 5, 2) := by decide +kernel
theorem dX9_fights_25 : decode cX9_fights 25 = .ok (.iload_n 1, 1) := by decide +kernel
theorem dX9_fights_26 : decode cX9_fights 26 = .ok (.if_icmp .ne 7, 3) := by decide +kernel
theorem dX9_fights_29 : decode cX9_fights 29 = .ok (.iload_n 2, 1) := by decide +kernel
theorem dX9_fights_30 : decode cX9_fights 30 = .ok (.goto 4, 3) := by decide +kernel
theorem dX9_fights_33 : decode cX9_fights 33 = .ok (.iload_n 1, 1) := by decide +kernel
theorem dX9_fights_34 : decode cX9_fights 34 = .ok (.istore 6, 2) := by decide +kernel
theorem dX9_fights_36 : decode cX9_fights 36 = .ok (.aload_n 0, 1) := by decide +kernel
theorem dX9_fights_37 : decode cX9_fights 37 = .ok (.getfield 16, 3) := by decide +kernel
theorem dX9_fights_40 : decode cX9_fights 40 = .ok (.iconst 5, 1) := by decide +kernel
theorem dX9_fights_41 : decode cX9_fights 41 = .ok (.iload 5, 2) := by decide +kernel
theorem dX9_fights_43 : decode cX9_fights 43 = .ok (.imul, 1) := by decide +kernel
theorem dX9_fights_44 : decode cX9_fights 44 = .ok (.iconst 3, 1) := by decide +kernel
theorem dX9_fights_45 : decode cX9_fights 45 = .ok (.iadd, 1) := by decide +kernel
theorem dX9_fights_46 : decode cX9_fights 46 = .ok (.aload_n 0, 1) := by decide +kernel
theorem dX9_fights_47 : decode cX9_fights 47 = .ok (.getfield 16, 3) := by decide +kernel
theorem dX9_fights_50 : decode cX9_fights 50 = .ok (.iconst 5, 1) := by decide +kernel
theorem dX9_fights_51 : decode cX9_fights 51 = .ok (.iload 5, 2) := by decide +kernel
theorem dX9_fights_53 : decode cX9_fights 53 = .ok (.imul, 1) := by decide +kernel
theorem dX9_fights_54 : decode cX9_fights 54 = .ok (.iconst 3, 1) := by decide +kernel
theorem dX9_fights_55 : decode cX9_fights 55 = .ok (.iadd, 1) := by decide +kernel
theorem dX9_fights_56 : decode cX9_fights 56 = .ok (.iaload, 1) := by decide +kernel
theorem dX9_fights_57 : decode cX9_fights 57 = .ok (.iconst 1, 1) := by decide +kernel
theorem dX9_fights_58 : decode cX9_fights 58 = .ok (.iadd, 1) := by decide +kernel
theorem dX9_fights_59 : decode cX9_fights 59 = .ok (.iconst 0, 1) := by decide +kernel
theorem dX9_fights_60 : decode cX9_fights 60 = .ok (.sipush 999, 3) := by decide +kernel
theorem dX9_fights_63 : decode cX9_fights 63 = .ok (.invokestatic 166, 3) := by decide +kernel
