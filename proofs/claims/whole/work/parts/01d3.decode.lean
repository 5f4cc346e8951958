theorem dX9_fights_66 : decode cX9_fights 66 = .ok (.iastore, 1) := by decide +kernel
theorem dX9_fights_67 : decode cX9_fights 67 = .ok (.aload_n 0, 1) := by decide +kernel
theorem dX9_fights_68 : decode cX9_fights 68 = .ok (.getfield 16, 3) := by decide +kernel
theorem dX9_fights_71 : decode cX9_fights 71 = .ok (.iconst 5, 1) := by decide +kernel
theorem dX9_fights_72 : decode cX9_fights 72 = .ok (.iload 6, 2) := by decide +kernel
theorem dX9_fights_74 : decode cX9_fights 74 = .ok (.imul, 1) := by decide +kernel
theorem dX9_fights_75 : decode cX9_fights 75 = .ok (.iconst 4, 1) := by decide +kernel
theorem dX9_fights_76 : decode cX9_fights 76 = .ok (.iadd, 1) := by decide +kernel
theorem dX9_fights_77 : decode cX9_fights 77 = .ok (.aload_n 0, 1) := by decide +kernel
theorem dX9_fights_78 : decode cX9_fights 78 = .ok (.getfield 16, 3) := by decide +kernel
theorem dX9_fights_81 : decode cX9_fights 81 = .ok (.iconst 5, 1) := by decide +kernel
theorem dX9_fights_82 : decode cX9_fights 82 = .ok (.iload 6, 2) := by decide +kernel
theorem dX9_fights_84 : decode cX9_fights 84 = .ok (.imul, 1) := by decide +kernel
theorem dX9_fights_85 : decode cX9_fights 85 = .ok (.iconst 4, 1) := by decide +kernel
theorem dX9_fights_86 : decode cX9_fights 86 = .ok (.iadd, 1) := by decide +kernel
theorem dX9_fights_87 : decode cX9_fights 87 = .ok (.iaload, 1) := by decide +kernel
theorem dX9_fights_88 : decode cX9_fights 88 = .ok (.iconst 1, 1) := by decide +kernel
theorem dX9_fights_89 : decode cX9_fights 89 = .ok (.iadd, 1) := by decide +kernel
theorem dX9_fights_90 : decode cX9_fights 90 = .ok (.iconst 0, 1) := by decide +kernel
theorem dX9_fights_91 : decode cX9_fights 91 = .ok (.sipush 999, 3) := by decide +kernel
theorem dX9_fights_94 : decode cX9_fights 94 = .ok (.invokestatic 166, 3) := by decide +kernel
theorem dX9_fights_97 : decode cX9_fights 97 = .ok (.iastore, 1) := by decide +kernel
theorem dX9_fights_98 : decode cX9_fights 98 = .ok (.aload_n 0, 1) := by decide +kernel
theorem dX9_fights_99 : decode cX9_fights 99 = .ok (.getfield 16, 3) := by decide +kernel
theorem dX9_fights_102 : decode cX9_fights 102 = .ok (.iconst 5, 1) := by decide +kernel
theorem dX9_fights_103 : decode cX9_fights 103 = .ok (.iload 6, 2) := by decide +kernel
theorem dX9_fights_105 : decode cX9_fights 105 = .ok (.imul, 1) := by decide +kernel
theorem dX9_fights_106 : decode cX9_fights 106 = .ok (.iconst 2, 1) := by decide +kernel
theorem dX9_fights_107 : decode cX9_fights 107 = .ok (.iadd, 1) := by decide +kernel
theorem dX9_fights_108 : decode cX9_fights 108 = .ok (.aload_n 0, 1) := by decide +kernel
theorem dX9_fights_109 : decode cX9_fights 109 = .ok (.getfield 16, 3) := by decide +kernel
theorem dX9_fights_112 : decode cX9_fights 112 = .ok (.iconst 5, 1) := by decide +kernel
theorem dX9_fights_113 : decode cX9_fights 113 = .ok (.iload 6, 2) := by decide +kernel
theorem dX9_fights_115 : decode cX9_fights 115 = .ok (.imul, 1) := by decide +kernel
theorem dX9_fights_116 : decode cX9_fights 116 = .ok (.iconst 2, 1) := by decide +kernel
theorem dX9_fights_117 : decode cX9_fights 117 = .ok (.iadd, 1) := by decide +kernel
theorem dX9_fights_118 : decode cX9_fights 118 = .ok (.iaload, 1) := by decide +kernel
theorem dX9_fights_119 : decode cX9_fights 119 = .ok (.aload_n 0, 1) := by decide +kernel
theorem dX9_fights_120 : decode cX9_fights 120 = .ok (.getfield 204, 3) := by decide +kernel
theorem dX9_fights_123 : decode cX9_fights 123 = .ok (.iconst 5, 1) := by decide +kernel
theorem dX9_fights_124 : decode cX9_fights 124 = .ok (.if_icmp .ge 7, 3) := by decide +kernel
theorem dX9_fights_127 : decode cX9_fights 127 = .ok (.iconst 1, 1) := by decide +kernel
theorem dX9_fights_128 : decode cX9_fights 128 = .ok (.goto 4, 3) := by decide +kernel
theorem dX9_fights_131 : decode cX9_fights 131 = .ok (.iconst 0, 1) := by decide +kernel
theorem dX9_fights_132 : decode cX9_fights 132 = .ok (.iadd, 1) := by decide +kernel
theorem dX9_fights_133 : decode cX9_fights 133 = .ok (.iconst 0, 1) := by decide +kernel
theorem dX9_fights_134 : decode cX9_fights 134 = .ok (.bipush 9, 2) := by decide +kernel
theorem dX9_fights_136 : decode cX9_fights 136 = .ok (.invokestatic 166, 3) := by decide +kernel
theorem dX9_fights_139 : decode cX9_fights 139 = .ok (.iastore, 1) := by decide +kernel
theorem dX9_fights_140 : decode cX9_fights 140 = .ok (.return_, 1) := by decide +kernel
theorem dX9_fight_0 : decode cX9_fight 0 = .ok (.aload_n 0, 1) := by decide +kernel
theorem dX9_fight_1 : decode cX9_fight 1 = .ok (.iload_n 1, 1) := by decide +kernel
theorem dX9_fight_2 : decode cX9_fight 2 = .ok (.iload_n 2, 1) := by decide +kernel
theorem dX9_fight_3 : decode cX9_fight 3 = .ok (.invokevirtual 86, 3) := by decide +kernel
theorem dX9_fight_6 : decode cX9_fight 6 = .ok (.ifCond .ne 6, 3) := by decide +kernel
theorem dX9_fight_9 : decode cX9_fight 9 = .ok (.bipush (-5), 2) := by decide +kernel
theorem dX9_fight_11 : decode cX9_fight 11 = .ok (.ireturn, 1) := by decide +kernel
theorem dX9_fight_12 : decode cX9_fight 12 = .ok (.iload_n 3, 1) := by decide +kernel
theorem dX9_fight_13 : decode cX9_fight 13 = .ok (.invokestatic 220, 3) := by decide +kernel
theorem dX9_fight_16 : decode cX9_fight 16 = .ok (.ifCond .eq 11, 3) := by decide +kernel
theorem dX9_fight_19 : decode cX9_fight 19 = .ok (.iload 4, 2) := by decide +kernel
theorem dX9_fight_21 : decode cX9_fight 21 = .ok (.invokestatic 220, 3) := by decide +kernel
theorem dX9_fight_24 : decode cX9_fight 24 = .ok (.ifCond .ne 6, 3) := by decide +kernel
theorem dX9_fight_27 : decode cX9_fight 27 = .ok (.bipush (-7), 2) := by decide +kernel
theorem dX9_fight_29 : decode cX9_fight 29 = .ok (.ireturn, 1) := by decide +kernel
theorem dX9_fight_30 : decode cX9_fight 30 = .ok (.aload_n 0, 1) := by decide +kernel
theorem dX9_fight_31 : decode cX9_fight 31 = .ok (.iload_n 1, 1) := by decide +kernel
theorem dX9_fight_32 : decode cX9_fight 32 = .ok (.iload_n 2, 1) := by decide +kernel
theorem dX9_fight_33 : decode cX9_fight 33 = .ok (.iload_n 3, 1) := by decide +kernel
theorem dX9_fight_34 : decode cX9_fight 34 = .ok (.iload 4, 2) := by decide +kernel
theorem dX9_fight_36 : decode cX9_fight 36 = .ok (.invokevirtual 227, 3) := by decide +kernel
theorem dX9_fight_39 : decode cX9_fight 39 = .ok (.aload_n 0, 1) := by decide +kernel
theorem dX9_fight_40 : decode cX9_fight 40 = .ok (.getfield 201, 3) := by decide +kernel
theorem dX9_fight_43 : decode cX9_fight 43 = .ok (.ireturn, 1) := by decide +kernel
theorem dX9_wholeOf_0 : decode cX9_wholeOf 0 = .ok (.iload_n 0, 1) := by decide +kernel
theorem dX9_wholeOf_1 : decode cX9_wholeOf 1 = .ok (.iconst 2, 1) := by decide +kernel
theorem dX9_wholeOf_2 : decode cX9_wholeOf 2 = .ok (.iload_n 1, 1) := by decide +kernel
theorem dX9_wholeOf_3 : decode cX9_wholeOf 3 = .ok (.iconst 1, 1) := by decide +kernel
theorem dX9_wholeOf_4 : decode cX9_wholeOf 4 = .ok (.isub, 1) := by decide +kernel
theorem dX9_wholeOf_5 : decode cX9_wholeOf 5 = .ok (.imul, 1) := by decide +kernel
theorem dX9_wholeOf_6 : decode cX9_wholeOf 6 = .ok (.ishr, 1) := by decide +kernel
theorem dX9_wholeOf_7 : decode cX9_wholeOf 7 = .ok (.iconst 3, 1) := by decide +kernel
theorem dX9_wholeOf_8 : decode cX9_wholeOf 8 = .ok (.iand, 1) := by decide +kernel
theorem dX9_wholeOf_9 : decode cX9_wholeOf 9 = .ok (.istore_n 2, 1) := by decide +kernel
theorem dX9_wholeOf_10 : decode cX9_wholeOf 10 = .ok (.iload_n 0, 1) := by decide +kernel
theorem dX9_wholeOf_11 : decode cX9_wholeOf 11 = .ok (.istore_n 3, 1) := by decide +kernel
theorem dX9_wholeOf_12 : decode cX9_wholeOf 12 = .ok (.iload_n 1, 1) := by decide +kernel
theorem dX9_wholeOf_13 : decode cX9_wholeOf 13 = .ok (.istore 4, 2) := by decide +kernel
theorem dX9_wholeOf_15 : decode cX9_wholeOf 15 = .ok (.iload 4, 2) := by decide +kernel
theorem dX9_wholeOf_17 : decode cX9_wholeOf 17 = .ok (.bipush 9, 2) := by decide +kernel
theorem dX9_wholeOf_19 : decode cX9_wholeOf 19 = .ok (.if_icmp .ge 18, 3) := by decide +kernel
theorem dX9_wholeOf_22 : decode cX9_wholeOf 22 = .ok (.iload_n 3, 1) := by decide +kernel
theorem dX9_wholeOf_23 : decode cX9_wholeOf 23 = .ok (.iload_n 2, 1) := by decide +kernel
theorem dX9_wholeOf_24 : decode cX9_wholeOf 24 = .ok (.iconst 2, 1) := by decide +kernel
theorem dX9_wholeOf_25 : decode cX9_wholeOf 25 = .ok (.iload 4, 2) := by decide +kernel
theorem dX9_wholeOf_27 : decode cX9_wholeOf 27 = .ok (.imul, 1) := by decide +kernel
theorem dX9_wholeOf_28 : decode cX9_wholeOf 28 = .ok (.ishl, 1) := by decide +kernel
theorem dX9_wholeOf_29 : decode cX9_wholeOf 29 = .ok (.ior, 1) := by decide +kernel
theorem dX9_wholeOf_30 : decode cX9_wholeOf 30 = .ok (.istore_n 3, 1) := by decide +kernel
theorem dX9_wholeOf_31 : decode cX9_wholeOf 31 = .ok (.iinc 4 1, 3) := by decide +kernel
theorem dX9_wholeOf_34 : decode cX9_wholeOf 34 = .ok (.goto (-19), 3) := by decide +kernel
theorem dX9_wholeOf_37 : decode cX9_wholeOf 37 = .ok (.iload_n 3, 1) := by decide +kernel
theorem dX9_wholeOf_38 : decode cX9_wholeOf 38 = .ok (.ireturn, 1) := by decide +kernel
theorem dX9_best_0 : decode cX9_best 0 = .ok (.aload_n 0, 1) := by decide +kernel
theorem dX9_best_1 : decode cX9_best 1 = .ok (.iload_n 1, 1) := by decide +kernel
theorem dX9_best_2 : decode cX9_best 2 = .ok (.invokevirtual 217, 3) := by decide +kernel
theorem dX9_best_5 : decode cX9_best 5 = .ok (.ifCond .ne 6, 3) := by decide +kernel
theorem dX9_best_8 : decode cX9_best 8 = .ok (.bipush (-5), 2) := by decide +kernel
theorem dX9_best_10 : decode cX9_best 10 = .ok (.ireturn, 1) := by decide +kernel
theorem dX9_best_11 : decode cX9_best 11 = .ok (.iload_n 2, 1) := by decide +kernel
theorem dX9_best_12 : decode cX9_best 12 = .ok (.invokestatic 220, 3) := by decide +kernel
theorem dX9_best_15 : decode cX9_best 15 = .ok (.ifCond .eq 22, 3) := by decide +kernel
theorem dX9_best_18 : decode cX9_best 18 = .ok (.iload_n 3, 1) := by decide +kernel
theorem dX9_best_19 : decode cX9_best 19 = .ok (.iconst 1, 1) := by decide +kernel
theorem dX9_best_20 : decode cX9_best 20 = .ok (.iconst 3, 1) := by decide +kernel
theorem dX9_best_21 : decode cX9_best 21 = .ok (.invokestatic 78, 3) := by decide +kernel
theorem dX9_best_24 : decode cX9_best 24 = .ok (.ifCond .eq 13, 3) := by decide +kernel
theorem dX9_best_27 : decode cX9_best 27 = .ok (.iload 4, 2) := by decide +kernel
theorem dX9_best_29 : decode cX9_best 29 = .ok (.iconst 0, 1) := by decide +kernel
theorem dX9_best_30 : decode cX9_best 30 = .ok (.iconst 1, 1) := by decide +kernel
theorem dX9_best_31 : decode cX9_best 31 = .ok (.invokestatic 78, 3) := by decide +kernel
theorem dX9_best_34 : decode cX9_best 34 = .ok (.ifCond .ne 6, 3) := by decide +kernel
theorem dX9_best_37 : decode cX9_best 37 = .ok (.bipush (-7), 2) := by decide +kernel
theorem dX9_best_39 : decode cX9_best 39 = .ok (.ireturn, 1) := by decide +kernel
theorem dX9_best_40 : decode cX9_best 40 = .ok (.aload_n 0, 1) := by decide +kernel
theorem dX9_best_41 : decode cX9_best 41 = .ok (.iload_n 1, 1) := by decide +kernel
theorem dX9_best_42 : decode cX9_best 42 = .ok (.bipush 10, 2) := by decide +kernel
theorem dX9_best_44 : decode cX9_best 44 = .ok (.idiv, 1) := by decide +kernel
theorem dX9_best_45 : decode cX9_best 45 = .ok (.iload_n 1, 1) := by decide +kernel
theorem dX9_best_46 : decode cX9_best 46 = .ok (.bipush 10, 2) := by decide +kernel
theorem dX9_best_48 : decode cX9_best 48 = .ok (.irem, 1) := by decide +kernel
theorem dX9_best_49 : decode cX9_best 49 = .ok (.invokevirtual 210, 3) := by decide +kernel
theorem dX9_best_52 : decode cX9_best 52 = .ok (.iconst (-1), 1) := by decide +kernel
theorem dX9_best_53 : decode cX9_best 53 = .ok (.istore 5, 2) := by decide +kernel
theorem dX9_best_55 : decode cX9_best 55 = .ok (.iconst (-1), 1) := by decide +kernel
theorem dX9_best_56 : decode cX9_best 56 = .ok (.istore 6, 2) := by decide +kernel
theorem dX9_best_58 : decode cX9_best 58 = .ok (.iconst 0, 1) := by decide +kernel
theorem dX9_best_59 : decode cX9_best 59 = .ok (.istore 7, 2) := by decide +kernel
theorem dX9_best_61 : decode cX9_best 61 = .ok (.iload 7, 2) := by decide +kernel
theorem dX9_best_63 : decode cX9_best 63 = .ok (.iconst 1, 1) := by decide +kernel
theorem dX9_best_64 : decode cX9_best 64 = .ok (.iconst 2, 1) := by decide +kernel
theorem dX9_best_65 : decode cX9_best 65 = .ok (.iload_n 3, 1) := by decide +kernel
theorem dX9_best_66 : decode cX9_best 66 = .ok (.imul, 1) := by decide +kernel
theorem dX9_best_67 : decode cX9_best 67 = .ok (.ishl, 1) := by decide +kernel
theorem dX9_best_68 : decode cX9_best 68 = .ok (.if_icmp .ge 83, 3) := by decide +kernel
theorem dX9_best_71 : decode cX9_best 71 = .ok (.aload_n 0, 1) := by decide +kernel
theorem dX9_best_72 : decode cX9_best 72 = .ok (.iload 7, 2) := by decide +kernel
theorem dX9_best_74 : decode cX9_best 74 = .ok (.iload_n 3, 1) := by decide +kernel
theorem dX9_best_75 : decode cX9_best 75 = .ok (.invokestatic 230, 3) := by decide +kernel
theorem dX9_best_78 : decode cX9_best 78 = .ok (.iload_n 2, 1) := by decide +kernel
theorem dX9_best_79 : decode cX9_best 79 = .ok (.invokevirtual 214, 3) := by decide +kernel
theorem dX9_best_82 : decode cX9_best 82 = .ok (.aload_n 0, 1) := by decide +kernel
theorem dX9_best_83 : decode cX9_best 83 = .ok (.getfield 201, 3) := by decide +kernel
theorem dX9_best_86 : decode cX9_best 86 = .ok (.aload_n 0, 1) := by decide +kernel
theorem dX9_best_87 : decode cX9_best 87 = .ok (.getfield 176, 3) := by decide +kernel
theorem dX9_best_90 : decode cX9_best 90 = .ok (.if_icmp .ne 22, 3) := by decide +kernel
theorem dX9_best_93 : decode cX9_best 93 = .ok (.iload 5, 2) := by decide +kernel
theorem dX9_best_95 : decode cX9_best 95 = .ok (.iconst (-1), 1) := by decide +kernel
theorem dX9_best_96 : decode cX9_best 96 = .ok (.if_icmp .eq 12, 3) := by decide +kernel
theorem dX9_best_99 : decode cX9_best 99 = .ok (.aload_n 0, 1) := by decide +kernel
theorem dX9_best_100 : decode cX9_best 100 = .ok (.getfield 204, 3) := by decide +kernel
theorem dX9_best_103 : decode cX9_best 103 = .ok (.iload 6, 2) := by decide +kernel
theorem dX9_best_105 : decode cX9_best 105 = .ok (.if_icmp .ge 7, 3) := by decide +kernel
theorem dX9_best_108 : decode cX9_best 108 = .ok (.iconst 1, 1) := by decide +kernel
theorem dX9_best_109 : decode cX9_best 109 = .ok (.goto 4, 3) := by decide +kernel
theorem dX9_best_112 : decode cX9_best 112 = .ok (.iconst 0, 1) := by decide +kernel
theorem dX9_best_113 : decode cX9_best 113 = .ok (.istore 8, 2) := by decide +kernel
theorem dX9_best_115 : decode cX9_best 115 = .ok (.iload 8, 2) := by decide +kernel
theorem dX9_best_117 : decode cX9_best 117 = .ok (.ifCond .eq 8, 3) := by decide +kernel
theorem dX9_best_120 : decode cX9_best 120 = .ok (.iload 7, 2) := by decide +kernel
theorem dX9_best_122 : decode cX9_best 122 = .ok (.goto 5, 3) := by decide +kernel
theorem dX9_best_125 : decode cX9_best 125 = .ok (.iload 5, 2) := by decide +kernel
theorem dX9_best_127 : decode cX9_best 127 = .ok (.istore 5, 2) := by decide +kernel
theorem dX9_best_129 : decode cX9_best 129 = .ok (.iload 8, 2) := by decide +kernel
theorem dX9_best_131 : decode cX9_best 131 = .ok (.ifCond .eq 10, 3) := by decide +kernel
theorem dX9_best_134 : decode cX9_best 134 = .ok (.aload_n 0, 1) := by decide +kernel
theorem dX9_best_135 : decode cX9_best 135 = .ok (.getfield 204, 3) := by decide +kernel
theorem dX9_best_138 : decode cX9_best 138 = .ok (.goto 5, 3) := by decide +kernel
theorem dX9_best_141 : decode cX9_best 141 = .ok (.iload 6, 2) := by decide +kernel
theorem dX9_best_143 : decode cX9_best 143 = .ok (.istore 6, 2) := by decide +kernel
theorem dX9_best_145 : decode cX9_best 145 = .ok (.iinc 7 1, 3) := by decide +kernel
theorem dX9_best_148 : decode cX9_best 148 = .ok (.goto (-87), 3) := by decide +kernel
theorem dX9_best_151 : decode cX9_best 151 = .ok (.iload 4, 2) := by decide +kernel
theorem dX9_best_153 : decode cX9_best 153 = .ok (.ifCond .ne 8, 3) := by decide +kernel
theorem dX9_best_156 : decode cX9_best 156 = .ok (.iload 5, 2) := by decide +kernel
theorem dX9_best_158 : decode cX9_best 158 = .ok (.goto 5, 3) := by decide +kernel
theorem dX9_best_161 : decode cX9_best 161 = .ok (.iload 6, 2) := by decide +kernel
theorem dX9_best_163 : decode cX9_best 163 = .ok (.ireturn, 1) := by decide +kernel
theorem dX9_winsOf_0 : decode cX9_winsOf 0 = .ok (.iconst 0, 1) := by decide +kernel
theorem dX9_winsOf_1 : decode cX9_winsOf 1 = .ok (.istore_n 3, 1) := by decide +kernel
theorem dX9_winsOf_2 : decode cX9_winsOf 2 = .ok (.iconst 0, 1) := by decide +kernel
theorem dX9_winsOf_3 : decode cX9_winsOf 3 = .ok (.istore 4, 2) := by decide +kernel
theorem dX9_winsOf_5 : decode cX9_winsOf 5 = .ok (.iload 4, 2) := by decide +kernel
theorem dX9_winsOf_7 : decode cX9_winsOf 7 = .ok (.iconst 1, 1) := by decide +kernel
theorem dX9_winsOf_8 : decode cX9_winsOf 8 = .ok (.iconst 2, 1) := by decide +kernel
theorem dX9_winsOf_9 : decode cX9_winsOf 9 = .ok (.iload_n 2, 1) := by decide +kernel
theorem dX9_winsOf_10 : decode cX9_winsOf 10 = .ok (.imul, 1) := by decide +kernel
theorem dX9_winsOf_11 : decode cX9_winsOf 11 = .ok (.ishl, 1) := by decide +kernel
theorem dX9_winsOf_12 : decode cX9_winsOf 12 = .ok (.if_icmp .ge 43, 3) := by decide +kernel
theorem dX9_winsOf_15 : decode cX9_winsOf 15 = .ok (.aload_n 0, 1) := by decide +kernel
theorem dX9_winsOf_16 : decode cX9_winsOf 16 = .ok (.iload_n 1, 1) := by decide +kernel
theorem dX9_winsOf_17 : decode cX9_winsOf 17 = .ok (.iload_n 2, 1) := by decide +kernel
theorem dX9_winsOf_18 : decode cX9_winsOf 18 = .ok (.invokestatic 230, 3) := by decide +kernel
theorem dX9_winsOf_21 : decode cX9_winsOf 21 = .ok (.iload 4, 2) := by decide +kernel
theorem dX9_winsOf_23 : decode cX9_winsOf 23 = .ok (.iload_n 2, 1) := by decide +kernel
theorem dX9_winsOf_24 : decode cX9_winsOf 24 = .ok (.invokestatic 230, 3) := by decide +kernel
theorem dX9_winsOf_27 : decode cX9_winsOf 27 = .ok (.invokevirtual 214, 3) := by decide +kernel
theorem dX9_winsOf_30 : decode cX9_winsOf 30 = .ok (.iload_n 3, 1) := by decide +kernel
theorem dX9_winsOf_31 : decode cX9_winsOf 31 = .ok (.aload_n 0, 1) := by decide +kernel
theorem dX9_winsOf_32 : decode cX9_winsOf 32 = .ok (.getfield 201, 3) := by decide +kernel
theorem dX9_winsOf_35 : decode cX9_winsOf 35 = .ok (.aload_n 0, 1) := by decide +kernel
theorem dX9_winsOf_36 : decode cX9_winsOf 36 = .ok (.getfield 176, 3) := by decide +kernel
theorem dX9_winsOf_39 : decode cX9_winsOf 39 = .ok (.if_icmp .ne 7, 3) := by decide +kernel
theorem dX9_winsOf_42 : decode cX9_winsOf 42 = .ok (.iconst 1, 1) := by decide +kernel
theorem dX9_winsOf_43 : decode cX9_winsOf 43 = .ok (.goto 4, 3) := by decide +kernel
theorem dX9_winsOf_46 : decode cX9_winsOf 46 = .ok (.iconst 0, 1) := by decide +kernel
theorem dX9_winsOf_47 : decode cX9_winsOf 47 = .ok (.iadd, 1) := by decide +kernel
theorem dX9_winsOf_48 : decode cX9_winsOf 48 = .ok (.istore_n 3, 1) := by decide +kernel
theorem dX9_winsOf_49 : decode cX9_winsOf 49 = .ok (.iinc 4 1, 3) := by decide +kernel
theorem dX9_winsOf_52 : decode cX9_winsOf 52 = .ok (.goto (-47), 3) := by decide +kernel
theorem dX9_winsOf_55 : decode cX9_winsOf 55 = .ok (.iload_n 3, 1) := by decide +kernel
theorem dX9_winsOf_56 : decode cX9_winsOf 56 = .ok (.ireturn, 1) := by decide +kernel
theorem dX9_sure_0 : decode cX9_sure 0 = .ok (.aload_n 0, 1) := by decide +kernel
theorem dX9_sure_1 : decode cX9_sure 1 = .ok (.iload_n 1, 1) := by decide +kernel
theorem dX9_sure_2 : decode cX9_sure 2 = .ok (.invokevirtual 217, 3) := by decide +kernel
theorem dX9_sure_5 : decode cX9_sure 5 = .ok (.ifCond .ne 6, 3) := by decide +kernel
theorem dX9_sure_8 : decode cX9_sure 8 = .ok (.bipush (-5), 2) := by decide +kernel
theorem dX9_sure_10 : decode cX9_sure 10 = .ok (.ireturn, 1) := by decide +kernel
theorem dX9_sure_11 : decode cX9_sure 11 = .ok (.iload_n 2, 1) := by decide +kernel
theorem dX9_sure_12 : decode cX9_sure 12 = .ok (.iconst 1, 1) := by decide +kernel
theorem dX9_sure_13 : decode cX9_sure 13 = .ok (.iconst 2, 1) := by decide +kernel
theorem dX9_sure_14 : decode cX9_sure 14 = .ok (.invokestatic 78, 3) := by decide +kernel
theorem dX9_sure_17 : decode cX9_sure 17 = .ok (.ifCond .eq 12, 3) := by decide +kernel
theorem dX9_sure_20 : decode cX9_sure 20 = .ok (.iload_n 3, 1) := by decide +kernel
theorem dX9_sure_21 : decode cX9_sure 21 = .ok (.iconst 0, 1) := by decide +kernel
theorem dX9_sure_22 : decode cX9_sure 22 = .ok (.iconst 1, 1) := by decide +kernel
theorem dX9_sure_23 : decode cX9_sure 23 = .ok (.invokestatic 78, 3) := by decide +kernel
theorem dX9_sure_26 : decode cX9_sure 26 = .ok (.ifCond .ne 6, 3) := by decide +kernel
theorem dX9_sure_29 : decode cX9_sure 29 = .ok (.bipush (-7), 2) := by decide +kernel
theorem dX9_sure_31 : decode cX9_sure 31 = .ok (.ireturn, 1) := by decide +kernel
theorem dX9_sure_32 : decode cX9_sure 32 = .ok (.aload_n 0, 1) := by decide +kernel
theorem dX9_sure_33 : decode cX9_sure 33 = .ok (.iload_n 1, 1) := by decide +kernel
theorem dX9_sure_34 : decode cX9_sure 34 = .ok (.bipush 10, 2) := by decide +kernel
theorem dX9_sure_36 : decode cX9_sure 36 = .ok (.idiv, 1) := by decide +kernel
theorem dX9_sure_37 : decode cX9_sure 37 = .ok (.iload_n 1, 1) := by decide +kernel
theorem dX9_sure_38 : decode cX9_sure 38 = .ok (.bipush 10, 2) := by decide +kernel
theorem dX9_sure_40 : decode cX9_sure 40 = .ok (.irem, 1) := by decide +kernel
theorem dX9_sure_41 : decode cX9_sure 41 = .ok (.invokevirtual 210, 3) := by decide +kernel
theorem dX9_sure_44 : decode cX9_sure 44 = .ok (.iconst (-1), 1) := by decide +kernel
theorem dX9_sure_45 : decode cX9_sure 45 = .ok (.istore 4, 2) := by decide +kernel
theorem dX9_sure_47 : decode cX9_sure 47 = .ok (.iconst (-1), 1) := by decide +kernel
theorem dX9_sure_48 : decode cX9_sure 48 = .ok (.istore 5, 2) := by decide +kernel
theorem dX9_sure_50 : decode cX9_sure 50 = .ok (.iconst 0, 1) := by decide +kernel
theorem dX9_sure_51 : decode cX9_sure 51 = .ok (.istore 6, 2) := by decide +kernel
theorem dX9_sure_53 : decode cX9_sure 53 = .ok (.iload 6, 2) := by decide +kernel
theorem dX9_sure_55 : decode cX9_sure 55 = .ok (.iconst 1, 1) := by decide +kernel
theorem dX9_sure_56 : decode cX9_sure 56 = .ok (.iconst 2, 1) := by decide +kernel
theorem dX9_sure_57 : decode cX9_sure 57 = .ok (.iload_n 2, 1) := by decide +kernel
theorem dX9_sure_58 : decode cX9_sure 58 = .ok (.imul, 1) := by decide +kernel
theorem dX9_sure_59 : decode cX9_sure 59 = .ok (.ishl, 1) := by decide +kernel
theorem dX9_sure_60 : decode cX9_sure 60 = .ok (.if_icmp .ge 50, 3) := by decide +kernel
theorem dX9_sure_63 : decode cX9_sure 63 = .ok (.aload_n 0, 1) := by decide +kernel
theorem dX9_sure_64 : decode cX9_sure 64 = .ok (.iload 6, 2) := by decide +kernel
theorem dX9_sure_66 : decode cX9_sure 66 = .ok (.iload_n 2, 1) := by decide +kernel
theorem dX9_sure_67 : decode cX9_sure 67 = .ok (.invokevirtual 233, 3) := by decide +kernel
theorem dX9_sure_70 : decode cX9_sure 70 = .ok (.istore 7, 2) := by decide +kernel
theorem dX9_sure_72 : decode cX9_sure 72 = .ok (.iload 7, 2) := by decide +kernel
theorem dX9_sure_74 : decode cX9_sure 74 = .ok (.iload 5, 2) := by decide +kernel
theorem dX9_sure_76 : decode cX9_sure 76 = .ok (.if_icmp .le 8, 3) := by decide +kernel
theorem dX9_sure_79 : decode cX9_sure 79 = .ok (.iload 6, 2) := by decide +kernel
theorem dX9_sure_81 : decode cX9_sure 81 = .ok (.goto 5, 3) := by decide +kernel
theorem dX9_sure_84 : decode cX9_sure 84 = .ok (.iload 4, 2) := by decide +kernel
theorem dX9_sure_86 : decode cX9_sure 86 = .ok (.istore 4, 2) := by decide +kernel
theorem dX9_sure_88 : decode cX9_sure 88 = .ok (.iload 7, 2) := by decide +kernel
theorem dX9_sure_90 : decode cX9_sure 90 = .ok (.iload 5, 2) := by decide +kernel
theorem dX9_sure_92 : decode cX9_sure 92 = .ok (.if_icmp .le 8, 3) := by decide +kernel
theorem dX9_sure_95 : decode cX9_sure 95 = .ok (.iload 7, 2) := by decide +kernel
theorem dX9_sure_97 : decode cX9_sure 97 = .ok (.goto 5, 3) := by decide +kernel
theorem dX9_sure_100 : decode cX9_sure 100 = .ok (.iload 5, 2) := by decide +kernel
theorem dX9_sure_102 : decode cX9_sure 102 = .ok (.istore 5, 2) := by decide +kernel
theorem dX9_sure_104 : decode cX9_sure 104 = .ok (.iinc 6 1, 3) := by decide +kernel
theorem dX9_sure_107 : decode cX9_sure 107 = .ok (.goto (-54), 3) := by decide +kernel
theorem dX9_sure_110 : decode cX9_sure 110 = .ok (.iload_n 3, 1) := by decide +kernel
theorem dX9_sure_111 : decode cX9_sure 111 = .ok (.ifCond .ne 8, 3) := by decide +kernel
theorem dX9_sure_114 : decode cX9_sure 114 = .ok (.iload 4, 2) := by decide +kernel
theorem dX9_sure_116 : decode cX9_sure 116 = .ok (.goto 5, 3) := by decide +kernel
theorem dX9_sure_119 : decode cX9_sure 119 = .ok (.iload 5, 2) := by decide +kernel
theorem dX9_sure_121 : decode cX9_sure 121 = .ok (.ireturn, 1) := by decide +kernel
theorem dX9_lowest_0 : decode cX9_lowest 0 = .ok (.lload_n 0, 1) := by decide +kernel
theorem dX9_lowest_1 : decode cX9_lowest 1 = .ok (.lconst 0, 1) := by decide +kernel
theorem dX9_lowest_2 : decode cX9_lowest 2 = .ok (.lcmp, 1) := by decide +kernel
theorem dX9_lowest_3 : decode cX9_lowest 3 = .ok (.ifCond .ne 7, 3) := by decide +kernel
theorem dX9_lowest_6 : decode cX9_lowest 6 = .ok (.iload 4, 2) := by decide +kernel
theorem dX9_lowest_8 : decode cX9_lowest 8 = .ok (.i2l, 1) := by decide +kernel
theorem dX9_lowest_9 : decode cX9_lowest 9 = .ok (.lreturn, 1) := by decide +kernel
theorem dX9_lowest_10 : decode cX9_lowest 10 = .ok (.lload_n 0, 1) := by decide +kernel
theorem dX9_lowest_11 : decode cX9_lowest 11 = .ok (.lstore 5, 2) := by decide +kernel
theorem dX9_lowest_13 : decode cX9_lowest 13 = .ok (.lload_n 2, 1) := by decide +kernel
theorem dX9_lowest_14 : decode cX9_lowest 14 = .ok (.lstore 7, 2) := by decide +kernel
theorem dX9_lowest_16 : decode cX9_lowest 16 = .ok (.lload 7, 2) := by decide +kernel
theorem dX9_lowest_18 : decode cX9_lowest 18 = .ok (.lconst 0, 1) := by decide +kernel
theorem dX9_lowest_19 : decode cX9_lowest 19 = .ok (.lcmp, 1) := by decide +kernel
theorem dX9_lowest_20 : decode cX9_lowest 20 = .ok (.ifCond .eq 21, 3) := by decide +kernel
theorem dX9_lowest_23 : decode cX9_lowest 23 = .ok (.lload 5, 2) := by decide +kernel
theorem dX9_lowest_25 : decode cX9_lowest 25 = .ok (.lload 7, 2) := by decide +kernel
theorem dX9_lowest_27 : decode cX9_lowest 27 = .ok (.lrem, 1) := by decide +kernel
theorem dX9_lowest_28 : decode cX9_lowest 28 = .ok (.lstore 9, 2) := by decide +kernel
theorem dX9_lowest_30 : decode cX9_lowest 30 = .ok (.lload 7, 2) := by decide +kernel
theorem dX9_lowest_32 : decode cX9_lowest 32 = .ok (.lstore 5, 2) := by decide +kernel
theorem dX9_lowest_34 : decode cX9_lowest 34 = .ok (.lload 9, 2) := by decide +kernel
theorem dX9_lowest_36 : decode cX9_lowest 36 = .ok (.lstore 7, 2) := by decide +kernel
theorem dX9_lowest_38 : decode cX9_lowest 38 = .ok (.goto (-22), 3) := by decide +kernel
theorem dX9_lowest_41 : decode cX9_lowest 41 = .ok (.iload 4, 2) := by decide +kernel
theorem dX9_lowest_43 : decode cX9_lowest 43 = .ok (.ifCond .ne 7, 3) := by decide +kernel
theorem dX9_lowest_46 : decode cX9_lowest 46 = .ok (.lload_n 0, 1) := by decide +kernel
theorem dX9_lowest_47 : decode cX9_lowest 47 = .ok (.goto 4, 3) := by decide +kernel
theorem dX9_lowest_50 : decode cX9_lowest 50 = .ok (.lload_n 2, 1) := by decide +kernel
theorem dX9_lowest_51 : decode cX9_lowest 51 = .ok (.lload 5, 2) := by decide +kernel
theorem dX9_lowest_53 : decode cX9_lowest 53 = .ok (.ldiv, 1) := by decide +kernel
theorem dX9_lowest_54 : decode cX9_lowest 54 = .ok (.lreturn, 1) := by decide +kernel
theorem dX9_chance_0 : decode cX9_chance 0 = .ok (.aload_n 0, 1) := by decide +kernel
theorem dX9_chance_1 : decode cX9_chance 1 = .ok (.iload_n 1, 1) := by decide +kernel
theorem dX9_chance_2 : decode cX9_chance 2 = .ok (.invokevirtual 217, 3) := by decide +kernel
theorem dX9_chance_5 : decode cX9_chance 5 = .ok (.ifCond .eq 21, 3) := by decide +kernel
theorem dX9_chance_8 : decode cX9_chance 8 = .ok (.iload_n 2, 1) := by decide +kernel
theorem dX9_chance_9 : decode cX9_chance 9 = .ok (.iconst 1, 1) := by decide +kernel
theorem dX9_chance_10 : decode cX9_chance 10 = .ok (.iconst 2, 1) := by decide +kernel
theorem dX9_chance_11 : decode cX9_chance 11 = .ok (.invokestatic 78, 3) := by decide +kernel
theorem dX9_chance_14 : decode cX9_chance 14 = .ok (.ifCond .eq 12, 3) := by decide +kernel
theorem dX9_chance_17 : decode cX9_chance 17 = .ok (.iload_n 3, 1) := by decide +kernel
theorem dX9_chance_18 : decode cX9_chance 18 = .ok (.iconst 0, 1) := by decide +kernel
theorem dX9_chance_19 : decode cX9_chance 19 = .ok (.iconst 1, 1) := by decide +kernel
theorem dX9_chance_20 : decode cX9_chance 20 = .ok (.invokestatic 78, 3) := by decide +kernel
theorem dX9_chance_23 : decode cX9_chance 23 = .ok (.ifCond .ne 7, 3) := by decide +kernel
theorem dX9_chance_26 : decode cX9_chance 26 = .ok (.ldc2_w 236, 3) := by decide +kernel
theorem dX9_chance_29 : decode cX9_chance 29 = .ok (.lreturn, 1) := by decide +kernel
theorem dX9_chance_30 : decode cX9_chance 30 = .ok (.aload_n 0, 1) := by decide +kernel
theorem dX9_chance_31 : decode cX9_chance 31 = .ok (.iload_n 1, 1) := by decide +kernel
theorem dX9_chance_32 : decode cX9_chance 32 = .ok (.bipush 10, 2) := by decide +kernel
theorem dX9_chance_34 : decode cX9_chance 34 = .ok (.idiv, 1) := by decide +kernel
theorem dX9_chance_35 : decode cX9_chance 35 = .ok (.iload_n 1, 1) := by decide +kernel
theorem dX9_chance_36 : decode cX9_chance 36 = .ok (.bipush 10, 2) := by decide +kernel
theorem dX9_chance_38 : decode cX9_chance 38 = .ok (.irem, 1) := by decide +kernel
theorem dX9_chance_39 : decode cX9_chance 39 = .ok (.invokevirtual 210, 3) := by decide +kernel
theorem dX9_chance_42 : decode cX9_chance 42 = .ok (.lconst 0, 1) := by decide +kernel
theorem dX9_chance_43 : decode cX9_chance 43 = .ok (.lstore 4, 2) := by decide +kernel
theorem dX9_chance_45 : decode cX9_chance 45 = .ok (.iconst 0, 1) := by decide +kernel
theorem dX9_chance_46 : decode cX9_chance 46 = .ok (.istore 6, 2) := by decide +kernel
theorem dX9_chance_48 : decode cX9_chance 48 = .ok (.iload 6, 2) := by decide +kernel
theorem dX9_chance_50 : decode cX9_chance 50 = .ok (.iconst 1, 1) := by decide +kernel
theorem dX9_chance_51 : decode cX9_chance 51 = .ok (.iconst 2, 1) := by decide +kernel
theorem dX9_chance_52 : decode cX9_chance 52 = .ok (.iload_n 2, 1) := by decide +kernel
theorem dX9_chance_53 : decode cX9_chance 53 = .ok (.imul, 1) := by decide +kernel
theorem dX9_chance_54 : decode cX9_chance 54 = .ok (.ishl, 1) := by decide +kernel
theorem dX9_chance_55 : decode cX9_chance 55 = .ok (.if_icmp .ge 22, 3) := by decide +kernel
theorem dX9_chance_58 : decode cX9_chance 58 = .ok (.lload 4, 2) := by decide +kernel
theorem dX9_chance_60 : decode cX9_chance 60 = .ok (.aload_n 0, 1) := by decide +kernel
theorem dX9_chance_61 : decode cX9_chance 61 = .ok (.iload 6, 2) := by decide +kernel
theorem dX9_chance_63 : decode cX9_chance 63 = .ok (.iload_n 2, 1) := by decide +kernel
theorem dX9_chance_64 : decode cX9_chance 64 = .ok (.invokevirtual 233, 3) := by decide +kernel
theorem dX9_chance_67 : decode cX9_chance 67 = .ok (.i2l, 1) := by decide +kernel
theorem dX9_chance_68 : decode cX9_chance 68 = .ok (.ladd, 1) := by decide +kernel
theorem dX9_chance_69 : decode cX9_chance 69 = .ok (.lstore 4, 2) := by decide +kernel
theorem dX9_chance_71 : decode cX9_chance 71 = .ok (.iinc 6 1, 3) := by decide +kernel
theorem dX9_chance_74 : decode cX9_chance 74 = .ok (.goto (-26), 3) := by decide +kernel
theorem dX9_chance_77 : decode cX9_chance 77 = .ok (.lload 4, 2) := by decide +kernel
theorem dX9_chance_79 : decode cX9_chance 79 = .ok (.lconst 1, 1) := by decide +kernel
theorem dX9_chance_80 : decode cX9_chance 80 = .ok (.iconst 4, 1) := by decide +kernel
theorem dX9_chance_81 : decode cX9_chance 81 = .ok (.iload_n 2, 1) := by decide +kernel
theorem dX9_chance_82 : decode cX9_chance 82 = .ok (.imul, 1) := by decide +kernel
theorem dX9_chance_83 : decode cX9_chance 83 = .ok (.lshl, 1) := by decide +kernel
theorem dX9_chance_84 : decode cX9_chance 84 = .ok (.iload_n 3, 1) := by decide +kernel
theorem dX9_chance_85 : decode cX9_chance 85 = .ok (.invokestatic 238, 3) := by decide +kernel
theorem dX9_chance_88 : decode cX9_chance 88 = .ok (.lreturn, 1) := by decide +kernel
theorem dX9_knees_0 : decode cX9_knees 0 = .ok (.aload_n 0, 1) := by decide +kernel
theorem dX9_knees_1 : decode cX9_knees 1 = .ok (.iload_n 1, 1) := by decide +kernel
theorem dX9_knees_2 : decode cX9_knees 2 = .ok (.invokevirtual 217, 3) := by decide +kernel
theorem dX9_knees_5 : decode cX9_knees 5 = .ok (.ifCond .ne 6, 3) := by decide +kernel
theorem dX9_knees_8 : decode cX9_knees 8 = .ok (.bipush (-5), 2) := by decide +kernel
theorem dX9_knees_10 : decode cX9_knees 10 = .ok (.ireturn, 1) := by decide +kernel
theorem dX9_knees_11 : decode cX9_knees 11 = .ok (.iload_n 2, 1) := by decide +kernel
theorem dX9_knees_12 : decode cX9_knees 12 = .ok (.invokestatic 220, 3) := by decide +kernel
theorem dX9_knees_15 : decode cX9_knees 15 = .ok (.ifCond .eq 10, 3) := by decide +kernel
theorem dX9_knees_18 : decode cX9_knees 18 = .ok (.iload_n 3, 1) := by decide +kernel
theorem dX9_knees_19 : decode cX9_knees 19 = .ok (.invokestatic 220, 3) := by decide +kernel
theorem dX9_knees_22 : decode cX9_knees 22 = .ok (.ifCond .ne 6, 3) := by decide +kernel
theorem dX9_knees_25 : decode cX9_knees 25 = .ok (.bipush (-7), 2) := by decide +kernel
theorem dX9_knees_27 : decode cX9_knees 27 = .ok (.ireturn, 1) := by decide +kernel
theorem dX9_knees_28 : decode cX9_knees 28 = .ok (.iconst 5, 1) := by decide +kernel
theorem dX9_knees_29 : decode cX9_knees 29 = .ok (.iload_n 1, 1) := by decide +kernel
theorem dX9_knees_30 : decode cX9_knees 30 = .ok (.bipush 10, 2) := by decide +kernel
theorem dX9_knees_32 : decode cX9_knees 32 = .ok (.idiv, 1) := by decide +kernel
theorem dX9_knees_33 : decode cX9_knees 33 = .ok (.imul, 1) := by decide +kernel
theorem dX9_knees_34 : decode cX9_knees 34 = .ok (.iconst 2, 1) := by decide +kernel
theorem dX9_knees_35 : decode cX9_knees 35 = .ok (.iadd, 1) := by decide +kernel
theorem dX9_knees_36 : decode cX9_knees 36 = .ok (.istore 4, 2) := by decide +kernel
theorem dX9_knees_38 : decode cX9_knees 38 = .ok (.aload_n 0, 1) := by decide +kernel
theorem dX9_knees_39 : decode cX9_knees 39 = .ok (.getfield 16, 3) := by decide +kernel
theorem dX9_knees_42 : decode cX9_knees 42 = .ok (.iload 4, 2) := by decide +kernel
theorem dX9_knees_44 : decode cX9_knees 44 = .ok (.iaload, 1) := by decide +kernel
theorem dX9_knees_45 : decode cX9_knees 45 = .ok (.istore 5, 2) := by decide +kernel
theorem dX9_knees_47 : decode cX9_knees 47 = .ok (.iconst (-1), 1) := by decide +kernel
theorem dX9_knees_48 : decode cX9_knees 48 = .ok (.istore 6, 2) := by decide +kernel
theorem dX9_knees_50 : decode cX9_knees 50 = .ok (.iconst 0, 1) := by decide +kernel
theorem dX9_knees_51 : decode cX9_knees 51 = .ok (.istore 7, 2) := by decide +kernel
theorem dX9_knees_53 : decode cX9_knees 53 = .ok (.iload 7, 2) := by decide +kernel
theorem dX9_knees_55 : decode cX9_knees 55 = .ok (.bipush 9, 2) := by decide +kernel
theorem dX9_knees_57 : decode cX9_knees 57 = .ok (.if_icmp .gt 57, 3) := by decide +kernel
theorem dX9_knees_60 : decode cX9_knees 60 = .ok (.iload 6, 2) := by decide +kernel
theorem dX9_knees_62 : decode cX9_knees 62 = .ok (.iconst (-1), 1) := by decide +kernel
theorem dX9_knees_63 : decode cX9_knees 63 = .ok (.if_icmp .ne 51, 3) := by decide +kernel
theorem dX9_knees_66 : decode cX9_knees 66 = .ok (.aload_n 0, 1) := by decide +kernel
theorem dX9_knees_67 : decode cX9_knees 67 = .ok (.getfield 16, 3) := by decide +kernel
theorem dX9_knees_70 : decode cX9_knees 70 = .ok (.iload 4, 2) := by decide +kernel
theorem dX9_knees_72 : decode cX9_knees 72 = .ok (.iload 7, 2) := by decide +kernel
theorem dX9_knees_74 : decode cX9_knees 74 = .ok (.iastore, 1) := by decide +kernel
theorem dX9_knees_75 : decode cX9_knees 75 = .ok (.aload_n 0, 1) := by decide +kernel
theorem dX9_knees_76 : decode cX9_knees 76 = .ok (.iload_n 1, 1) := by decide +kernel
theorem dX9_knees_77 : decode cX9_knees 77 = .ok (.bipush 10, 2) := by decide +kernel
theorem dX9_knees_79 : decode cX9_knees 79 = .ok (.idiv, 1) := by decide +kernel
theorem dX9_knees_80 : decode cX9_knees 80 = .ok (.iload_n 1, 1) := by decide +kernel
theorem dX9_knees_81 : decode cX9_knees 81 = .ok (.bipush 10, 2) := by decide +kernel
theorem dX9_knees_83 : decode cX9_knees 83 = .ok (.irem, 1) := by decide +kernel
theorem dX9_knees_84 : decode cX9_knees 84 = .ok (.iload_n 2, 1) := by decide +kernel
theorem dX9_knees_85 : decode cX9_knees 85 = .ok (.iload_n 3, 1) := by decide +kernel
theorem dX9_knees_86 : decode cX9_knees 86 = .ok (.invokevirtual 223, 3) := by decide +kernel
theorem dX9_knees_89 : decode cX9_knees 89 = .ok (.aload_n 0, 1) := by decide +kernel
theorem dX9_knees_90 : decode cX9_knees 90 = .ok (.getfield 201, 3) := by decide +kernel
theorem dX9_knees_93 : decode cX9_knees 93 = .ok (.aload_n 0, 1) := by decide +kernel
theorem dX9_knees_94 : decode cX9_knees 94 = .ok (.getfield 179, 3) := by decide +kernel
theorem dX9_knees_97 : decode cX9_knees 97 = .ok (.if_icmp .ne 8, 3) := by decide +kernel
theorem dX9_knees_100 : decode cX9_knees 100 = .ok (.iload 7, 2) := by decide +kernel
theorem dX9_knees_102 : decode cX9_knees 102 = .ok (.goto 4, 3) := by decide +kernel
theorem dX9_knees_105 : decode cX9_knees 105 = .ok (.iconst (-1), 1) := by decide +kernel
theorem dX9_knees_106 : decode cX9_knees 106 = .ok (.istore 6, 2) := by decide +kernel
theorem dX9_knees_108 : decode cX9_knees 108 = .ok (.iinc 7 1, 3) := by decide +kernel
theorem dX9_knees_111 : decode cX9_knees 111 = .ok (.goto (-58), 3) := by decide +kernel
theorem dX9_knees_114 : decode cX9_knees 114 = .ok (.aload_n 0, 1) := by decide +kernel
theorem dX9_knees_115 : decode cX9_knees 115 = .ok (.getfield 16, 3) := by decide +kernel
theorem dX9_knees_118 : decode cX9_knees 118 = .ok (.iload 4, 2) := by decide +kernel
theorem dX9_knees_120 : decode cX9_knees 120 = .ok (.iload 5, 2) := by decide +kernel
theorem dX9_knees_122 : decode cX9_knees 122 = .ok (.iastore, 1) := by decide +kernel
theorem dX9_knees_123 : decode cX9_knees 123 = .ok (.iload 6, 2) := by decide +kernel
theorem dX9_knees_125 : decode cX9_knees 125 = .ok (.ireturn, 1) := by decide +kernel
theorem dX9_beats_0 : decode cX9_beats 0 = .ok (.aload_n 0, 1) := by decide +kernel
theorem dX9_beats_1 : decode cX9_beats 1 = .ok (.iload_n 1, 1) := by decide +kernel
theorem dX9_beats_2 : decode cX9_beats 2 = .ok (.invokevirtual 82, 3) := by decide +kernel
theorem dX9_beats_5 : decode cX9_beats 5 = .ok (.ifCond .ne 6, 3) := by decide +kernel
theorem dX9_beats_8 : decode cX9_beats 8 = .ok (.bipush (-5), 2) := by decide +kernel
theorem dX9_beats_10 : decode cX9_beats 10 = .ok (.ireturn, 1) := by decide +kernel
theorem dX9_beats_11 : decode cX9_beats 11 = .ok (.iload_n 2, 1) := by decide +kernel
theorem dX9_beats_12 : decode cX9_beats 12 = .ok (.invokestatic 220, 3) := by decide +kernel
theorem dX9_beats_15 : decode cX9_beats 15 = .ok (.ifCond .eq 10, 3) := by decide +kernel
theorem dX9_beats_18 : decode cX9_beats 18 = .ok (.iload_n 3, 1) := by decide +kernel
theorem dX9_beats_19 : decode cX9_beats 19 = .ok (.invokestatic 220, 3) := by decide +kernel
theorem dX9_beats_22 : decode cX9_beats 22 = .ok (.ifCond .ne 6, 3) := by decide +kernel
theorem dX9_beats_25 : decode cX9_beats 25 = .ok (.bipush (-7), 2) := by decide +kernel
theorem dX9_beats_27 : decode cX9_beats 27 = .ok (.ireturn, 1) := by decide +kernel
theorem dX9_beats_28 : decode cX9_beats 28 = .ok (.iconst 0, 1) := by decide +kernel
theorem dX9_beats_29 : decode cX9_beats 29 = .ok (.istore 4, 2) := by decide +kernel
theorem dX9_beats_31 : decode cX9_beats 31 = .ok (.iconst 0, 1) := by decide +kernel
theorem dX9_beats_32 : decode cX9_beats 32 = .ok (.istore 5, 2) := by decide +kernel
theorem dX9_beats_34 : decode cX9_beats 34 = .ok (.iload 5, 2) := by decide +kernel
theorem dX9_beats_36 : decode cX9_beats 36 = .ok (.aload_n 0, 1) := by decide +kernel
theorem dX9_beats_37 : decode cX9_beats 37 = .ok (.getfield 75, 3) := by decide +kernel
theorem dX9_beats_40 : decode cX9_beats 40 = .ok (.if_icmp .ge 45, 3) := by decide +kernel
theorem dX9_beats_43 : decode cX9_beats 43 = .ok (.iload 5, 2) := by decide +kernel
theorem dX9_beats_45 : decode cX9_beats 45 = .ok (.iload_n 1, 1) := by decide +kernel
theorem dX9_beats_46 : decode cX9_beats 46 = .ok (.if_icmp .eq 33, 3) := by decide +kernel
theorem dX9_beats_49 : decode cX9_beats 49 = .ok (.aload_n 0, 1) := by decide +kernel
theorem dX9_beats_50 : decode cX9_beats 50 = .ok (.iload_n 1, 1) := by decide +kernel
theorem dX9_beats_51 : decode cX9_beats 51 = .ok (.iload 5, 2) := by decide +kernel
theorem dX9_beats_53 : decode cX9_beats 53 = .ok (.iload_n 2, 1) := by decide +kernel
theorem dX9_beats_54 : decode cX9_beats 54 = .ok (.iload_n 3, 1) := by decide +kernel
theorem dX9_beats_55 : decode cX9_beats 55 = .ok (.invokevirtual 223, 3) := by decide +kernel
theorem dX9_beats_58 : decode cX9_beats 58 = .ok (.iload 4, 2) := by decide +kernel
theorem dX9_beats_60 : decode cX9_beats 60 = .ok (.aload_n 0, 1) := by decide +kernel
theorem dX9_beats_61 : decode cX9_beats 61 = .ok (.getfield 201, 3) := by decide +kernel
theorem dX9_beats_64 : decode cX9_beats 64 = .ok (.iload_n 1, 1) := by decide +kernel
theorem dX9_beats_65 : decode cX9_beats 65 = .ok (.if_icmp .ne 10, 3) := by decide +kernel
theorem dX9_beats_68 : decode cX9_beats 68 = .ok (.iconst 1, 1) := by decide +kernel
theorem dX9_beats_69 : decode cX9_beats 69 = .ok (.iload 5, 2) := by decide +kernel
theorem dX9_beats_71 : decode cX9_beats 71 = .ok (.ishl, 1) := by decide +kernel
theorem dX9_beats_72 : decode cX9_beats 72 = .ok (.goto 4, 3) := by decide +kernel
theorem dX9_beats_75 : decode cX9_beats 75 = .ok (.iconst 0, 1) := by decide +kernel
theorem dX9_beats_76 : decode cX9_beats 76 = .ok (.ior, 1) := by decide +kernel
theorem dX9_beats_77 : decode cX9_beats 77 = .ok (.istore 4, 2) := by decide +kernel
theorem dX9_beats_79 : decode cX9_beats 79 = .ok (.iinc 5 1, 3) := by decide +kernel
theorem dX9_beats_82 : decode cX9_beats 82 = .ok (.goto (-48), 3) := by decide +kernel
theorem dX9_beats_85 : decode cX9_beats 85 = .ok (.iload 4, 2) := by decide +kernel
theorem dX9_beats_87 : decode cX9_beats 87 = .ok (.ireturn, 1) := by decide +kernel
theorem dX9_plansWrong_0 : decode cX9_plansWrong 0 = .ok (.iload_n 1, 1) := by decide +kernel
theorem dX9_plansWrong_1 : decode cX9_plansWrong 1 = .ok (.iconst 0, 1) := by decide +kernel
theorem dX9_plansWrong_2 : decode cX9_plansWrong 2 = .ok (.iconst 3, 1) := by decide +kernel
theorem dX9_plansWrong_3 : decode cX9_plansWrong 3 = .ok (.invokestatic 78, 3) := by decide +kernel
theorem dX9_plansWrong_6 : decode cX9_plansWrong 6 = .ok (.ifCond .ne 6, 3) := by decide +kernel
theorem dX9_plansWrong_9 : decode cX9_plansWrong 9 = .ok (.bipush (-2), 2) := by decide +kernel
theorem dX9_plansWrong_11 : decode cX9_plansWrong 11 = .ok (.ireturn, 1) := by decide +kernel
theorem dX9_plansWrong_12 : decode cX9_plansWrong 12 = .ok (.aload_n 0, 1) := by decide +kernel
theorem dX9_plansWrong_13 : decode cX9_plansWrong 13 = .ok (.getfield 34, 3) := by decide +kernel
theorem dX9_plansWrong_16 : decode cX9_plansWrong 16 = .ok (.iload_n 1, 1) := by decide +kernel
theorem dX9_plansWrong_17 : decode cX9_plansWrong 17 = .ok (.iaload, 1) := by decide +kernel
theorem dX9_plansWrong_18 : decode cX9_plansWrong 18 = .ok (.iconst (-1), 1) := by decide +kernel
theorem dX9_plansWrong_19 : decode cX9_plansWrong 19 = .ok (.if_icmp .ne 6, 3) := by decide +kernel
theorem dX9_plansWrong_22 : decode cX9_plansWrong 22 = .ok (.bipush (-11), 2) := by decide +kernel
theorem dX9_plansWrong_24 : decode cX9_plansWrong 24 = .ok (.ireturn, 1) := by decide +kernel
theorem dX9_plansWrong_25 : decode cX9_plansWrong 25 = .ok (.aload_n 0, 1) := by decide +kernel
theorem dX9_plansWrong_26 : decode cX9_plansWrong 26 = .ok (.getfield 37, 3) := by decide +kernel
theorem dX9_plansWrong_29 : decode cX9_plansWrong 29 = .ok (.iload_n 1, 1) := by decide +kernel
theorem dX9_plansWrong_30 : decode cX9_plansWrong 30 = .ok (.iaload, 1) := by decide +kernel
theorem dX9_plansWrong_31 : decode cX9_plansWrong 31 = .ok (.aload_n 0, 1) := by decide +kernel
theorem dX9_plansWrong_32 : decode cX9_plansWrong 32 = .ok (.getfield 75, 3) := by decide +kernel
theorem dX9_plansWrong_35 : decode cX9_plansWrong 35 = .ok (.if_icmp .ne 7, 3) := by decide +kernel
theorem dX9_plansWrong_38 : decode cX9_plansWrong 38 = .ok (.iconst 1, 1) := by decide +kernel
theorem dX9_plansWrong_39 : decode cX9_plansWrong 39 = .ok (.goto 4, 3) := by decide +kernel
theorem dX9_plansWrong_42 : decode cX9_plansWrong 42 = .ok (.iconst 0, 1) := by decide +kernel
theorem dX9_plansWrong_43 : decode cX9_plansWrong 43 = .ok (.istore_n 2, 1) := by decide +kernel
theorem dX9_plansWrong_44 : decode cX9_plansWrong 44 = .ok (.iconst 0, 1) := by decide +kernel
theorem dX9_plansWrong_45 : decode cX9_plansWrong 45 = .ok (.istore_n 3, 1) := by decide +kernel
theorem dX9_plansWrong_46 : decode cX9_plansWrong 46 = .ok (.iload_n 3, 1) := by decide +kernel
theorem dX9_plansWrong_47 : decode cX9_plansWrong 47 = .ok (.aload_n 0, 1) := by decide +kernel
theorem dX9_plansWrong_48 : decode cX9_plansWrong 48 = .ok (.getfield 37, 3) := by decide +kernel
theorem dX9_plansWrong_51 : decode cX9_plansWrong 51 = .ok (.iload_n 1, 1) := by decide +kernel
theorem dX9_plansWrong_52 : decode cX9_plansWrong 52 = .ok (.iaload, 1) := by decide +kernel
theorem dX9_plansWrong_53 : decode cX9_plansWrong 53 = .ok (.if_icmp .ge 26, 3) := by decide +kernel
theorem dX9_plansWrong_56 : decode cX9_plansWrong 56 = .ok (.iload_n 2, 1) := by decide +kernel
theorem dX9_plansWrong_57 : decode cX9_plansWrong 57 = .ok (.aload_n 0, 1) := by decide +kernel
theorem dX9_plansWrong_58 : decode cX9_plansWrong 58 = .ok (.getfield 40, 3) := by decide +kernel
theorem dX9_plansWrong_61 : decode cX9_plansWrong 61 = .ok (.bipush 40, 2) := by decide +kernel
theorem dX9_plansWrong_63 : decode cX9_plansWrong 63 = .ok (.iload_n 1, 1) := by decide +kernel
theorem dX9_plansWrong_64 : decode cX9_plansWrong 64 = .ok (.imul, 1) := by decide +kernel
theorem dX9_plansWrong_65 : decode cX9_plansWrong 65 = .ok (.iload_n 3, 1) := by decide +kernel
theorem dX9_plansWrong_66 : decode cX9_plansWrong 66 = .ok (.iadd, 1) := by decide +kernel
theorem dX9_plansWrong_67 : decode cX9_plansWrong 67 = .ok (.iaload, 1) := by decide +kernel
theorem dX9_plansWrong_68 : decode cX9_plansWrong 68 = .ok (.invokestatic 220, 3) := by decide +kernel
theorem dX9_plansWrong_71 : decode cX9_plansWrong 71 = .ok (.iand, 1) := by decide +kernel
theorem dX9_plansWrong_72 : decode cX9_plansWrong 72 = .ok (.istore_n 2, 1) := by decide +kernel
theorem dX9_plansWrong_73 : decode cX9_plansWrong 73 = .ok (.iinc 3 1, 3) := by decide +kernel
theorem dX9_plansWrong_76 : decode cX9_plansWrong 76 = .ok (.goto (-30), 3) := by decide +kernel
theorem dX9_plansWrong_79 : decode cX9_plansWrong 79 = .ok (.iload_n 2, 1) := by decide +kernel
theorem dX9_plansWrong_80 : decode cX9_plansWrong 80 = .ok (.ifCond .eq 7, 3) := by decide +kernel
theorem dX9_plansWrong_83 : decode cX9_plansWrong 83 = .ok (.iconst 0, 1) := by decide +kernel
theorem dX9_plansWrong_84 : decode cX9_plansWrong 84 = .ok (.goto 5, 3) := by decide +kernel
theorem dX9_plansWrong_87 : decode cX9_plansWrong 87 = .ok (.bipush (-2), 2) := by decide +kernel
theorem dX9_plansWrong_89 : decode cX9_plansWrong 89 = .ok (.ireturn, 1) := by decide +kernel
theorem dX9_daysOf_0 : decode cX9_daysOf 0 = .ok (.iconst 0, 1) := by decide +kernel
theorem dX9_daysOf_1 : decode cX9_daysOf 1 = .ok (.istore_n 3, 1) := by decide +kernel
theorem dX9_daysOf_2 : decode cX9_daysOf 2 = .ok (.iload_n 3, 1) := by decide +kernel
theorem dX9_daysOf_3 : decode cX9_daysOf 3 = .ok (.iload_n 2, 1) := by decide +kernel
theorem dX9_daysOf_4 : decode cX9_daysOf 4 = .ok (.if_icmp .ge 80, 3) := by decide +kernel
theorem dX9_daysOf_7 : decode cX9_daysOf 7 = .ok (.iconst 0, 1) := by decide +kernel
theorem dX9_daysOf_8 : decode cX9_daysOf 8 = .ok (.istore 4, 2) := by decide +kernel
theorem dX9_daysOf_10 : decode cX9_daysOf 10 = .ok (.iload 4, 2) := by decide +kernel
theorem dX9_daysOf_12 : decode cX9_daysOf 12 = .ok (.aload_n 0, 1) := by decide +kernel
theorem dX9_daysOf_13 : decode cX9_daysOf 13 = .ok (.getfield 75, 3) := by decide +kernel
theorem dX9_daysOf_16 : decode cX9_daysOf 16 = .ok (.if_icmp .ge 62, 3) := by decide +kernel
theorem dX9_daysOf_19 : decode cX9_daysOf 19 = .ok (.iload 4, 2) := by decide +kernel
theorem dX9_daysOf_21 : decode cX9_daysOf 21 = .ok (.iconst 1, 1) := by decide +kernel
theorem dX9_daysOf_22 : decode cX9_daysOf 22 = .ok (.iadd, 1) := by decide +kernel
theorem dX9_daysOf_23 : decode cX9_daysOf 23 = .ok (.istore 5, 2) := by decide +kernel
theorem dX9_daysOf_25 : decode cX9_daysOf 25 = .ok (.iload 5, 2) := by decide +kernel
theorem dX9_daysOf_27 : decode cX9_daysOf 27 = .ok (.aload_n 0, 1) := by decide +kernel
theorem dX9_daysOf_28 : decode cX9_daysOf 28 = .ok (.getfield 75, 3) := by decide +kernel
theorem dX9_daysOf_31 : decode cX9_daysOf 31 = .ok (.if_icmp .ge 41, 3) := by decide +kernel
theorem dX9_daysOf_34 : decode cX9_daysOf 34 = .ok (.aload_n 0, 1) := by decide +kernel
theorem dX9_daysOf_35 : decode cX9_daysOf 35 = .ok (.iload 4, 2) := by decide +kernel
theorem dX9_daysOf_37 : decode cX9_daysOf 37 = .ok (.iload 5, 2) := by decide +kernel
theorem dX9_daysOf_39 : decode cX9_daysOf 39 = .ok (.aload_n 0, 1) := by decide +kernel
theorem dX9_daysOf_40 : decode cX9_daysOf 40 = .ok (.getfield 40, 3) := by decide +kernel
theorem dX9_daysOf_43 : decode cX9_daysOf 43 = .ok (.bipush 40, 2) := by decide +kernel
theorem dX9_daysOf_45 : decode cX9_daysOf 45 = .ok (.iload_n 1, 1) := by decide +kernel
theorem dX9_daysOf_46 : decode cX9_daysOf 46 = .ok (.imul, 1) := by decide +kernel
theorem dX9_daysOf_47 : decode cX9_daysOf 47 = .ok (.iload 4, 2) := by decide +kernel
theorem dX9_daysOf_49 : decode cX9_daysOf 49 = .ok (.iadd, 1) := by decide +kernel
theorem dX9_daysOf_50 : decode cX9_daysOf 50 = .ok (.iaload, 1) := by decide +kernel
theorem dX9_daysOf_51 : decode cX9_daysOf 51 = .ok (.aload_n 0, 1) := by decide +kernel
theorem dX9_daysOf_52 : decode cX9_daysOf 52 = .ok (.getfield 40, 3) := by decide +kernel
theorem dX9_daysOf_55 : decode cX9_daysOf 55 = .ok (.bipush 40, 2) := by decide +kernel
theorem dX9_daysOf_57 : decode cX9_daysOf 57 = .ok (.iload_n 1, 1) := by decide +kernel
theorem dX9_daysOf_58 : decode cX9_daysOf 58 = .ok (.imul, 1) := by decide +kernel
theorem dX9_daysOf_59 : decode cX9_daysOf 59 = .ok (.iload 5, 2) := by decide +kernel
theorem dX9_daysOf_61 : decode cX9_daysOf 61 = .ok (.iadd, 1) := by decide +kernel
theorem dX9_daysOf_62 : decode cX9_daysOf 62 = .ok (.iaload, 1) := by decide +kernel
theorem dX9_daysOf_63 : decode cX9_daysOf 63 = .ok (.invokevirtual 227, 3) := by decide +kernel
theorem dX9_daysOf_66 : decode cX9_daysOf 66 = .ok (.iinc 5 1, 3) := by decide +kernel
theorem dX9_daysOf_69 : decode cX9_daysOf 69 = .ok (.goto (-44), 3) := by decide +kernel
theorem dX9_daysOf_72 : decode cX9_daysOf 72 = .ok (.iinc 4 1, 3) := by decide +kernel
theorem dX9_daysOf_75 : decode cX9_daysOf 75 = .ok (.goto (-65), 3) := by decide +kernel
theorem dX9_daysOf_78 : decode cX9_daysOf 78 = .ok (.iinc 3 1, 3) := by decide +kernel
theorem dX9_daysOf_81 : decode cX9_daysOf 81 = .ok (.goto (-79), 3) := by decide +kernel
theorem dX9_daysOf_84 : decode cX9_daysOf 84 = .ok (.return_, 1) := by decide +kernel
theorem dX9_leads_0 : decode cX9_leads 0 = .ok (.iconst (-1), 1) := by decide +kernel
theorem dX9_leads_1 : decode cX9_leads 1 = .ok (.istore_n 1, 1) := by decide +kernel
theorem dX9_leads_2 : decode cX9_leads 2 = .ok (.iconst (-1), 1) := by decide +kernel
theorem dX9_leads_3 : decode cX9_leads 3 = .ok (.istore_n 2, 1) := by decide +kernel
theorem dX9_leads_4 : decode cX9_leads 4 = .ok (.iconst 0, 1) := by decide +kernel
theorem dX9_leads_5 : decode cX9_leads 5 = .ok (.istore_n 3, 1) := by decide +kernel
theorem dX9_leads_6 : decode cX9_leads 6 = .ok (.iload_n 3, 1) := by decide +kernel
theorem dX9_leads_7 : decode cX9_leads 7 = .ok (.aload_n 0, 1) := by decide +kernel
theorem dX9_leads_8 : decode cX9_leads 8 = .ok (.getfield 75, 3) := by decide +kernel
theorem dX9_leads_11 : decode cX9_leads 11 = .ok (.if_icmp .ge 58, 3) := by decide +kernel
theorem dX9_leads_14 : decode cX9_leads 14 = .ok (.aload_n 0, 1) := by decide +kernel
theorem dX9_leads_15 : decode cX9_leads 15 = .ok (.getfield 16, 3) := by decide +kernel
theorem dX9_leads_18 : decode cX9_leads 18 = .ok (.iconst 5, 1) := by decide +kernel
theorem dX9_leads_19 : decode cX9_leads 19 = .ok (.iload_n 3, 1) := by decide +kernel
theorem dX9_leads_20 : decode cX9_leads 20 = .ok (.imul, 1) := by decide +kernel
theorem dX9_leads_21 : decode cX9_leads 21 = .ok (.iconst 3, 1) := by decide +kernel
theorem dX9_leads_22 : decode cX9_leads 22 = .ok (.iadd, 1) := by decide +kernel
theorem dX9_leads_23 : decode cX9_leads 23 = .ok (.iaload, 1) := by decide +kernel
theorem dX9_leads_24 : decode cX9_leads 24 = .ok (.iload_n 2, 1) := by decide +kernel
theorem dX9_leads_25 : decode cX9_leads 25 = .ok (.if_icmp .le 7, 3) := by decide +kernel
theorem dX9_leads_28 : decode cX9_leads 28 = .ok (.iload_n 3, 1) := by decide +kernel
theorem dX9_leads_29 : decode cX9_leads 29 = .ok (.goto 4, 3) := by decide +kernel
theorem dX9_leads_32 : decode cX9_leads 32 = .ok (.iload_n 1, 1) := by decide +kernel
theorem dX9_leads_33 : decode cX9_leads 33 = .ok (.istore_n 1, 1) := by decide +kernel
theorem dX9_leads_34 : decode cX9_leads 34 = .ok (.aload_n 0, 1) := by decide +kernel
theorem dX9_leads_35 : decode cX9_leads 35 = .ok (.getfield 16, 3) := by decide +kernel
theorem dX9_leads_38 : decode cX9_leads 38 = .ok (.iconst 5, 1) := by decide +kernel
theorem dX9_leads_39 : decode cX9_leads 39 = .ok (.iload_n 3, 1) := by decide +kernel
theorem dX9_leads_40 : decode cX9_leads 40 = .ok (.imul, 1) := by decide +kernel
theorem dX9_leads_41 : decode cX9_leads 41 = .ok (.iconst 3, 1) := by decide +kernel
theorem dX9_leads_42 : decode cX9_leads 42 = .ok (.iadd, 1) := by decide +kernel
theorem dX9_leads_43 : decode cX9_leads 43 = .ok (.iaload, 1) := by decide +kernel
theorem dX9_leads_44 : decode cX9_leads 44 = .ok (.iload_n 2, 1) := by decide +kernel
theorem dX9_leads_45 : decode cX9_leads 45 = .ok (.if_icmp .le 16, 3) := by decide +kernel
theorem dX9_leads_48 : decode cX9_leads 48 = .ok (.aload_n 0, 1) := by decide +kernel
theorem dX9_leads_49 : decode cX9_leads 49 = .ok (.getfield 16, 3) := by decide +kernel
theorem dX9_leads_52 : decode cX9_leads 52 = .ok (.iconst 5, 1) := by decide +kernel
theorem dX9_leads_53 : decode cX9_leads 53 = .ok (.iload_n 3, 1) := by decide +kernel
theorem dX9_leads_54 : decode cX9_leads 54 = .ok (.imul, 1) := by decide +kernel
theorem dX9_leads_55 : decode cX9_leads 55 = .ok (.iconst 3, 1) := by decide +kernel
theorem dX9_leads_56 : decode cX9_leads 56 = .ok (.iadd, 1) := by decide +kernel
theorem dX9_leads_57 : decode cX9_leads 57 = .ok (.iaload, 1) := by decide +kernel
theorem dX9_leads_58 : decode cX9_leads 58 = .ok (.goto 4, 3) := by decide +kernel
theorem dX9_leads_61 : decode cX9_leads 61 = .ok (.iload_n 2, 1) := by decide +kernel
theorem dX9_leads_62 : decode cX9_leads 62 = .ok (.istore_n 2, 1) := by decide +kernel
theorem dX9_leads_63 : decode cX9_leads 63 = .ok (.iinc 3 1, 3) := by decide +kernel
theorem dX9_leads_66 : decode cX9_leads 66 = .ok (.goto (-60), 3) := by decide +kernel
theorem dX9_leads_69 : decode cX9_leads 69 = .ok (.iload_n 1, 1) := by decide +kernel
theorem dX9_leads_70 : decode cX9_leads 70 = .ok (.ireturn, 1) := by decide +kernel
theorem dX9_meet_0 : decode cX9_meet 0 = .ok (.aload_n 0, 1) := by decide +kernel
theorem dX9_meet_1 : decode cX9_meet 1 = .ok (.iload_n 1, 1) := by decide +kernel
theorem dX9_meet_2 : decode cX9_meet 2 = .ok (.invokevirtual 242, 3) := by decide +kernel
theorem dX9_meet_5 : decode cX9_meet 5 = .ok (.istore_n 3, 1) := by decide +kernel
theorem dX9_meet_6 : decode cX9_meet 6 = .ok (.iload_n 3, 1) := by decide +kernel
theorem dX9_meet_7 : decode cX9_meet 7 = .ok (.ifCond .eq 5, 3) := by decide +kernel
theorem dX9_meet_10 : decode cX9_meet 10 = .ok (.iload_n 3, 1) := by decide +kernel
theorem dX9_meet_11 : decode cX9_meet 11 = .ok (.ireturn, 1) := by decide +kernel
theorem dX9_meet_12 : decode cX9_meet 12 = .ok (.iload_n 2, 1) := by decide +kernel
theorem dX9_meet_13 : decode cX9_meet 13 = .ok (.iconst 1, 1) := by decide +kernel
theorem dX9_meet_14 : decode cX9_meet 14 = .ok (.bipush 9, 2) := by decide +kernel
theorem dX9_meet_16 : decode cX9_meet 16 = .ok (.invokestatic 78, 3) := by decide +kernel
theorem dX9_meet_19 : decode cX9_meet 19 = .ok (.ifCond .ne 6, 3) := by decide +kernel
theorem dX9_meet_22 : decode cX9_meet 22 = .ok (.bipush (-7), 2) := by decide +kernel
theorem dX9_meet_24 : decode cX9_meet 24 = .ok (.ireturn, 1) := by decide +kernel
theorem dX9_meet_25 : decode cX9_meet 25 = .ok (.aload_n 0, 1) := by decide +kernel
theorem dX9_meet_26 : decode cX9_meet 26 = .ok (.getfield 91, 3) := by decide +kernel
theorem dX9_meet_29 : decode cX9_meet 29 = .ok (.iload_n 2, 1) := by decide +kernel
theorem dX9_meet_30 : decode cX9_meet 30 = .ok (.iadd, 1) := by decide +kernel
theorem dX9_meet_31 : decode cX9_meet 31 = .ok (.sipush 999, 3) := by decide +kernel
theorem dX9_meet_34 : decode cX9_meet 34 = .ok (.if_icmp .le 6, 3) := by decide +kernel
theorem dX9_meet_37 : decode cX9_meet 37 = .ok (.bipush (-4), 2) := by decide +kernel
theorem dX9_meet_39 : decode cX9_meet 39 = .ok (.ireturn, 1) := by decide +kernel
theorem dX9_meet_40 : decode cX9_meet 40 = .ok (.aload_n 0, 1) := by decide +kernel
theorem dX9_meet_41 : decode cX9_meet 41 = .ok (.iload_n 1, 1) := by decide +kernel
theorem dX9_meet_42 : decode cX9_meet 42 = .ok (.iload_n 2, 1) := by decide +kernel
theorem dX9_meet_43 : decode cX9_meet 43 = .ok (.invokevirtual 245, 3) := by decide +kernel
theorem dX9_meet_46 : decode cX9_meet 46 = .ok (.aload_n 0, 1) := by decide +kernel
theorem dX9_meet_47 : decode cX9_meet 47 = .ok (.dup, 1) := by decide +kernel
theorem dX9_meet_48 : decode cX9_meet 48 = .ok (.getfield 91, 3) := by decide +kernel
theorem dX9_meet_51 : decode cX9_meet 51 = .ok (.iload_n 2, 1) := by decide +kernel
theorem dX9_meet_52 : decode cX9_meet 52 = .ok (.iadd, 1) := by decide +kernel
theorem dX9_meet_53 : decode cX9_meet 53 = .ok (.putfield 91, 3) := by decide +kernel
theorem dX9_meet_56 : decode cX9_meet 56 = .ok (.aload_n 0, 1) := by decide +kernel
theorem dX9_meet_57 : decode cX9_meet 57 = .ok (.invokevirtual 248, 3) := by decide +kernel
theorem dX9_meet_60 : decode cX9_meet 60 = .ok (.ireturn, 1) := by decide +kernel
theorem dX9_run_0 : decode cX9_run 0 = .ok (.aload_n 0, 1) := by decide +kernel
theorem dX9_run_1 : decode cX9_run 1 = .ok (.iload_n 1, 1) := by decide +kernel
theorem dX9_run_2 : decode cX9_run 2 = .ok (.invokevirtual 242, 3) := by decide +kernel
theorem dX9_run_5 : decode cX9_run 5 = .ok (.istore 4, 2) := by decide +kernel
theorem dX9_run_7 : decode cX9_run 7 = .ok (.iload 4, 2) := by decide +kernel
theorem dX9_run_9 : decode cX9_run 9 = .ok (.ifCond .eq 6, 3) := by decide +kernel
theorem dX9_run_12 : decode cX9_run 12 = .ok (.iload 4, 2) := by decide +kernel
theorem dX9_run_14 : decode cX9_run 14 = .ok (.ireturn, 1) := by decide +kernel
theorem dX9_run_15 : decode cX9_run 15 = .ok (.iload_n 2, 1) := by decide +kernel
theorem dX9_run_16 : decode cX9_run 16 = .ok (.iconst 0, 1) := by decide +kernel
theorem dX9_run_17 : decode cX9_run 17 = .ok (.bipush 9, 2) := by decide +kernel
theorem dX9_run_19 : decode cX9_run 19 = .ok (.invokestatic 78, 3) := by decide +kernel
theorem dX9_run_22 : decode cX9_run 22 = .ok (.ifCond .eq 23, 3) := by decide +kernel
theorem dX9_run_25 : decode cX9_run 25 = .ok (.iload_n 3, 1) := by decide +kernel
theorem dX9_run_26 : decode cX9_run 26 = .ok (.ifCond .eq 22, 3) := by decide +kernel
theorem dX9_run_29 : decode cX9_run 29 = .ok (.iload_n 3, 1) := by decide +kernel
theorem dX9_run_30 : decode cX9_run 30 = .ok (.bipush 10, 2) := by decide +kernel
theorem dX9_run_32 : decode cX9_run 32 = .ok (.bipush 9, 2) := by decide +kernel
theorem dX9_run_34 : decode cX9_run 34 = .ok (.aload_n 0, 1) := by decide +kernel
theorem dX9_run_35 : decode cX9_run 35 = .ok (.getfield 75, 3) := by decide +kernel
theorem dX9_run_38 : decode cX9_run 38 = .ok (.iadd, 1) := by decide +kernel
theorem dX9_run_39 : decode cX9_run 39 = .ok (.invokestatic 78, 3) := by decide +kernel
theorem dX9_run_42 : decode cX9_run 42 = .ok (.ifCond .ne 6, 3) := by decide +kernel
theorem dX9_run_45 : decode cX9_run 45 = .ok (.bipush (-7), 2) := by decide +kernel
theorem dX9_run_47 : decode cX9_run 47 = .ok (.ireturn, 1) := by decide +kernel
theorem dX9_run_48 : decode cX9_run 48 = .ok (.iconst 0, 1) := by decide +kernel
theorem dX9_run_49 : decode cX9_run 49 = .ok (.istore 5, 2) := by decide +kernel
theorem dX9_run_51 : decode cX9_run 51 = .ok (.iload 5, 2) := by decide +kernel
theorem dX9_run_53 : decode cX9_run 53 = .ok (.bipush 30, 2) := by decide +kernel
theorem dX9_run_55 : decode cX9_run 55 = .ok (.if_icmp .ge 23, 3) := by decide +kernel
theorem dX9_run_58 : decode cX9_run 58 = .ok (.aload_n 0, 1) := by decide +kernel
theorem dX9_run_59 : decode cX9_run 59 = .ok (.getfield 64, 3) := by decide +kernel
theorem dX9_run_62 : decode cX9_run 62 = .ok (.iload 5, 2) := by decide +kernel
theorem dX9_run_64 : decode cX9_run 64 = .ok (.aload_n 0, 1) := by decide +kernel
theorem dX9_run_65 : decode cX9_run 65 = .ok (.getfield 16, 3) := by decide +kernel
theorem dX9_run_68 : decode cX9_run 68 = .ok (.iload 5, 2) := by decide +kernel
theorem dX9_run_70 : decode cX9_run 70 = .ok (.iaload, 1) := by decide +kernel
theorem dX9_run_71 : decode cX9_run 71 = .ok (.iastore, 1) := by decide +kernel
theorem dX9_run_72 : decode cX9_run 72 = .ok (.iinc 5 1, 3) := by decide +kernel
theorem dX9_run_75 : decode cX9_run 75 = .ok (.goto (-24), 3) := by decide +kernel
theorem dX9_run_78 : decode cX9_run 78 = .ok (.aload_n 0, 1) := by decide +kernel
theorem dX9_run_79 : decode cX9_run 79 = .ok (.iload_n 1, 1) := by decide +kernel
theorem dX9_run_80 : decode cX9_run 80 = .ok (.iload_n 2, 1) := by decide +kernel
theorem dX9_run_81 : decode cX9_run 81 = .ok (.invokevirtual 245, 3) := by decide +kernel
theorem dX9_run_84 : decode cX9_run 84 = .ok (.iload_n 3, 1) := by decide +kernel
theorem dX9_run_85 : decode cX9_run 85 = .ok (.ifCond .ne 10, 3) := by decide +kernel
theorem dX9_run_88 : decode cX9_run 88 = .ok (.aload_n 0, 1) := by decide +kernel
theorem dX9_run_89 : decode cX9_run 89 = .ok (.invokevirtual 248, 3) := by decide +kernel
theorem dX9_run_92 : decode cX9_run 92 = .ok (.goto 16, 3) := by decide +kernel
theorem dX9_run_95 : decode cX9_run 95 = .ok (.aload_n 0, 1) := by decide +kernel
theorem dX9_run_96 : decode cX9_run 96 = .ok (.getfield 16, 3) := by decide +kernel
theorem dX9_run_99 : decode cX9_run 99 = .ok (.iconst 5, 1) := by decide +kernel
theorem dX9_run_100 : decode cX9_run 100 = .ok (.iload_n 3, 1) := by decide +kernel
theorem dX9_run_101 : decode cX9_run 101 = .ok (.bipush 10, 2) := by decide +kernel
theorem dX9_run_103 : decode cX9_run 103 = .ok (.isub, 1) := by decide +kernel
theorem dX9_run_104 : decode cX9_run 104 = .ok (.imul, 1) := by decide +kernel
theorem dX9_run_105 : decode cX9_run 105 = .ok (.iconst 3, 1) := by decide +kernel
theorem dX9_run_106 : decode cX9_run 106 = .ok (.iadd, 1) := by decide +kernel
theorem dX9_run_107 : decode cX9_run 107 = .ok (.iaload, 1) := by decide +kernel
theorem dX9_run_108 : decode cX9_run 108 = .ok (.istore 5, 2) := by decide +kernel
theorem dX9_run_110 : decode cX9_run 110 = .ok (.iconst 0, 1) := by decide +kernel
theorem dX9_run_111 : decode cX9_run 111 = .ok (.istore 6, 2) := by decide +kernel
theorem dX9_run_113 : decode cX9_run 113 = .ok (.iload 6, 2) := by decide +kernel
theorem dX9_run_115 : decode cX9_run 115 = .ok (.bipush 30, 2) := by decide +kernel
theorem dX9_run_117 : decode cX9_run 117 = .ok (.if_icmp .ge 23, 3) := by decide +kernel
theorem dX9_run_120 : decode cX9_run 120 = .ok (.aload_n 0, 1) := by decide +kernel
theorem dX9_run_121 : decode cX9_run 121 = .ok (.getfield 16, 3) := by decide +kernel
theorem dX9_run_124 : decode cX9_run 124 = .ok (.iload 6, 2) := by decide +kernel
theorem dX9_run_126 : decode cX9_run 126 = .ok (.aload_n 0, 1) := by decide +kernel
theorem dX9_run_127 : decode cX9_run 127 = .ok (.getfield 64, 3) := by decide +kernel
theorem dX9_run_130 : decode cX9_run 130 = .ok (.iload 6, 2) := by decide +kernel
theorem dX9_run_132 : decode cX9_run 132 = .ok (.iaload, 1) := by decide +kernel
theorem dX9_run_133 : decode cX9_run 133 = .ok (.iastore, 1) := by decide +kernel
theorem dX9_run_134 : decode cX9_run 134 = .ok (.iinc 6 1, 3) := by decide +kernel
theorem dX9_run_137 : decode cX9_run 137 = .ok (.goto (-24), 3) := by decide +kernel
theorem dX9_run_140 : decode cX9_run 140 = .ok (.iload 5, 2) := by decide +kernel
theorem dX9_run_142 : decode cX9_run 142 = .ok (.ireturn, 1) := by decide +kernel
theorem dX9_sheetWrong_0 : decode cX9_sheetWrong 0 = .ok (.iload_n 1, 1) := by decide +kernel
theorem dX9_sheetWrong_1 : decode cX9_sheetWrong 1 = .ok (.iconst 0, 1) := by decide +kernel
theorem dX9_sheetWrong_2 : decode cX9_sheetWrong 2 = .ok (.iconst 3, 1) := by decide +kernel
theorem dX9_sheetWrong_3 : decode cX9_sheetWrong 3 = .ok (.invokestatic 78, 3) := by decide +kernel
theorem dX9_sheetWrong_6 : decode cX9_sheetWrong 6 = .ok (.ifCond .ne 6, 3) := by decide +kernel
theorem dX9_sheetWrong_9 : decode cX9_sheetWrong 9 = .ok (.bipush (-2), 2) := by decide +kernel
theorem dX9_sheetWrong_11 : decode cX9_sheetWrong 11 = .ok (.ireturn, 1) := by decide +kernel
theorem dX9_sheetWrong_12 : decode cX9_sheetWrong 12 = .ok (.aload_n 0, 1) := by decide +kernel
theorem dX9_sheetWrong_13 : decode cX9_sheetWrong 13 = .ok (.getfield 34, 3) := by decide +kernel
theorem dX9_sheetWrong_16 : decode cX9_sheetWrong 16 = .ok (.iload_n 1, 1) := by decide +kernel
theorem dX9_sheetWrong_17 : decode cX9_sheetWrong 17 = .ok (.iaload, 1) := by decide +kernel
theorem dX9_sheetWrong_18 : decode cX9_sheetWrong 18 = .ok (.iconst (-1), 1) := by decide +kernel
theorem dX9_sheetWrong_19 : decode cX9_sheetWrong 19 = .ok (.if_icmp .ne 6, 3) := by decide +kernel
theorem dX9_sheetWrong_22 : decode cX9_sheetWrong 22 = .ok (.bipush (-11), 2) := by decide +kernel
theorem dX9_sheetWrong_24 : decode cX9_sheetWrong 24 = .ok (.ireturn, 1) := by decide +kernel
theorem dX9_sheetWrong_25 : decode cX9_sheetWrong 25 = .ok (.aload_n 0, 1) := by decide +kernel
theorem dX9_sheetWrong_26 : decode cX9_sheetWrong 26 = .ok (.getfield 37, 3) := by decide +kernel
theorem dX9_sheetWrong_29 : decode cX9_sheetWrong 29 = .ok (.iload_n 1, 1) := by decide +kernel
theorem dX9_sheetWrong_30 : decode cX9_sheetWrong 30 = .ok (.iaload, 1) := by decide +kernel
theorem dX9_sheetWrong_31 : decode cX9_sheetWrong 31 = .ok (.bipush 9, 2) := by decide +kernel
theorem dX9_sheetWrong_33 : decode cX9_sheetWrong 33 = .ok (.if_icmp .le 8, 3) := by decide +kernel
theorem dX9_sheetWrong_36 : decode cX9_sheetWrong 36 = .ok (.bipush (-2), 2) := by decide +kernel
theorem dX9_sheetWrong_38 : decode cX9_sheetWrong 38 = .ok (.goto 4, 3) := by decide +kernel
theorem dX9_sheetWrong_41 : decode cX9_sheetWrong 41 = .ok (.iconst 0, 1) := by decide +kernel
theorem dX9_sheetWrong_42 : decode cX9_sheetWrong 42 = .ok (.ireturn, 1) := by decide +kernel
theorem dX9_toldWrong_0 : decode cX9_toldWrong 0 = .ok (.aload_n 0, 1) := by decide +kernel
theorem dX9_toldWrong_1 : decode cX9_toldWrong 1 = .ok (.iload_n 1, 1) := by decide +kernel
theorem dX9_toldWrong_2 : decode cX9_toldWrong 2 = .ok (.invokevirtual 251, 3) := by decide +kernel
theorem dX9_toldWrong_5 : decode cX9_toldWrong 5 = .ok (.istore 5, 2) := by decide +kernel
theorem dX9_toldWrong_7 : decode cX9_toldWrong 7 = .ok (.iload 5, 2) := by decide +kernel
theorem dX9_toldWrong_9 : decode cX9_toldWrong 9 = .ok (.ifCond .eq 6, 3) := by decide +kernel
theorem dX9_toldWrong_12 : decode cX9_toldWrong 12 = .ok (.iload 5, 2) := by decide +kernel
theorem dX9_toldWrong_14 : decode cX9_toldWrong 14 = .ok (.ireturn, 1) := by decide +kernel
theorem dX9_toldWrong_15 : decode cX9_toldWrong 15 = .ok (.aload_n 0, 1) := by decide +kernel
theorem dX9_toldWrong_16 : decode cX9_toldWrong 16 = .ok (.iload_n 2, 1) := by decide +kernel
theorem dX9_toldWrong_17 : decode cX9_toldWrong 17 = .ok (.invokevirtual 217, 3) := by decide +kernel
theorem dX9_toldWrong_20 : decode cX9_toldWrong 20 = .ok (.ifCond .ne 8, 3) := by decide +kernel
theorem dX9_toldWrong_23 : decode cX9_toldWrong 23 = .ok (.bipush (-5), 2) := by decide +kernel
theorem dX9_toldWrong_25 : decode cX9_toldWrong 25 = .ok (.goto 24, 3) := by decide +kernel
theorem dX9_toldWrong_28 : decode cX9_toldWrong 28 = .ok (.iload_n 3, 1) := by decide +kernel
theorem dX9_toldWrong_29 : decode cX9_toldWrong 29 = .ok (.invokestatic 220, 3) := by decide +kernel
theorem dX9_toldWrong_32 : decode cX9_toldWrong 32 = .ok (.ifCond .eq 15, 3) := by decide +kernel
theorem dX9_toldWrong_35 : decode cX9_toldWrong 35 = .ok (.iload 4, 2) := by decide +kernel
theorem dX9_toldWrong_37 : decode cX9_toldWrong 37 = .ok (.invokestatic 220, 3) := by decide +kernel
theorem dX9_toldWrong_40 : decode cX9_toldWrong 40 = .ok (.ifCond .eq 7, 3) := by decide +kernel
theorem dX9_toldWrong_43 : decode cX9_toldWrong 43 = .ok (.iconst 0, 1) := by decide +kernel
theorem dX9_toldWrong_44 : decode cX9_toldWrong 44 = .ok (.goto 5, 3) := by decide +kernel
theorem dX9_toldWrong_47 : decode cX9_toldWrong 47 = .ok (.bipush (-7), 2) := by decide +kernel
theorem dX9_toldWrong_49 : decode cX9_toldWrong 49 = .ok (.ireturn, 1) := by decide +kernel
theorem dX9_unlike_0 : decode cX9_unlike 0 = .ok (.aload_n 0, 1) := by decide +kernel
theorem dX9_unlike_1 : decode cX9_unlike 1 = .ok (.iload_n 2, 1) := by decide +kernel
theorem dX9_unlike_2 : decode cX9_unlike 2 = .ok (.iload_n 3, 1) := by decide +kernel
theorem dX9_unlike_3 : decode cX9_unlike 3 = .ok (.iload 4, 2) := by decide +kernel
theorem dX9_unlike_5 : decode cX9_unlike 5 = .ok (.iload 5, 2) := by decide +kernel
theorem dX9_unlike_7 : decode cX9_unlike 7 = .ok (.invokevirtual 223, 3) := by decide +kernel
theorem dX9_unlike_10 : decode cX9_unlike 10 = .ok (.iconst 0, 1) := by decide +kernel
theorem dX9_unlike_11 : decode cX9_unlike 11 = .ok (.istore 6, 2) := by decide +kernel
theorem dX9_unlike_13 : decode cX9_unlike 13 = .ok (.iload 6, 2) := by decide +kernel
theorem dX9_unlike_15 : decode cX9_unlike 15 = .ok (.aload_n 0, 1) := by decide +kernel
theorem dX9_unlike_16 : decode cX9_unlike 16 = .ok (.getfield 37, 3) := by decide +kernel
theorem dX9_unlike_19 : decode cX9_unlike 19 = .ok (.iload_n 1, 1) := by decide +kernel
theorem dX9_unlike_20 : decode cX9_unlike 20 = .ok (.iaload, 1) := by decide +kernel
theorem dX9_unlike_21 : decode cX9_unlike 21 = .ok (.if_icmp .ge 42, 3) := by decide +kernel
theorem dX9_unlike_24 : decode cX9_unlike 24 = .ok (.aload_n 0, 1) := by decide +kernel
theorem dX9_unlike_25 : decode cX9_unlike 25 = .ok (.getfield 40, 3) := by decide +kernel
theorem dX9_unlike_28 : decode cX9_unlike 28 = .ok (.bipush 40, 2) := by decide +kernel
theorem dX9_unlike_30 : decode cX9_unlike 30 = .ok (.iload_n 1, 1) := by decide +kernel
theorem dX9_unlike_31 : decode cX9_unlike 31 = .ok (.imul, 1) := by decide +kernel
theorem dX9_unlike_32 : decode cX9_unlike 32 = .ok (.iload 6, 2) := by decide +kernel
theorem dX9_unlike_34 : decode cX9_unlike 34 = .ok (.iadd, 1) := by decide +kernel
theorem dX9_unlike_35 : decode cX9_unlike 35 = .ok (.iaload, 1) := by decide +kernel
theorem dX9_unlike_36 : decode cX9_unlike 36 = .ok (.aload_n 0, 1) := by decide +kernel
theorem dX9_unlike_37 : decode cX9_unlike 37 = .ok (.getfield 61, 3) := by decide +kernel
theorem dX9_unlike_40 : decode cX9_unlike 40 = .ok (.iload 6, 2) := by decide +kernel
theorem dX9_unlike_42 : decode cX9_unlike 42 = .ok (.iconst 1, 1) := by decide +kernel
theorem dX9_unlike_43 : decode cX9_unlike 43 = .ok (.iadd, 1) := by decide +kernel
theorem dX9_unlike_44 : decode cX9_unlike 44 = .ok (.iconst 0, 1) := by decide +kernel
theorem dX9_unlike_45 : decode cX9_unlike 45 = .ok (.bipush 9, 2) := by decide +kernel
theorem dX9_unlike_47 : decode cX9_unlike 47 = .ok (.invokestatic 166, 3) := by decide +kernel
theorem dX9_unlike_50 : decode cX9_unlike 50 = .ok (.iaload, 1) := by decide +kernel
theorem dX9_unlike_51 : decode cX9_unlike 51 = .ok (.if_icmp .eq 6, 3) := by decide +kernel
theorem dX9_unlike_54 : decode cX9_unlike 54 = .ok (.iload 6, 2) := by decide +kernel
theorem dX9_unlike_56 : decode cX9_unlike 56 = .ok (.ireturn, 1) := by decide +kernel
theorem dX9_unlike_57 : decode cX9_unlike 57 = .ok (.iinc 6 1, 3) := by decide +kernel
theorem dX9_unlike_60 : decode cX9_unlike 60 = .ok (.goto (-47), 3) := by decide +kernel
theorem dX9_unlike_63 : decode cX9_unlike 63 = .ok (.iconst (-1), 1) := by decide +kernel
theorem dX9_unlike_64 : decode cX9_unlike 64 = .ok (.ireturn, 1) := by decide +kernel
theorem dX9_judge_0 : decode cX9_judge 0 = .ok (.aload_n 0, 1) := by decide +kernel
theorem dX9_judge_1 : decode cX9_judge 1 = .ok (.iload_n 1, 1) := by decide +kernel
theorem dX9_judge_2 : decode cX9_judge 2 = .ok (.iload_n 2, 1) := by decide +kernel
theorem dX9_judge_3 : decode cX9_judge 3 = .ok (.iload_n 3, 1) := by decide +kernel
theorem dX9_judge_4 : decode cX9_judge 4 = .ok (.iload 4, 2) := by decide +kernel
theorem dX9_judge_6 : decode cX9_judge 6 = .ok (.invokevirtual 254, 3) := by decide +kernel
theorem dX9_judge_9 : decode cX9_judge 9 = .ok (.istore 5, 2) := by decide +kernel
theorem dX9_judge_11 : decode cX9_judge 11 = .ok (.iload 5, 2) := by decide +kernel
theorem dX9_judge_13 : decode cX9_judge 13 = .ok (.ifCond .ne 22, 3) := by decide +kernel
theorem dX9_judge_16 : decode cX9_judge 16 = .ok (.aload_n 0, 1) := by decide +kernel
theorem dX9_judge_17 : decode cX9_judge 17 = .ok (.iload_n 1, 1) := by decide +kernel
theorem dX9_judge_18 : decode cX9_judge 18 = .ok (.iload_n 2, 1) := by decide +kernel
theorem dX9_judge_19 : decode cX9_judge 19 = .ok (.bipush 10, 2) := by decide +kernel
theorem dX9_judge_21 : decode cX9_judge 21 = .ok (.idiv, 1) := by decide +kernel
theorem dX9_judge_22 : decode cX9_judge 22 = .ok (.iload_n 2, 1) := by decide +kernel
theorem dX9_judge_23 : decode cX9_judge 23 = .ok (.bipush 10, 2) := by decide +kernel
theorem dX9_judge_25 : decode cX9_judge 25 = .ok (.irem, 1) := by decide +kernel
theorem dX9_judge_26 : decode cX9_judge 26 = .ok (.iload_n 3, 1) := by decide +kernel
theorem dX9_judge_27 : decode cX9_judge 27 = .ok (.iload 4, 2) := by decide +kernel
theorem dX9_judge_29 : decode cX9_judge 29 = .ok (.invokevirtual 257, 3) := by decide +kernel
theorem dX9_judge_32 : decode cX9_judge 32 = .ok (.goto 5, 3) := by decide +kernel
theorem dX9_judge_35 : decode cX9_judge 35 = .ok (.iload 5, 2) := by decide +kernel
theorem dX9_judge_37 : decode cX9_judge 37 = .ok (.ireturn, 1) := by decide +kernel
theorem dX9_kinds_0 : decode cX9_kinds 0 = .ok (.aload_n 0, 1) := by decide +kernel
theorem dX9_kinds_1 : decode cX9_kinds 1 = .ok (.iload_n 1, 1) := by decide +kernel
theorem dX9_kinds_2 : decode cX9_kinds 2 = .ok (.iload_n 2, 1) := by decide +kernel
theorem dX9_kinds_3 : decode cX9_kinds 3 = .ok (.iload_n 3, 1) := by decide +kernel
theorem dX9_kinds_4 : decode cX9_kinds 4 = .ok (.iload 4, 2) := by decide +kernel
theorem dX9_kinds_6 : decode cX9_kinds 6 = .ok (.invokevirtual 254, 3) := by decide +kernel
theorem dX9_kinds_9 : decode cX9_kinds 9 = .ok (.istore 6, 2) := by decide +kernel
theorem dX9_kinds_11 : decode cX9_kinds 11 = .ok (.iload 6, 2) := by decide +kernel
theorem dX9_kinds_13 : decode cX9_kinds 13 = .ok (.ifCond .eq 6, 3) := by decide +kernel
theorem dX9_kinds_16 : decode cX9_kinds 16 = .ok (.iload 6, 2) := by decide +kernel
theorem dX9_kinds_18 : decode cX9_kinds 18 = .ok (.ireturn, 1) := by decide +kernel
theorem dX9_kinds_19 : decode cX9_kinds 19 = .ok (.iload 5, 2) := by decide +kernel
theorem dX9_kinds_21 : decode cX9_kinds 21 = .ok (.iconst 0, 1) := by decide +kernel
theorem dX9_kinds_22 : decode cX9_kinds 22 = .ok (.iconst 2, 1) := by decide +kernel
theorem dX9_kinds_23 : decode cX9_kinds 23 = .ok (.invokestatic 78, 3) := by decide +kernel
theorem dX9_kinds_26 : decode cX9_kinds 26 = .ok (.ifCond .ne 6, 3) := by decide +kernel
theorem dX9_kinds_29 : decode cX9_kinds 29 = .ok (.bipush (-7), 2) := by decide +kernel
theorem dX9_kinds_31 : decode cX9_kinds 31 = .ok (.ireturn, 1) := by decide +kernel
theorem dX9_kinds_32 : decode cX9_kinds 32 = .ok (.iload_n 2, 1) := by decide +kernel
theorem dX9_kinds_33 : decode cX9_kinds 33 = .ok (.bipush 10, 2) := by decide +kernel
theorem dX9_kinds_35 : decode cX9_kinds 35 = .ok (.idiv, 1) := by decide +kernel
theorem dX9_kinds_36 : decode cX9_kinds 36 = .ok (.istore 7, 2) := by decide +kernel
theorem dX9_kinds_38 : decode cX9_kinds 38 = .ok (.aload_n 0, 1) := by decide +kernel
theorem dX9_kinds_39 : decode cX9_kinds 39 = .ok (.getfield 7, 3) := by decide +kernel
theorem dX9_kinds_42 : decode cX9_kinds 42 = .ok (.iload 7, 2) := by decide +kernel
theorem dX9_kinds_44 : decode cX9_kinds 44 = .ok (.iaload, 1) := by decide +kernel
theorem dX9_kinds_45 : decode cX9_kinds 45 = .ok (.istore 8, 2) := by decide +kernel
theorem dX9_kinds_47 : decode cX9_kinds 47 = .ok (.aload_n 0, 1) := by decide +kernel
theorem dX9_kinds_48 : decode cX9_kinds 48 = .ok (.getfield 13, 3) := by decide +kernel
theorem dX9_kinds_51 : decode cX9_kinds 51 = .ok (.iload 7, 2) := by decide +kernel
theorem dX9_kinds_53 : decode cX9_kinds 53 = .ok (.iaload, 1) := by decide +kernel
theorem dX9_kinds_54 : decode cX9_kinds 54 = .ok (.istore 9, 2) := by decide +kernel
theorem dX9_kinds_56 : decode cX9_kinds 56 = .ok (.aload_n 0, 1) := by decide +kernel
theorem dX9_kinds_57 : decode cX9_kinds 57 = .ok (.getfield 16, 3) := by decide +kernel
theorem dX9_kinds_60 : decode cX9_kinds 60 = .ok (.iconst 5, 1) := by decide +kernel
theorem dX9_kinds_61 : decode cX9_kinds 61 = .ok (.iload 7, 2) := by decide +kernel
theorem dX9_kinds_63 : decode cX9_kinds 63 = .ok (.imul, 1) := by decide +kernel
theorem dX9_kinds_64 : decode cX9_kinds 64 = .ok (.iconst 2, 1) := by decide +kernel
theorem dX9_kinds_65 : decode cX9_kinds 65 = .ok (.iadd, 1) := by decide +kernel
theorem dX9_kinds_66 : decode cX9_kinds 66 = .ok (.iaload, 1) := by decide +kernel
theorem dX9_kinds_67 : decode cX9_kinds 67 = .ok (.istore 10, 2) := by decide +kernel
theorem dX9_kinds_69 : decode cX9_kinds 69 = .ok (.iconst 0, 1) := by decide +kernel
theorem dX9_kinds_70 : decode cX9_kinds 70 = .ok (.istore 11, 2) := by decide +kernel
theorem dX9_kinds_72 : decode cX9_kinds 72 = .ok (.iconst 0, 1) := by decide +kernel
theorem dX9_kinds_73 : decode cX9_kinds 73 = .ok (.istore 12, 2) := by decide +kernel
theorem dX9_kinds_75 : decode cX9_kinds 75 = .ok (.iload 12, 2) := by decide +kernel
theorem dX9_kinds_77 : decode cX9_kinds 77 = .ok (.iload 5, 2) := by decide +kernel
theorem dX9_kinds_79 : decode cX9_kinds 79 = .ok (.ifCond .ne 8, 3) := by decide +kernel
theorem dX9_kinds_82 : decode cX9_kinds 82 = .ok (.bipush 6, 2) := by decide +kernel
theorem dX9_kinds_84 : decode cX9_kinds 84 = .ok (.goto 5, 3) := by decide +kernel
theorem dX9_kinds_87 : decode cX9_kinds 87 = .ok (.bipush 10, 2) := by decide +kernel
theorem dX9_kinds_89 : decode cX9_kinds 89 = .ok (.if_icmp .ge 103, 3) := by decide +kernel
theorem dX9_kinds_92 : decode cX9_kinds 92 = .ok (.aload_n 0, 1) := by decide +kernel
theorem dX9_kinds_93 : decode cX9_kinds 93 = .ok (.getfield 7, 3) := by decide +kernel
theorem dX9_kinds_96 : decode cX9_kinds 96 = .ok (.iload 7, 2) := by decide +kernel
theorem dX9_kinds_98 : decode cX9_kinds 98 = .ok (.iload 5, 2) := by decide +kernel
theorem dX9_kinds_100 : decode cX9_kinds 100 = .ok (.ifCond .ne 8, 3) := by decide +kernel
theorem dX9_kinds_103 : decode cX9_kinds 103 = .ok (.iload 12, 2) := by decide +kernel
theorem dX9_kinds_105 : decode cX9_kinds 105 = .ok (.goto 5, 3) := by decide +kernel
theorem dX9_kinds_108 : decode cX9_kinds 108 = .ok (.iload 8, 2) := by decide +kernel
theorem dX9_kinds_110 : decode cX9_kinds 110 = .ok (.iastore, 1) := by decide +kernel
theorem dX9_kinds_111 : decode cX9_kinds 111 = .ok (.aload_n 0, 1) := by decide +kernel
theorem dX9_kinds_112 : decode cX9_kinds 112 = .ok (.getfield 13, 3) := by decide +kernel
theorem dX9_kinds_115 : decode cX9_kinds 115 = .ok (.iload 7, 2) := by decide +kernel
theorem dX9_kinds_117 : decode cX9_kinds 117 = .ok (.iload 5, 2) := by decide +kernel
theorem dX9_kinds_119 : decode cX9_kinds 119 = .ok (.iconst 1, 1) := by decide +kernel
theorem dX9_kinds_120 : decode cX9_kinds 120 = .ok (.if_icmp .ne 8, 3) := by decide +kernel
theorem dX9_kinds_123 : decode cX9_kinds 123 = .ok (.iload 12, 2) := by decide +kernel
theorem dX9_kinds_125 : decode cX9_kinds 125 = .ok (.goto 5, 3) := by decide +kernel
theorem dX9_kinds_128 : decode cX9_kinds 128 = .ok (.iload 9, 2) := by decide +kernel
theorem dX9_kinds_130 : decode cX9_kinds 130 = .ok (.iastore, 1) := by decide +kernel
theorem dX9_kinds_131 : decode cX9_kinds 131 = .ok (.aload_n 0, 1) := by decide +kernel
theorem dX9_kinds_132 : decode cX9_kinds 132 = .ok (.getfield 16, 3) := by decide +kernel
theorem dX9_kinds_135 : decode cX9_kinds 135 = .ok (.iconst 5, 1) := by decide +kernel
theorem dX9_kinds_136 : decode cX9_kinds 136 = .ok (.iload 7, 2) := by decide +kernel
theorem dX9_kinds_138 : decode cX9_kinds 138 = .ok (.imul, 1) := by decide +kernel
theorem dX9_kinds_139 : decode cX9_kinds 139 = .ok (.iconst 2, 1) := by decide +kernel
theorem dX9_kinds_140 : decode cX9_kinds 140 = .ok (.iadd, 1) := by decide +kernel
theorem dX9_kinds_141 : decode cX9_kinds 141 = .ok (.iload 5, 2) := by decide +kernel
theorem dX9_kinds_143 : decode cX9_kinds 143 = .ok (.iconst 2, 1) := by decide +kernel
theorem dX9_kinds_144 : decode cX9_kinds 144 = .ok (.if_icmp .ne 8, 3) := by decide +kernel
theorem dX9_kinds_147 : decode cX9_kinds 147 = .ok (.iload 12, 2) := by decide +kernel
theorem dX9_kinds_149 : decode cX9_kinds 149 = .ok (.goto 5, 3) := by decide +kernel
theorem dX9_kinds_152 : decode cX9_kinds 152 = .ok (.iload 10, 2) := by decide +kernel
theorem dX9_kinds_154 : decode cX9_kinds 154 = .ok (.iastore, 1) := by decide +kernel
theorem dX9_kinds_155 : decode cX9_kinds 155 = .ok (.iload 11, 2) := by decide +kernel
theorem dX9_kinds_157 : decode cX9_kinds 157 = .ok (.aload_n 0, 1) := by decide +kernel
theorem dX9_kinds_158 : decode cX9_kinds 158 = .ok (.iload_n 1, 1) := by decide +kernel
theorem dX9_kinds_159 : decode cX9_kinds 159 = .ok (.iload 7, 2) := by decide +kernel
theorem dX9_kinds_161 : decode cX9_kinds 161 = .ok (.iload_n 2, 1) := by decide +kernel
theorem dX9_kinds_162 : decode cX9_kinds 162 = .ok (.bipush 10, 2) := by decide +kernel
theorem dX9_kinds_164 : decode cX9_kinds 164 = .ok (.irem, 1) := by decide +kernel
theorem dX9_kinds_165 : decode cX9_kinds 165 = .ok (.iload_n 3, 1) := by decide +kernel
theorem dX9_kinds_166 : decode cX9_kinds 166 = .ok (.iload 4, 2) := by decide +kernel
theorem dX9_kinds_168 : decode cX9_kinds 168 = .ok (.invokevirtual 257, 3) := by decide +kernel
theorem dX9_kinds_171 : decode cX9_kinds 171 = .ok (.iconst (-1), 1) := by decide +kernel
theorem dX9_kinds_172 : decode cX9_kinds 172 = .ok (.if_icmp .ne 10, 3) := by decide +kernel
theorem dX9_kinds_175 : decode cX9_kinds 175 = .ok (.iconst 1, 1) := by decide +kernel
theorem dX9_kinds_176 : decode cX9_kinds 176 = .ok (.iload 12, 2) := by decide +kernel
theorem dX9_kinds_178 : decode cX9_kinds 178 = .ok (.ishl, 1) := by decide +kernel
theorem dX9_kinds_179 : decode cX9_kinds 179 = .ok (.goto 4, 3) := by decide +kernel
theorem dX9_kinds_182 : decode cX9_kinds 182 = .ok (.iconst 0, 1) := by decide +kernel
theorem dX9_kinds_183 : decode cX9_kinds 183 = .ok (.ior, 1) := by decide +kernel
theorem dX9_kinds_184 : decode cX9_kinds 184 = .ok (.istore 11, 2) := by decide +kernel
theorem dX9_kinds_186 : decode cX9_kinds 186 = .ok (.iinc 12 1, 3) := by decide +kernel
theorem dX9_kinds_189 : decode cX9_kinds 189 = .ok (.goto (-114), 3) := by decide +kernel
theorem dX9_kinds_192 : decode cX9_kinds 192 = .ok (.aload_n 0, 1) := by decide +kernel
theorem dX9_kinds_193 : decode cX9_kinds 193 = .ok (.getfield 7, 3) := by decide +kernel
theorem dX9_kinds_196 : decode cX9_kinds 196 = .ok (.iload 7, 2) := by decide +kernel
theorem dX9_kinds_198 : decode cX9_kinds 198 = .ok (.iload 8, 2) := by decide +kernel
theorem dX9_kinds_200 : decode cX9_kinds 200 = .ok (.iastore, 1) := by decide +kernel
theorem dX9_kinds_201 : decode cX9_kinds 201 = .ok (.aload_n 0, 1) := by decide +kernel
theorem dX9_kinds_202 : decode cX9_kinds 202 = .ok (.getfield 13, 3) := by decide +kernel
theorem dX9_kinds_205 : decode cX9_kinds 205 = .ok (.iload 7, 2) := by decide +kernel
theorem dX9_kinds_207 : decode cX9_kinds 207 = .ok (.iload 9, 2) := by decide +kernel
theorem dX9_kinds_209 : decode cX9_kinds 209 = .ok (.iastore, 1) := by decide +kernel
theorem dX9_kinds_210 : decode cX9_kinds 210 = .ok (.aload_n 0, 1) := by decide +kernel
theorem dX9_kinds_211 : decode cX9_kinds 211 = .ok (.getfield 16, 3) := by decide +kernel
theorem dX9_kinds_214 : decode cX9_kinds 214 = .ok (.iconst 5, 1) := by decide +kernel
theorem dX9_kinds_215 : decode cX9_kinds 215 = .ok (.iload 7, 2) := by decide +kernel
theorem dX9_kinds_217 : decode cX9_kinds 217 = .ok (.imul, 1) := by decide +kernel
theorem dX9_kinds_218 : decode cX9_kinds 218 = .ok (.iconst 2, 1) := by decide +kernel
theorem dX9_kinds_219 : decode cX9_kinds 219 = .ok (.iadd, 1) := by decide +kernel
theorem dX9_kinds_220 : decode cX9_kinds 220 = .ok (.iload 10, 2) := by decide +kernel
theorem dX9_kinds_222 : decode cX9_kinds 222 = .ok (.iastore, 1) := by decide +kernel
theorem dX9_kinds_223 : decode cX9_kinds 223 = .ok (.iload 11, 2) := by decide +kernel
theorem dX9_kinds_225 : decode cX9_kinds 225 = .ok (.ireturn, 1) := by decide +kernel
theorem dX9_acts_0 : decode cX9_acts 0 = .ok (.aload_n 0, 1) := by decide +kernel
theorem dX9_acts_1 : decode cX9_acts 1 = .ok (.iload_n 1, 1) := by decide +kernel
theorem dX9_acts_2 : decode cX9_acts 2 = .ok (.iload_n 2, 1) := by decide +kernel
theorem dX9_acts_3 : decode cX9_acts 3 = .ok (.iload_n 3, 1) := by decide +kernel
theorem dX9_acts_4 : decode cX9_acts 4 = .ok (.iload 4, 2) := by decide +kernel
theorem dX9_acts_6 : decode cX9_acts 6 = .ok (.invokevirtual 254, 3) := by decide +kernel
theorem dX9_acts_9 : decode cX9_acts 9 = .ok (.istore 6, 2) := by decide +kernel
theorem dX9_acts_11 : decode cX9_acts 11 = .ok (.iload 6, 2) := by decide +kernel
theorem dX9_acts_13 : decode cX9_acts 13 = .ok (.ifCond .eq 6, 3) := by decide +kernel
theorem dX9_acts_16 : decode cX9_acts 16 = .ok (.iload 6, 2) := by decide +kernel
theorem dX9_acts_18 : decode cX9_acts 18 = .ok (.ireturn, 1) := by decide +kernel
theorem dX9_acts_19 : decode cX9_acts 19 = .ok (.iload 5, 2) := by decide +kernel
theorem dX9_acts_21 : decode cX9_acts 21 = .ok (.iconst 0, 1) := by decide +kernel
theorem dX9_acts_22 : decode cX9_acts 22 = .ok (.bipush 8, 2) := by decide +kernel
theorem dX9_acts_24 : decode cX9_acts 24 = .ok (.invokestatic 78, 3) := by decide +kernel
theorem dX9_acts_27 : decode cX9_acts 27 = .ok (.ifCond .ne 6, 3) := by decide +kernel
theorem dX9_acts_30 : decode cX9_acts 30 = .ok (.bipush (-7), 2) := by decide +kernel
theorem dX9_acts_32 : decode cX9_acts 32 = .ok (.ireturn, 1) := by decide +kernel
theorem dX9_acts_33 : decode cX9_acts 33 = .ok (.iconst 0, 1) := by decide +kernel
theorem dX9_acts_34 : decode cX9_acts 34 = .ok (.istore 7, 2) := by decide +kernel
theorem dX9_acts_36 : decode cX9_acts 36 = .ok (.iconst 0, 1) := by decide +kernel
theorem dX9_acts_37 : decode cX9_acts 37 = .ok (.istore 8, 2) := by decide +kernel
theorem dX9_acts_39 : decode cX9_acts 39 = .ok (.iload 8, 2) := by decide +kernel
theorem dX9_acts_41 : decode cX9_acts 41 = .ok (.iconst 4, 1) := by decide +kernel
theorem dX9_acts_42 : decode cX9_acts 42 = .ok (.if_icmp .ge 63, 3) := by decide +kernel
theorem dX9_acts_45 : decode cX9_acts 45 = .ok (.iload_n 3, 1) := by decide +kernel
theorem dX9_acts_46 : decode cX9_acts 46 = .ok (.iconst 3, 1) := by decide +kernel
theorem dX9_acts_47 : decode cX9_acts 47 = .ok (.iconst 2, 1) := by decide +kernel
theorem dX9_acts_48 : decode cX9_acts 48 = .ok (.iload 5, 2) := by decide +kernel
theorem dX9_acts_50 : decode cX9_acts 50 = .ok (.imul, 1) := by decide +kernel
theorem dX9_acts_51 : decode cX9_acts 51 = .ok (.ishl, 1) := by decide +kernel
theorem dX9_acts_52 : decode cX9_acts 52 = .ok (.iconst (-1), 1) := by decide +kernel
theorem dX9_acts_53 : decode cX9_acts 53 = .ok (.ixor, 1) := by decide +kernel
theorem dX9_acts_54 : decode cX9_acts 54 = .ok (.iand, 1) := by decide +kernel
theorem dX9_acts_55 : decode cX9_acts 55 = .ok (.iload 8, 2) := by decide +kernel
theorem dX9_acts_57 : decode cX9_acts 57 = .ok (.iconst 2, 1) := by decide +kernel
theorem dX9_acts_58 : decode cX9_acts 58 = .ok (.iload 5, 2) := by decide +kernel
theorem dX9_acts_60 : decode cX9_acts 60 = .ok (.imul, 1) := by decide +kernel
theorem dX9_acts_61 : decode cX9_acts 61 = .ok (.ishl, 1) := by decide +kernel
theorem dX9_acts_62 : decode cX9_acts 62 = .ok (.ior, 1) := by decide +kernel
theorem dX9_acts_63 : decode cX9_acts 63 = .ok (.istore 9, 2) := by decide +kernel
theorem dX9_acts_65 : decode cX9_acts 65 = .ok (.iload 7, 2) := by decide +kernel
theorem dX9_acts_67 : decode cX9_acts 67 = .ok (.aload_n 0, 1) := by decide +kernel
theorem dX9_acts_68 : decode cX9_acts 68 = .ok (.iload_n 1, 1) := by decide +kernel
theorem dX9_acts_69 : decode cX9_acts 69 = .ok (.iload_n 2, 1) := by decide +kernel
theorem dX9_acts_70 : decode cX9_acts 70 = .ok (.bipush 10, 2) := by decide +kernel
theorem dX9_acts_72 : decode cX9_acts 72 = .ok (.idiv, 1) := by decide +kernel
theorem dX9_acts_73 : decode cX9_acts 73 = .ok (.iload_n 2, 1) := by decide +kernel
theorem dX9_acts_74 : decode cX9_acts 74 = .ok (.bipush 10, 2) := by decide +kernel
theorem dX9_acts_76 : decode cX9_acts 76 = .ok (.irem, 1) := by decide +kernel
theorem dX9_acts_77 : decode cX9_acts 77 = .ok (.iload 9, 2) := by decide +kernel
theorem dX9_acts_79 : decode cX9_acts 79 = .ok (.iload 4, 2) := by decide +kernel
theorem dX9_acts_81 : decode cX9_acts 81 = .ok (.invokevirtual 257, 3) := by decide +kernel
theorem dX9_acts_84 : decode cX9_acts 84 = .ok (.iconst (-1), 1) := by decide +kernel
theorem dX9_acts_85 : decode cX9_acts 85 = .ok (.if_icmp .ne 10, 3) := by decide +kernel
theorem dX9_acts_88 : decode cX9_acts 88 = .ok (.iconst 1, 1) := by decide +kernel
theorem dX9_acts_89 : decode cX9_acts 89 = .ok (.iload 8, 2) := by decide +kernel
theorem dX9_acts_91 : decode cX9_acts 91 = .ok (.ishl, 1) := by decide +kernel
theorem dX9_acts_92 : decode cX9_acts 92 = .ok (.goto 4, 3) := by decide +kernel
theorem dX9_acts_95 : decode cX9_acts 95 = .ok (.iconst 0, 1) := by decide +kernel
theorem dX9_acts_96 : decode cX9_acts 96 = .ok (.ior, 1) := by decide +kernel
theorem dX9_acts_97 : decode cX9_acts 97 = .ok (.istore 7, 2) := by decide +kernel
theorem dX9_acts_99 : decode cX9_acts 99 = .ok (.iinc 8 1, 3) := by decide +kernel
theorem dX9_acts_102 : decode cX9_acts 102 = .ok (.goto (-63), 3) := by decide +kernel
theorem dX9_acts_105 : decode cX9_acts 105 = .ok (.iload 7, 2) := by decide +kernel
theorem dX9_acts_107 : decode cX9_acts 107 = .ok (.ireturn, 1) := by decide +kernel
theorem dX9_heavy_0 : decode cX9_heavy 0 = .ok (.aload_n 0, 1) := by decide +kernel
theorem dX9_heavy_1 : decode cX9_heavy 1 = .ok (.iload_n 1, 1) := by decide +kernel
theorem dX9_heavy_2 : decode cX9_heavy 2 = .ok (.iload_n 2, 1) := by decide +kernel
theorem dX9_heavy_3 : decode cX9_heavy 3 = .ok (.iload_n 3, 1) := by decide +kernel
theorem dX9_heavy_4 : decode cX9_heavy 4 = .ok (.iload 4, 2) := by decide +kernel
theorem dX9_heavy_6 : decode cX9_heavy 6 = .ok (.invokevirtual 254, 3) := by decide +kernel
theorem dX9_heavy_9 : decode cX9_heavy 9 = .ok (.istore 6, 2) := by decide +kernel
theorem dX9_heavy_11 : decode cX9_heavy 11 = .ok (.iload 6, 2) := by decide +kernel
theorem dX9_heavy_13 : decode cX9_heavy 13 = .ok (.ifCond .eq 6, 3) := by decide +kernel
theorem dX9_heavy_16 : decode cX9_heavy 16 = .ok (.iload 6, 2) := by decide +kernel
theorem dX9_heavy_18 : decode cX9_heavy 18 = .ok (.ireturn, 1) := by decide +kernel
theorem dX9_heavy_19 : decode cX9_heavy 19 = .ok (.iload 5, 2) := by decide +kernel
theorem dX9_heavy_21 : decode cX9_heavy 21 = .ok (.iconst 0, 1) := by decide +kernel
theorem dX9_heavy_22 : decode cX9_heavy 22 = .ok (.bipush 11, 2) := by decide +kernel
theorem dX9_heavy_24 : decode cX9_heavy 24 = .ok (.invokestatic 78, 3) := by decide +kernel
theorem dX9_heavy_27 : decode cX9_heavy 27 = .ok (.ifCond .eq 12, 3) := by decide +kernel
theorem dX9_heavy_30 : decode cX9_heavy 30 = .ok (.iload 5, 2) := by decide +kernel
theorem dX9_heavy_32 : decode cX9_heavy 32 = .ok (.bipush 10, 2) := by decide +kernel
theorem dX9_heavy_34 : decode cX9_heavy 34 = .ok (.irem, 1) := by decide +kernel
theorem dX9_heavy_35 : decode cX9_heavy 35 = .ok (.iconst 1, 1) := by decide +kernel
theorem dX9_heavy_36 : decode cX9_heavy 36 = .ok (.if_icmp .le 6, 3) := by decide +kernel
theorem dX9_heavy_39 : decode cX9_heavy 39 = .ok (.bipush (-7), 2) := by decide +kernel
theorem dX9_heavy_41 : decode cX9_heavy 41 = .ok (.ireturn, 1) := by decide +kernel
theorem dX9_heavy_42 : decode cX9_heavy 42 = .ok (.iconst 5, 1) := by decide +kernel
theorem dX9_heavy_43 : decode cX9_heavy 43 = .ok (.iload_n 2, 1) := by decide +kernel
theorem dX9_heavy_44 : decode cX9_heavy 44 = .ok (.bipush 10, 2) := by decide +kernel
theorem dX9_heavy_46 : decode cX9_heavy 46 = .ok (.idiv, 1) := by decide +kernel
theorem dX9_heavy_47 : decode cX9_heavy 47 = .ok (.imul, 1) := by decide +kernel
theorem dX9_heavy_48 : decode cX9_heavy 48 = .ok (.iload 5, 2) := by decide +kernel
theorem dX9_heavy_50 : decode cX9_heavy 50 = .ok (.bipush 10, 2) := by decide +kernel
theorem dX9_heavy_52 : decode cX9_heavy 52 = .ok (.idiv, 1) := by decide +kernel
theorem dX9_heavy_53 : decode cX9_heavy 53 = .ok (.iadd, 1) := by decide +kernel
theorem dX9_heavy_54 : decode cX9_heavy 54 = .ok (.istore 7, 2) := by decide +kernel
theorem dX9_heavy_56 : decode cX9_heavy 56 = .ok (.aload_n 0, 1) := by decide +kernel
theorem dX9_heavy_57 : decode cX9_heavy 57 = .ok (.getfield 16, 3) := by decide +kernel
theorem dX9_heavy_60 : decode cX9_heavy 60 = .ok (.iload 7, 2) := by decide +kernel
theorem dX9_heavy_62 : decode cX9_heavy 62 = .ok (.iaload, 1) := by decide +kernel
theorem dX9_heavy_63 : decode cX9_heavy 63 = .ok (.istore 8, 2) := by decide +kernel
theorem dX9_heavy_65 : decode cX9_heavy 65 = .ok (.iconst 0, 1) := by decide +kernel
theorem dX9_heavy_66 : decode cX9_heavy 66 = .ok (.istore 9, 2) := by decide +kernel
theorem dX9_heavy_68 : decode cX9_heavy 68 = .ok (.iconst (-1), 1) := by decide +kernel
theorem dX9_heavy_69 : decode cX9_heavy 69 = .ok (.istore 10, 2) := by decide +kernel
theorem dX9_heavy_71 : decode cX9_heavy 71 = .ok (.iconst 0, 1) := by decide +kernel
theorem dX9_heavy_72 : decode cX9_heavy 72 = .ok (.istore 11, 2) := by decide +kernel
theorem dX9_heavy_74 : decode cX9_heavy 74 = .ok (.iload 11, 2) := by decide +kernel
theorem dX9_heavy_76 : decode cX9_heavy 76 = .ok (.bipush 99, 2) := by decide +kernel
theorem dX9_heavy_78 : decode cX9_heavy 78 = .ok (.if_icmp .gt 80, 3) := by decide +kernel
theorem dX9_heavy_81 : decode cX9_heavy 81 = .ok (.aload_n 0, 1) := by decide +kernel
theorem dX9_heavy_82 : decode cX9_heavy 82 = .ok (.getfield 16, 3) := by decide +kernel
theorem dX9_heavy_85 : decode cX9_heavy 85 = .ok (.iload 7, 2) := by decide +kernel
theorem dX9_heavy_87 : decode cX9_heavy 87 = .ok (.iload 11, 2) := by decide +kernel
theorem dX9_heavy_89 : decode cX9_heavy 89 = .ok (.iastore, 1) := by decide +kernel
theorem dX9_heavy_90 : decode cX9_heavy 90 = .ok (.aload_n 0, 1) := by decide +kernel
theorem dX9_heavy_91 : decode cX9_heavy 91 = .ok (.iload_n 1, 1) := by decide +kernel
theorem dX9_heavy_92 : decode cX9_heavy 92 = .ok (.iload_n 2, 1) := by decide +kernel
theorem dX9_heavy_93 : decode cX9_heavy 93 = .ok (.bipush 10, 2) := by decide +kernel
theorem dX9_heavy_95 : decode cX9_heavy 95 = .ok (.idiv, 1) := by decide +kernel
theorem dX9_heavy_96 : decode cX9_heavy 96 = .ok (.iload_n 2, 1) := by decide +kernel
theorem dX9_heavy_97 : decode cX9_heavy 97 = .ok (.bipush 10, 2) := by decide +kernel
theorem dX9_heavy_99 : decode cX9_heavy 99 = .ok (.irem, 1) := by decide +kernel
theorem dX9_heavy_100 : decode cX9_heavy 100 = .ok (.iload_n 3, 1) := by decide +kernel
theorem dX9_heavy_101 : decode cX9_heavy 101 = .ok (.iload 4, 2) := by decide +kernel
theorem dX9_heavy_103 : decode cX9_heavy 103 = .ok (.invokevirtual 257, 3) := by decide +kernel
theorem dX9_heavy_106 : decode cX9_heavy 106 = .ok (.iconst (-1), 1) := by decide +kernel
theorem dX9_heavy_107 : decode cX9_heavy 107 = .ok (.if_icmp .ne 7, 3) := by decide +kernel
theorem dX9_heavy_110 : decode cX9_heavy 110 = .ok (.iconst 1, 1) := by decide +kernel
theorem dX9_heavy_111 : decode cX9_heavy 111 = .ok (.goto 4, 3) := by decide +kernel
theorem dX9_heavy_114 : decode cX9_heavy 114 = .ok (.iconst 0, 1) := by decide +kernel
theorem dX9_heavy_115 : decode cX9_heavy 115 = .ok (.istore 12, 2) := by decide +kernel
theorem dX9_heavy_117 : decode cX9_heavy 117 = .ok (.iload 9, 2) := by decide +kernel
theorem dX9_heavy_119 : decode cX9_heavy 119 = .ok (.iload 12, 2) := by decide +kernel
theorem dX9_heavy_121 : decode cX9_heavy 121 = .ok (.ifCond .eq 7, 3) := by decide +kernel
theorem dX9_heavy_124 : decode cX9_heavy 124 = .ok (.iconst 1, 1) := by decide +kernel
theorem dX9_heavy_125 : decode cX9_heavy 125 = .ok (.goto 4, 3) := by decide +kernel
theorem dX9_heavy_128 : decode cX9_heavy 128 = .ok (.iconst 0, 1) := by decide +kernel
theorem dX9_heavy_129 : decode cX9_heavy 129 = .ok (.iadd, 1) := by decide +kernel
theorem dX9_heavy_130 : decode cX9_heavy 130 = .ok (.istore 9, 2) := by decide +kernel
theorem dX9_heavy_132 : decode cX9_heavy 132 = .ok (.iload 12, 2) := by decide +kernel
theorem dX9_heavy_134 : decode cX9_heavy 134 = .ok (.ifCond .eq 14, 3) := by decide +kernel
theorem dX9_heavy_137 : decode cX9_heavy 137 = .ok (.iload 10, 2) := by decide +kernel
theorem dX9_heavy_139 : decode cX9_heavy 139 = .ok (.iconst (-1), 1) := by decide +kernel
theorem dX9_heavy_140 : decode cX9_heavy 140 = .ok (.if_icmp .ne 8, 3) := by decide +kernel
theorem dX9_heavy_143 : decode cX9_heavy 143 = .ok (.iload 11, 2) := by decide +kernel
theorem dX9_heavy_145 : decode cX9_heavy 145 = .ok (.goto 5, 3) := by decide +kernel
theorem dX9_heavy_148 : decode cX9_heavy 148 = .ok (.iload 10, 2) := by decide +kernel
theorem dX9_heavy_150 : decode cX9_heavy 150 = .ok (.istore 10, 2) := by decide +kernel
theorem dX9_heavy_152 : decode cX9_heavy 152 = .ok (.iinc 11 1, 3) := by decide +kernel
theorem dX9_heavy_155 : decode cX9_heavy 155 = .ok (.goto (-81), 3) := by decide +kernel
theorem dX9_heavy_158 : decode cX9_heavy 158 = .ok (.aload_n 0, 1) := by decide +kernel
theorem dX9_heavy_159 : decode cX9_heavy 159 = .ok (.getfield 16, 3) := by decide +kernel
theorem dX9_heavy_162 : decode cX9_heavy 162 = .ok (.iload 7, 2) := by decide +kernel
theorem dX9_heavy_164 : decode cX9_heavy 164 = .ok (.iload 8, 2) := by decide +kernel
theorem dX9_heavy_166 : decode cX9_heavy 166 = .ok (.iastore, 1) := by decide +kernel
theorem dX9_heavy_167 : decode cX9_heavy 167 = .ok (.iload 5, 2) := by decide +kernel
theorem dX9_heavy_169 : decode cX9_heavy 169 = .ok (.bipush 10, 2) := by decide +kernel
theorem dX9_heavy_171 : decode cX9_heavy 171 = .ok (.irem, 1) := by decide +kernel
theorem dX9_heavy_172 : decode cX9_heavy 172 = .ok (.ifCond .ne 8, 3) := by decide +kernel
theorem dX9_heavy_175 : decode cX9_heavy 175 = .ok (.iload 9, 2) := by decide +kernel
theorem dX9_heavy_177 : decode cX9_heavy 177 = .ok (.goto 5, 3) := by decide +kernel
theorem dX9_heavy_180 : decode cX9_heavy 180 = .ok (.iload 10, 2) := by decide +kernel
theorem dX9_heavy_182 : decode cX9_heavy 182 = .ok (.ireturn, 1) := by decide +kernel
theorem dX9_laws_0 : decode cX9_laws 0 = .ok (.aload_n 0, 1) := by decide +kernel
theorem dX9_laws_1 : decode cX9_laws 1 = .ok (.iload_n 1, 1) := by decide +kernel
theorem dX9_laws_2 : decode cX9_laws 2 = .ok (.iload_n 2, 1) := by decide +kernel
theorem dX9_laws_3 : decode cX9_laws 3 = .ok (.iload_n 3, 1) := by decide +kernel
theorem dX9_laws_4 : decode cX9_laws 4 = .ok (.iload 4, 2) := by decide +kernel
theorem dX9_laws_6 : decode cX9_laws 6 = .ok (.invokevirtual 254, 3) := by decide +kernel
theorem dX9_laws_9 : decode cX9_laws 9 = .ok (.istore 5, 2) := by decide +kernel
theorem dX9_laws_11 : decode cX9_laws 11 = .ok (.iload 5, 2) := by decide +kernel
theorem dX9_laws_13 : decode cX9_laws 13 = .ok (.ifCond .eq 6, 3) := by decide +kernel
theorem dX9_laws_16 : decode cX9_laws 16 = .ok (.iload 5, 2) := by decide +kernel
theorem dX9_laws_18 : decode cX9_laws 18 = .ok (.ireturn, 1) := by decide +kernel
theorem dX9_laws_19 : decode cX9_laws 19 = .ok (.aload_n 0, 1) := by decide +kernel
theorem dX9_laws_20 : decode cX9_laws 20 = .ok (.getfield 97, 3) := by decide +kernel
theorem dX9_laws_23 : decode cX9_laws 23 = .ok (.istore 6, 2) := by decide +kernel
theorem dX9_laws_25 : decode cX9_laws 25 = .ok (.iconst 0, 1) := by decide +kernel
theorem dX9_laws_26 : decode cX9_laws 26 = .ok (.istore 7, 2) := by decide +kernel
theorem dX9_laws_28 : decode cX9_laws 28 = .ok (.iconst 0, 1) := by decide +kernel
theorem dX9_laws_29 : decode cX9_laws 29 = .ok (.istore 8, 2) := by decide +kernel
theorem dX9_laws_31 : decode cX9_laws 31 = .ok (.iload 8, 2) := by decide +kernel
theorem dX9_laws_33 : decode cX9_laws 33 = .ok (.aload_n 0, 1) := by decide +kernel
theorem dX9_laws_34 : decode cX9_laws 34 = .ok (.getfield 94, 3) := by decide +kernel
theorem dX9_laws_37 : decode cX9_laws 37 = .ok (.if_icmp .ge 48, 3) := by decide +kernel
theorem dX9_laws_40 : decode cX9_laws 40 = .ok (.aload_n 0, 1) := by decide +kernel
theorem dX9_laws_41 : decode cX9_laws 41 = .ok (.iload 8, 2) := by decide +kernel
theorem dX9_laws_43 : decode cX9_laws 43 = .ok (.putfield 97, 3) := by decide +kernel
theorem dX9_laws_46 : decode cX9_laws 46 = .ok (.iload 7, 2) := by decide +kernel
theorem dX9_laws_48 : decode cX9_laws 48 = .ok (.aload_n 0, 1) := by decide +kernel
theorem dX9_laws_49 : decode cX9_laws 49 = .ok (.iload_n 1, 1) := by decide +kernel
theorem dX9_laws_50 : decode cX9_laws 50 = .ok (.iload_n 2, 1) := by decide +kernel
theorem dX9_laws_51 : decode cX9_laws 51 = .ok (.bipush 10, 2) := by decide +kernel
theorem dX9_laws_53 : decode cX9_laws 53 = .ok (.idiv, 1) := by decide +kernel
theorem dX9_laws_54 : decode cX9_laws 54 = .ok (.iload_n 2, 1) := by decide +kernel
theorem dX9_laws_55 : decode cX9_laws 55 = .ok (.bipush 10, 2) := by decide +kernel
theorem dX9_laws_57 : decode cX9_laws 57 = .ok (.irem, 1) := by decide +kernel
theorem dX9_laws_58 : decode cX9_laws 58 = .ok (.iload_n 3, 1) := by decide +kernel
theorem dX9_laws_59 : decode cX9_laws 59 = .ok (.iload 4, 2) := by decide +kernel
theorem dX9_laws_61 : decode cX9_laws 61 = .ok (.invokevirtual 257, 3) := by decide +kernel
theorem dX9_laws_64 : decode cX9_laws 64 = .ok (.iconst (-1), 1) := by decide +kernel
theorem dX9_laws_65 : decode cX9_laws 65 = .ok (.if_icmp .ne 10, 3) := by decide +kernel
theorem dX9_laws_68 : decode cX9_laws 68 = .ok (.iconst 1, 1) := by decide +kernel
theorem dX9_laws_69 : decode cX9_laws 69 = .ok (.iload 8, 2) := by decide +kernel
theorem dX9_laws_71 : decode cX9_laws 71 = .ok (.ishl, 1) := by decide +kernel
theorem dX9_laws_72 : decode cX9_laws 72 = .ok (.goto 4, 3) := by decide +kernel
theorem dX9_laws_75 : decode cX9_laws 75 = .ok (.iconst 0, 1) := by decide +kernel
theorem dX9_laws_76 : decode cX9_laws 76 = .ok (.ior, 1) := by decide +kernel
theorem dX9_laws_77 : decode cX9_laws 77 = .ok (.istore 7, 2) := by decide +kernel
theorem dX9_laws_79 : decode cX9_laws 79 = .ok (.iinc 8 1, 3) := by decide +kernel
theorem dX9_laws_82 : decode cX9_laws 82 = .ok (.goto (-51), 3) := by decide +kernel
theorem dX9_laws_85 : decode cX9_laws 85 = .ok (.aload_n 0, 1) := by decide +kernel
theorem dX9_laws_86 : decode cX9_laws 86 = .ok (.iload 6, 2) := by decide +kernel
theorem dX9_laws_88 : decode cX9_laws 88 = .ok (.putfield 97, 3) := by decide +kernel
theorem dX9_laws_91 : decode cX9_laws 91 = .ok (.iload 7, 2) := by decide +kernel
theorem dX9_laws_93 : decode cX9_laws 93 = .ok (.ireturn, 1) := by decide +kernel
theorem dX9_whose_0 : decode cX9_whose 0 = .ok (.aload_n 0, 1) := by decide +kernel
theorem dX9_whose_1 : decode cX9_whose 1 = .ok (.iload_n 1, 1) := by decide +kernel
theorem dX9_whose_2 : decode cX9_whose 2 = .ok (.invokevirtual 251, 3) := by decide +kernel
theorem dX9_whose_5 : decode cX9_whose 5 = .ok (.istore 5, 2) := by decide +kernel
theorem dX9_whose_7 : decode cX9_whose 7 = .ok (.iload 5, 2) := by decide +kernel
theorem dX9_whose_9 : decode cX9_whose 9 = .ok (.ifCond .eq 6, 3) := by decide +kernel
theorem dX9_whose_12 : decode cX9_whose 12 = .ok (.iload 5, 2) := by decide +kernel
theorem dX9_whose_14 : decode cX9_whose 14 = .ok (.ireturn, 1) := by decide +kernel
theorem dX9_whose_15 : decode cX9_whose 15 = .ok (.aload_n 0, 1) := by decide +kernel
theorem dX9_whose_16 : decode cX9_whose 16 = .ok (.iload_n 2, 1) := by decide +kernel
theorem dX9_whose_17 : decode cX9_whose 17 = .ok (.invokevirtual 82, 3) := by decide +kernel
theorem dX9_whose_20 : decode cX9_whose 20 = .ok (.ifCond .ne 6, 3) := by decide +kernel
theorem dX9_whose_23 : decode cX9_whose 23 = .ok (.bipush (-5), 2) := by decide +kernel
theorem dX9_whose_25 : decode cX9_whose 25 = .ok (.ireturn, 1) := by decide +kernel
theorem dX9_whose_26 : decode cX9_whose 26 = .ok (.iload_n 3, 1) := by decide +kernel
theorem dX9_whose_27 : decode cX9_whose 27 = .ok (.invokestatic 220, 3) := by decide +kernel
theorem dX9_whose_30 : decode cX9_whose 30 = .ok (.ifCond .eq 11, 3) := by decide +kernel
theorem dX9_whose_33 : decode cX9_whose 33 = .ok (.iload 4, 2) := by decide +kernel
theorem dX9_whose_35 : decode cX9_whose 35 = .ok (.invokestatic 220, 3) := by decide +kernel
theorem dX9_whose_38 : decode cX9_whose 38 = .ok (.ifCond .ne 6, 3) := by decide +kernel
theorem dX9_whose_41 : decode cX9_whose 41 = .ok (.bipush (-7), 2) := by decide +kernel
theorem dX9_whose_43 : decode cX9_whose 43 = .ok (.ireturn, 1) := by decide +kernel
theorem dX9_whose_44 : decode cX9_whose 44 = .ok (.iconst 0, 1) := by decide +kernel
theorem dX9_whose_45 : decode cX9_whose 45 = .ok (.istore 6, 2) := by decide +kernel
theorem dX9_whose_47 : decode cX9_whose 47 = .ok (.iconst 0, 1) := by decide +kernel
theorem dX9_whose_48 : decode cX9_whose 48 = .ok (.istore 7, 2) := by decide +kernel
theorem dX9_whose_50 : decode cX9_whose 50 = .ok (.iload 7, 2) := by decide +kernel
theorem dX9_whose_52 : decode cX9_whose 52 = .ok (.aload_n 0, 1) := by decide +kernel
theorem dX9_whose_53 : decode cX9_whose 53 = .ok (.getfield 75, 3) := by decide +kernel
theorem dX9_whose_56 : decode cX9_whose 56 = .ok (.if_icmp .ge 43, 3) := by decide +kernel
theorem dX9_whose_59 : decode cX9_whose 59 = .ok (.iload 6, 2) := by decide +kernel
theorem dX9_whose_61 : decode cX9_whose 61 = .ok (.iload 7, 2) := by decide +kernel
theorem dX9_whose_63 : decode cX9_whose 63 = .ok (.iload_n 2, 1) := by decide +kernel
theorem dX9_whose_64 : decode cX9_whose 64 = .ok (.if_icmp .eq 25, 3) := by decide +kernel
theorem dX9_whose_67 : decode cX9_whose 67 = .ok (.aload_n 0, 1) := by decide +kernel
theorem dX9_whose_68 : decode cX9_whose 68 = .ok (.iload_n 1, 1) := by decide +kernel
theorem dX9_whose_69 : decode cX9_whose 69 = .ok (.iload_n 2, 1) := by decide +kernel
theorem dX9_whose_70 : decode cX9_whose 70 = .ok (.iload 7, 2) := by decide +kernel
theorem dX9_whose_72 : decode cX9_whose 72 = .ok (.iload_n 3, 1) := by decide +kernel
theorem dX9_whose_73 : decode cX9_whose 73 = .ok (.iload 4, 2) := by decide +kernel
theorem dX9_whose_75 : decode cX9_whose 75 = .ok (.invokevirtual 257, 3) := by decide +kernel
theorem dX9_whose_78 : decode cX9_whose 78 = .ok (.iconst (-1), 1) := by decide +kernel
theorem dX9_whose_79 : decode cX9_whose 79 = .ok (.if_icmp .ne 10, 3) := by decide +kernel
theorem dX9_whose_82 : decode cX9_whose 82 = .ok (.iconst 1, 1) := by decide +kernel
theorem dX9_whose_83 : decode cX9_whose 83 = .ok (.iload 7, 2) := by decide +kernel
theorem dX9_whose_85 : decode cX9_whose 85 = .ok (.ishl, 1) := by decide +kernel
theorem dX9_whose_86 : decode cX9_whose 86 = .ok (.goto 4, 3) := by decide +kernel
theorem dX9_whose_89 : decode cX9_whose 89 = .ok (.iconst 0, 1) := by decide +kernel
theorem dX9_whose_90 : decode cX9_whose 90 = .ok (.ior, 1) := by decide +kernel
theorem dX9_whose_91 : decode cX9_whose 91 = .ok (.istore 6, 2) := by decide +kernel
theorem dX9_whose_93 : decode cX9_whose 93 = .ok (.iinc 7 1, 3) := by decide +kernel
theorem dX9_whose_96 : decode cX9_whose 96 = .ok (.goto (-46), 3) := by decide +kernel
theorem dX9_whose_99 : decode cX9_whose 99 = .ok (.iload 6, 2) := by decide +kernel
theorem dX9_whose_101 : decode cX9_whose 101 = .ok (.ireturn, 1) := by decide +kernel
theorem dX9_film_0 : decode cX9_film 0 = .ok (.iload_n 1, 1) := by decide +kernel
theorem dX9_film_1 : decode cX9_film 1 = .ok (.iconst 0, 1) := by decide +kernel
theorem dX9_film_2 : decode cX9_film 2 = .ok (.iconst 3, 1) := by decide +kernel
theorem dX9_film_3 : decode cX9_film 3 = .ok (.invokestatic 78, 3) := by decide +kernel
theorem dX9_film_6 : decode cX9_film 6 = .ok (.ifCond .ne 6, 3) := by decide +kernel
theorem dX9_film_9 : decode cX9_film 9 = .ok (.bipush (-2), 2) := by decide +kernel
theorem dX9_film_11 : decode cX9_film 11 = .ok (.ireturn, 1) := by decide +kernel
theorem dX9_film_12 : decode cX9_film 12 = .ok (.aload_n 0, 1) := by decide +kernel
theorem dX9_film_13 : decode cX9_film 13 = .ok (.iload_n 2, 1) := by decide +kernel
theorem dX9_film_14 : decode cX9_film 14 = .ok (.invokevirtual 217, 3) := by decide +kernel
theorem dX9_film_17 : decode cX9_film 17 = .ok (.ifCond .ne 6, 3) := by decide +kernel
theorem dX9_film_20 : decode cX9_film 20 = .ok (.bipush (-5), 2) := by decide +kernel
theorem dX9_film_22 : decode cX9_film 22 = .ok (.ireturn, 1) := by decide +kernel
theorem dX9_film_23 : decode cX9_film 23 = .ok (.iload_n 3, 1) := by decide +kernel
theorem dX9_film_24 : decode cX9_film 24 = .ok (.invokestatic 220, 3) := by decide +kernel
theorem dX9_film_27 : decode cX9_film 27 = .ok (.ifCond .eq 11, 3) := by decide +kernel
theorem dX9_film_30 : decode cX9_film 30 = .ok (.iload 4, 2) := by decide +kernel
theorem dX9_film_32 : decode cX9_film 32 = .ok (.invokestatic 220, 3) := by decide +kernel
theorem dX9_film_35 : decode cX9_film 35 = .ok (.ifCond .ne 6, 3) := by decide +kernel
theorem dX9_film_38 : decode cX9_film 38 = .ok (.bipush (-7), 2) := by decide +kernel
theorem dX9_film_40 : decode cX9_film 40 = .ok (.ireturn, 1) := by decide +kernel
theorem dX9_film_41 : decode cX9_film 41 = .ok (.aload_n 0, 1) := by decide +kernel
theorem dX9_film_42 : decode cX9_film 42 = .ok (.iload_n 2, 1) := by decide +kernel
theorem dX9_film_43 : decode cX9_film 43 = .ok (.bipush 10, 2) := by decide +kernel
theorem dX9_film_45 : decode cX9_film 45 = .ok (.idiv, 1) := by decide +kernel
theorem dX9_film_46 : decode cX9_film 46 = .ok (.iload_n 2, 1) := by decide +kernel
theorem dX9_film_47 : decode cX9_film 47 = .ok (.bipush 10, 2) := by decide +kernel
theorem dX9_film_49 : decode cX9_film 49 = .ok (.irem, 1) := by decide +kernel
theorem dX9_film_50 : decode cX9_film 50 = .ok (.iload_n 3, 1) := by decide +kernel
theorem dX9_film_51 : decode cX9_film 51 = .ok (.iload 4, 2) := by decide +kernel
theorem dX9_film_53 : decode cX9_film 53 = .ok (.invokevirtual 223, 3) := by decide +kernel
theorem dX9_film_56 : decode cX9_film 56 = .ok (.aload_n 0, 1) := by decide +kernel
theorem dX9_film_57 : decode cX9_film 57 = .ok (.getfield 34, 3) := by decide +kernel
theorem dX9_film_60 : decode cX9_film 60 = .ok (.iload_n 1, 1) := by decide +kernel
theorem dX9_film_61 : decode cX9_film 61 = .ok (.iconst 0, 1) := by decide +kernel
theorem dX9_film_62 : decode cX9_film 62 = .ok (.iastore, 1) := by decide +kernel
theorem dX9_film_63 : decode cX9_film 63 = .ok (.aload_n 0, 1) := by decide +kernel
theorem dX9_film_64 : decode cX9_film 64 = .ok (.getfield 37, 3) := by decide +kernel
theorem dX9_film_67 : decode cX9_film 67 = .ok (.iload_n 1, 1) := by decide +kernel
theorem dX9_film_68 : decode cX9_film 68 = .ok (.aload_n 0, 1) := by decide +kernel
theorem dX9_film_69 : decode cX9_film 69 = .ok (.getfield 204, 3) := by decide +kernel
theorem dX9_film_72 : decode cX9_film 72 = .ok (.iastore, 1) := by decide +kernel
theorem dX9_film_73 : decode cX9_film 73 = .ok (.iconst 0, 1) := by decide +kernel
theorem dX9_film_74 : decode cX9_film 74 = .ok (.istore 5, 2) := by decide +kernel
theorem dX9_film_76 : decode cX9_film 76 = .ok (.iload 5, 2) := by decide +kernel
theorem dX9_film_78 : decode cX9_film 78 = .ok (.bipush 40, 2) := by decide +kernel
theorem dX9_film_80 : decode cX9_film 80 = .ok (.if_icmp .ge 49, 3) := by decide +kernel
theorem dX9_film_83 : decode cX9_film 83 = .ok (.aload_n 0, 1) := by decide +kernel
theorem dX9_film_84 : decode cX9_film 84 = .ok (.getfield 40, 3) := by decide +kernel
theorem dX9_film_87 : decode cX9_film 87 = .ok (.bipush 40, 2) := by decide +kernel
theorem dX9_film_89 : decode cX9_film 89 = .ok (.iload_n 1, 1) := by decide +kernel
theorem dX9_film_90 : decode cX9_film 90 = .ok (.imul, 1) := by decide +kernel
theorem dX9_film_91 : decode cX9_film 91 = .ok (.iload 5, 2) := by decide +kernel
theorem dX9_film_93 : decode cX9_film 93 = .ok (.iadd, 1) := by decide +kernel
theorem dX9_film_94 : decode cX9_film 94 = .ok (.iload 5, 2) := by decide +kernel
theorem dX9_film_96 : decode cX9_film 96 = .ok (.aload_n 0, 1) := by decide +kernel
theorem dX9_film_97 : decode cX9_film 97 = .ok (.getfield 204, 3) := by decide +kernel
theorem dX9_film_100 : decode cX9_film 100 = .ok (.if_icmp .ge 21, 3) := by decide +kernel
theorem dX9_film_103 : decode cX9_film 103 = .ok (.aload_n 0, 1) := by decide +kernel
theorem dX9_film_104 : decode cX9_film 104 = .ok (.getfield 61, 3) := by decide +kernel
theorem dX9_film_107 : decode cX9_film 107 = .ok (.iload 5, 2) := by decide +kernel
theorem dX9_film_109 : decode cX9_film 109 = .ok (.iconst 1, 1) := by decide +kernel
theorem dX9_film_110 : decode cX9_film 110 = .ok (.iadd, 1) := by decide +kernel
theorem dX9_film_111 : decode cX9_film 111 = .ok (.iconst 0, 1) := by decide +kernel
theorem dX9_film_112 : decode cX9_film 112 = .ok (.bipush 9, 2) := by decide +kernel
theorem dX9_film_114 : decode cX9_film 114 = .ok (.invokestatic 166, 3) := by decide +kernel
theorem dX9_film_117 : decode cX9_film 117 = .ok (.iaload, 1) := by decide +kernel
theorem dX9_film_118 : decode cX9_film 118 = .ok (.goto 4, 3) := by decide +kernel
theorem dX9_film_121 : decode cX9_film 121 = .ok (.iconst 0, 1) := by decide +kernel
theorem dX9_film_122 : decode cX9_film 122 = .ok (.iastore, 1) := by decide +kernel
theorem dX9_film_123 : decode cX9_film 123 = .ok (.iinc 5 1, 3) := by decide +kernel
theorem dX9_film_126 : decode cX9_film 126 = .ok (.goto (-50), 3) := by decide +kernel
theorem dX9_film_129 : decode cX9_film 129 = .ok (.aload_n 0, 1) := by decide +kernel
theorem dX9_film_130 : decode cX9_film 130 = .ok (.getfield 204, 3) := by decide +kernel
theorem dX9_film_133 : decode cX9_film 133 = .ok (.ireturn, 1) := by decide +kernel
theorem dX9_boutBy_0 : decode cX9_boutBy 0 = .ok (.iload_n 1, 1) := by decide +kernel
theorem dX9_boutBy_1 : decode cX9_boutBy 1 = .ok (.i2l, 1) := by decide +kernel
theorem dX9_boutBy_2 : decode cX9_boutBy 2 = .ok (.lconst 1, 1) := by decide +kernel
theorem dX9_boutBy_3 : decode cX9_boutBy 3 = .ok (.ladd, 1) := by decide +kernel
theorem dX9_boutBy_4 : decode cX9_boutBy 4 = .ok (.ldc2_w 260, 3) := by decide +kernel
theorem dX9_boutBy_7 : decode cX9_boutBy 7 = .ok (.lmul, 1) := by decide +kernel
theorem dX9_boutBy_8 : decode cX9_boutBy 8 = .ok (.ldc2_w 262, 3) := by decide +kernel
theorem dX9_boutBy_11 : decode cX9_boutBy 11 = .ok (.lrem, 1) := by decide +kernel
theorem dX9_boutBy_12 : decode cX9_boutBy 12 = .ok (.lstore_n 2, 1) := by decide +kernel
theorem dX9_boutBy_13 : decode cX9_boutBy 13 = .ok (.lload_n 2, 1) := by decide +kernel
theorem dX9_boutBy_14 : decode cX9_boutBy 14 = .ok (.ldc2_w 260, 3) := by decide +kernel
theorem dX9_boutBy_17 : decode cX9_boutBy 17 = .ok (.lmul, 1) := by decide +kernel
theorem dX9_boutBy_18 : decode cX9_boutBy 18 = .ok (.ldc2_w 262, 3) := by decide +kernel
theorem dX9_boutBy_21 : decode cX9_boutBy 21 = .ok (.lrem, 1) := by decide +kernel
theorem dX9_boutBy_22 : decode cX9_boutBy 22 = .ok (.lstore 4, 2) := by decide +kernel
theorem dX9_boutBy_24 : decode cX9_boutBy 24 = .ok (.aload_n 0, 1) := by decide +kernel
theorem dX9_boutBy_25 : decode cX9_boutBy 25 = .ok (.lload_n 2, 1) := by decide +kernel
theorem dX9_boutBy_26 : decode cX9_boutBy 26 = .ok (.ldc2_w 264, 3) := by decide +kernel
theorem dX9_boutBy_29 : decode cX9_boutBy 29 = .ok (.lrem, 1) := by decide +kernel
theorem dX9_boutBy_30 : decode cX9_boutBy 30 = .ok (.l2i, 1) := by decide +kernel
theorem dX9_boutBy_31 : decode cX9_boutBy 31 = .ok (.lload 4, 2) := by decide +kernel
theorem dX9_boutBy_33 : decode cX9_boutBy 33 = .ok (.ldc2_w 264, 3) := by decide +kernel
theorem dX9_boutBy_36 : decode cX9_boutBy 36 = .ok (.lrem, 1) := by decide +kernel
theorem dX9_boutBy_37 : decode cX9_boutBy 37 = .ok (.l2i, 1) := by decide +kernel
theorem dX9_boutBy_38 : decode cX9_boutBy 38 = .ok (.invokevirtual 214, 3) := by decide +kernel
theorem dX9_boutBy_41 : decode cX9_boutBy 41 = .ok (.return_, 1) := by decide +kernel
theorem dX9_drawn_0 : decode cX9_drawn 0 = .ok (.aload_n 0, 1) := by decide +kernel
theorem dX9_drawn_1 : decode cX9_drawn 1 = .ok (.iload_n 2, 1) := by decide +kernel
theorem dX9_drawn_2 : decode cX9_drawn 2 = .ok (.iload_n 3, 1) := by decide +kernel
theorem dX9_drawn_3 : decode cX9_drawn 3 = .ok (.invokevirtual 86, 3) := by decide +kernel
theorem dX9_drawn_6 : decode cX9_drawn 6 = .ok (.ifCond .ne 6, 3) := by decide +kernel
theorem dX9_drawn_9 : decode cX9_drawn 9 = .ok (.bipush (-5), 2) := by decide +kernel
theorem dX9_drawn_11 : decode cX9_drawn 11 = .ok (.ireturn, 1) := by decide +kernel
theorem dX9_drawn_12 : decode cX9_drawn 12 = .ok (.iload_n 1, 1) := by decide +kernel
theorem dX9_drawn_13 : decode cX9_drawn 13 = .ok (.iconst 0, 1) := by decide +kernel
theorem dX9_drawn_14 : decode cX9_drawn 14 = .ok (.ldc_w 266, 3) := by decide +kernel
theorem dX9_drawn_17 : decode cX9_drawn 17 = .ok (.invokestatic 78, 3) := by decide +kernel
theorem dX9_drawn_20 : decode cX9_drawn 20 = .ok (.ifCond .eq 13, 3) := by decide +kernel
theorem dX9_drawn_23 : decode cX9_drawn 23 = .ok (.iload 4, 2) := by decide +kernel
theorem dX9_drawn_25 : decode cX9_drawn 25 = .ok (.iconst 0, 1) := by decide +kernel
theorem dX9_drawn_26 : decode cX9_drawn 26 = .ok (.iconst 1, 1) := by decide +kernel
theorem dX9_drawn_27 : decode cX9_drawn 27 = .ok (.invokestatic 78, 3) := by decide +kernel
theorem dX9_drawn_30 : decode cX9_drawn 30 = .ok (.ifCond .ne 6, 3) := by decide +kernel
theorem dX9_drawn_33 : decode cX9_drawn 33 = .ok (.bipush (-7), 2) := by decide +kernel
theorem dX9_drawn_35 : decode cX9_drawn 35 = .ok (.ireturn, 1) := by decide +kernel
theorem dX9_drawn_36 : decode cX9_drawn 36 = .ok (.aload_n 0, 1) := by decide +kernel
theorem dX9_drawn_37 : decode cX9_drawn 37 = .ok (.iload_n 2, 1) := by decide +kernel
theorem dX9_drawn_38 : decode cX9_drawn 38 = .ok (.iload_n 3, 1) := by decide +kernel
theorem dX9_drawn_39 : decode cX9_drawn 39 = .ok (.invokevirtual 210, 3) := by decide +kernel
theorem dX9_drawn_42 : decode cX9_drawn 42 = .ok (.aload_n 0, 1) := by decide +kernel
theorem dX9_drawn_43 : decode cX9_drawn 43 = .ok (.iload_n 1, 1) := by decide +kernel
theorem dX9_drawn_44 : decode cX9_drawn 44 = .ok (.invokevirtual 267, 3) := by decide +kernel
theorem dX9_drawn_47 : decode cX9_drawn 47 = .ok (.iload 4, 2) := by decide +kernel
theorem dX9_drawn_49 : decode cX9_drawn 49 = .ok (.ifCond .ne 10, 3) := by decide +kernel
theorem dX9_drawn_52 : decode cX9_drawn 52 = .ok (.aload_n 0, 1) := by decide +kernel
theorem dX9_drawn_53 : decode cX9_drawn 53 = .ok (.getfield 201, 3) := by decide +kernel
theorem dX9_drawn_56 : decode cX9_drawn 56 = .ok (.goto 7, 3) := by decide +kernel
theorem dX9_drawn_59 : decode cX9_drawn 59 = .ok (.aload_n 0, 1) := by decide +kernel
theorem dX9_drawn_60 : decode cX9_drawn 60 = .ok (.getfield 204, 3) := by decide +kernel
theorem dX9_drawn_63 : decode cX9_drawn 63 = .ok (.ireturn, 1) := by decide +kernel
theorem dX9_odds_0 : decode cX9_odds 0 = .ok (.iload_n 1, 1) := by decide +kernel
theorem dX9_odds_1 : decode cX9_odds 1 = .ok (.iconst 0, 1) := by decide +kernel
theorem dX9_odds_2 : decode cX9_odds 2 = .ok (.ldc_w 266, 3) := by decide +kernel
theorem dX9_odds_5 : decode cX9_odds 5 = .ok (.invokestatic 78, 3) := by decide +kernel
theorem dX9_odds_8 : decode cX9_odds 8 = .ok (.ifCond .eq 33, 3) := by decide +kernel
theorem dX9_odds_11 : decode cX9_odds 11 = .ok (.iload_n 2, 1) := by decide +kernel
theorem dX9_odds_12 : decode cX9_odds 12 = .ok (.iconst 1, 1) := by decide +kernel
theorem dX9_odds_13 : decode cX9_odds 13 = .ok (.bipush 40, 2) := by decide +kernel
theorem dX9_odds_15 : decode cX9_odds 15 = .ok (.invokestatic 78, 3) := by decide +kernel
theorem dX9_odds_18 : decode cX9_odds 18 = .ok (.ifCond .eq 23, 3) := by decide +kernel
theorem dX9_odds_21 : decode cX9_odds 21 = .ok (.aload_n 0, 1) := by decide +kernel
theorem dX9_odds_22 : decode cX9_odds 22 = .ok (.iload_n 3, 1) := by decide +kernel
theorem dX9_odds_23 : decode cX9_odds 23 = .ok (.iload 4, 2) := by decide +kernel
theorem dX9_odds_25 : decode cX9_odds 25 = .ok (.invokevirtual 86, 3) := by decide +kernel
theorem dX9_odds_28 : decode cX9_odds 28 = .ok (.ifCond .eq 13, 3) := by decide +kernel
theorem dX9_odds_31 : decode cX9_odds 31 = .ok (.iload 5, 2) := by decide +kernel
theorem dX9_odds_33 : decode cX9_odds 33 = .ok (.iconst 0, 1) := by decide +kernel
theorem dX9_odds_34 : decode cX9_odds 34 = .ok (.iconst 1, 1) := by decide +kernel
theorem dX9_odds_35 : decode cX9_odds 35 = .ok (.invokestatic 78, 3) := by decide +kernel
theorem dX9_odds_38 : decode cX9_odds 38 = .ok (.ifCond .ne 7, 3) := by decide +kernel
theorem dX9_odds_41 : decode cX9_odds 41 = .ok (.ldc2_w 236, 3) := by decide +kernel
theorem dX9_odds_44 : decode cX9_odds 44 = .ok (.lreturn, 1) := by decide +kernel
theorem dX9_odds_45 : decode cX9_odds 45 = .ok (.aload_n 0, 1) := by decide +kernel
theorem dX9_odds_46 : decode cX9_odds 46 = .ok (.iload_n 3, 1) := by decide +kernel
theorem dX9_odds_47 : decode cX9_odds 47 = .ok (.iload 4, 2) := by decide +kernel
theorem dX9_odds_49 : decode cX9_odds 49 = .ok (.invokevirtual 210, 3) := by decide +kernel
theorem dX9_odds_52 : decode cX9_odds 52 = .ok (.lconst 0, 1) := by decide +kernel
theorem dX9_odds_53 : decode cX9_odds 53 = .ok (.lstore 6, 2) := by decide +kernel
theorem dX9_odds_55 : decode cX9_odds 55 = .ok (.iconst 0, 1) := by decide +kernel
theorem dX9_odds_56 : decode cX9_odds 56 = .ok (.istore 8, 2) := by decide +kernel
theorem dX9_odds_58 : decode cX9_odds 58 = .ok (.iload 8, 2) := by decide +kernel
theorem dX9_odds_60 : decode cX9_odds 60 = .ok (.iload_n 2, 1) := by decide +kernel
theorem dX9_odds_61 : decode cX9_odds 61 = .ok (.if_icmp .ge 35, 3) := by decide +kernel
theorem dX9_odds_64 : decode cX9_odds 64 = .ok (.aload_n 0, 1) := by decide +kernel
theorem dX9_odds_65 : decode cX9_odds 65 = .ok (.iload_n 1, 1) := by decide +kernel
theorem dX9_odds_66 : decode cX9_odds 66 = .ok (.iload 8, 2) := by decide +kernel
theorem dX9_odds_68 : decode cX9_odds 68 = .ok (.iadd, 1) := by decide +kernel
theorem dX9_odds_69 : decode cX9_odds 69 = .ok (.invokevirtual 267, 3) := by decide +kernel
theorem dX9_odds_72 : decode cX9_odds 72 = .ok (.lload 6, 2) := by decide +kernel
theorem dX9_odds_74 : decode cX9_odds 74 = .ok (.aload_n 0, 1) := by decide +kernel
theorem dX9_odds_75 : decode cX9_odds 75 = .ok (.getfield 201, 3) := by decide +kernel
theorem dX9_odds_78 : decode cX9_odds 78 = .ok (.iload_n 3, 1) := by decide +kernel
theorem dX9_odds_79 : decode cX9_odds 79 = .ok (.if_icmp .ne 7, 3) := by decide +kernel
theorem dX9_odds_82 : decode cX9_odds 82 = .ok (.lconst 1, 1) := by decide +kernel
theorem dX9_odds_83 : decode cX9_odds 83 = .ok (.goto 4, 3) := by decide +kernel
theorem dX9_odds_86 : decode cX9_odds 86 = .ok (.lconst 0, 1) := by decide +kernel
theorem dX9_odds_87 : decode cX9_odds 87 = .ok (.ladd, 1) := by decide +kernel
theorem dX9_odds_88 : decode cX9_odds 88 = .ok (.lstore 6, 2) := by decide +kernel
theorem dX9_odds_90 : decode cX9_odds 90 = .ok (.iinc 8 1, 3) := by decide +kernel
theorem dX9_odds_93 : decode cX9_odds 93 = .ok (.goto (-35), 3) := by decide +kernel
theorem dX9_odds_96 : decode cX9_odds 96 = .ok (.lload 6, 2) := by decide +kernel
theorem dX9_odds_98 : decode cX9_odds 98 = .ok (.iload_n 2, 1) := by decide +kernel
theorem dX9_odds_99 : decode cX9_odds 99 = .ok (.i2l, 1) := by decide +kernel
theorem dX9_odds_100 : decode cX9_odds 100 = .ok (.iload 5, 2) := by decide +kernel
theorem dX9_odds_102 : decode cX9_odds 102 = .ok (.invokestatic 238, 3) := by decide +kernel
theorem dX9_odds_105 : decode cX9_odds 105 = .ok (.lreturn, 1) := by decide +kernel
theorem dX9_image_0 : decode cX9_image 0 = .ok (.aload_n 0, 1) := by decide +kernel
theorem dX9_image_1 : decode cX9_image 1 = .ok (.iconst 1, 1) := by decide +kernel
theorem dX9_image_2 : decode cX9_image 2 = .ok (.putfield 270, 3) := by decide +kernel
theorem dX9_image_5 : decode cX9_image 5 = .ok (.iconst 0, 1) := by decide +kernel
theorem dX9_image_6 : decode cX9_image 6 = .ok (.istore_n 1, 1) := by decide +kernel
theorem dX9_image_7 : decode cX9_image 7 = .ok (.iload_n 1, 1) := by decide +kernel
theorem dX9_image_8 : decode cX9_image 8 = .ok (.bipush 30, 2) := by decide +kernel
theorem dX9_image_10 : decode cX9_image 10 = .ok (.if_icmp .ge 21, 3) := by decide +kernel
theorem dX9_image_13 : decode cX9_image 13 = .ok (.aload_n 0, 1) := by decide +kernel
theorem dX9_image_14 : decode cX9_image 14 = .ok (.getfield 28, 3) := by decide +kernel
theorem dX9_image_17 : decode cX9_image 17 = .ok (.iload_n 1, 1) := by decide +kernel
theorem dX9_image_18 : decode cX9_image 18 = .ok (.aload_n 0, 1) := by decide +kernel
theorem dX9_image_19 : decode cX9_image 19 = .ok (.getfield 16, 3) := by decide +kernel
theorem dX9_image_22 : decode cX9_image 22 = .ok (.iload_n 1, 1) := by decide +kernel
theorem dX9_image_23 : decode cX9_image 23 = .ok (.iaload, 1) := by decide +kernel
theorem dX9_image_24 : decode cX9_image 24 = .ok (.iastore, 1) := by decide +kernel
theorem dX9_image_25 : decode cX9_image 25 = .ok (.iinc 1 1, 3) := by decide +kernel
theorem dX9_image_28 : decode cX9_image 28 = .ok (.goto (-21), 3) := by decide +kernel
theorem dX9_image_31 : decode cX9_image 31 = .ok (.aload_n 0, 1) := by decide +kernel
theorem dX9_image_32 : decode cX9_image 32 = .ok (.getfield 31, 3) := by decide +kernel
theorem dX9_image_35 : decode cX9_image 35 = .ok (.iconst 0, 1) := by decide +kernel
theorem dX9_image_36 : decode cX9_image 36 = .ok (.aload_n 0, 1) := by decide +kernel
theorem dX9_image_37 : decode cX9_image 37 = .ok (.getfield 75, 3) := by decide +kernel
theorem dX9_image_40 : decode cX9_image 40 = .ok (.iastore, 1) := by decide +kernel
theorem dX9_image_41 : decode cX9_image 41 = .ok (.aload_n 0, 1) := by decide +kernel
theorem dX9_image_42 : decode cX9_image 42 = .ok (.getfield 31, 3) := by decide +kernel
theorem dX9_image_45 : decode cX9_image 45 = .ok (.iconst 1, 1) := by decide +kernel
theorem dX9_image_46 : decode cX9_image 46 = .ok (.aload_n 0, 1) := by decide +kernel
theorem dX9_image_47 : decode cX9_image 47 = .ok (.getfield 91, 3) := by decide +kernel
theorem dX9_image_50 : decode cX9_image 50 = .ok (.iastore, 1) := by decide +kernel
theorem dX9_image_51 : decode cX9_image 51 = .ok (.aload_n 0, 1) := by decide +kernel
theorem dX9_image_52 : decode cX9_image 52 = .ok (.getfield 31, 3) := by decide +kernel
theorem dX9_image_55 : decode cX9_image 55 = .ok (.iconst 2, 1) := by decide +kernel
theorem dX9_image_56 : decode cX9_image 56 = .ok (.aload_n 0, 1) := by decide +kernel
theorem dX9_image_57 : decode cX9_image 57 = .ok (.getfield 97, 3) := by decide +kernel
theorem dX9_image_60 : decode cX9_image 60 = .ok (.iastore, 1) := by decide +kernel
theorem dX9_image_61 : decode cX9_image 61 = .ok (.aload_n 0, 1) := by decide +kernel
theorem dX9_image_62 : decode cX9_image 62 = .ok (.getfield 75, 3) := by decide +kernel
theorem dX9_image_65 : decode cX9_image 65 = .ok (.ireturn, 1) := by decide +kernel
theorem dX9_back_0 : decode cX9_back 0 = .ok (.aload_n 0, 1) := by decide +kernel
theorem dX9_back_1 : decode cX9_back 1 = .ok (.getfield 270, 3) := by decide +kernel
theorem dX9_back_4 : decode cX9_back 4 = .ok (.ifCond .ne 6, 3) := by decide +kernel
theorem dX9_back_7 : decode cX9_back 7 = .ok (.bipush (-3), 2) := by decide +kernel
theorem dX9_back_9 : decode cX9_back 9 = .ok (.ireturn, 1) := by decide +kernel
theorem dX9_back_10 : decode cX9_back 10 = .ok (.iconst 0, 1) := by decide +kernel
theorem dX9_back_11 : decode cX9_back 11 = .ok (.istore_n 1, 1) := by decide +kernel
theorem dX9_back_12 : decode cX9_back 12 = .ok (.iload_n 1, 1) := by decide +kernel
theorem dX9_back_13 : decode cX9_back 13 = .ok (.bipush 30, 2) := by decide +kernel
theorem dX9_back_15 : decode cX9_back 15 = .ok (.if_icmp .ge 21, 3) := by decide +kernel
theorem dX9_back_18 : decode cX9_back 18 = .ok (.aload_n 0, 1) := by decide +kernel
theorem dX9_back_19 : decode cX9_back 19 = .ok (.getfield 16, 3) := by decide +kernel
theorem dX9_back_22 : decode cX9_back 22 = .ok (.iload_n 1, 1) := by decide +kernel
theorem dX9_back_23 : decode cX9_back 23 = .ok (.aload_n 0, 1) := by decide +kernel
theorem dX9_back_24 : decode cX9_back 24 = .ok (.getfield 28, 3) := by decide +kernel
theorem dX9_back_27 : decode cX9_back 27 = .ok (.iload_n 1, 1) := by decide +kernel
theorem dX9_back_28 : decode cX9_back 28 = .ok (.iaload, 1) := by decide +kernel
theorem dX9_back_29 : decode cX9_back 29 = .ok (.iastore, 1) := by decide +kernel
theorem dX9_back_30 : decode cX9_back 30 = .ok (.iinc 1 1, 3) := by decide +kernel
theorem dX9_back_33 : decode cX9_back 33 = .ok (.goto (-21), 3) := by decide +kernel
theorem dX9_back_36 : decode cX9_back 36 = .ok (.aload_n 0, 1) := by decide +kernel
theorem dX9_back_37 : decode cX9_back 37 = .ok (.aload_n 0, 1) := by decide +kernel
theorem dX9_back_38 : decode cX9_back 38 = .ok (.getfield 31, 3) := by decide +kernel
theorem dX9_back_41 : decode cX9_back 41 = .ok (.iconst 0, 1) := by decide +kernel
theorem dX9_back_42 : decode cX9_back 42 = .ok (.iaload, 1) := by decide +kernel
theorem dX9_back_43 : decode cX9_back 43 = .ok (.putfield 75, 3) := by decide +kernel
theorem dX9_back_46 : decode cX9_back 46 = .ok (.aload_n 0, 1) := by decide +kernel
theorem dX9_back_47 : decode cX9_back 47 = .ok (.aload_n 0, 1) := by decide +kernel
theorem dX9_back_48 : decode cX9_back 48 = .ok (.getfield 31, 3) := by decide +kernel
theorem dX9_back_51 : decode cX9_back 51 = .ok (.iconst 1, 1) := by decide +kernel
theorem dX9_back_52 : decode cX9_back 52 = .ok (.iaload, 1) := by decide +kernel
theorem dX9_back_53 : decode cX9_back 53 = .ok (.putfield 91, 3) := by decide +kernel
theorem dX9_back_56 : decode cX9_back 56 = .ok (.aload_n 0, 1) := by decide +kernel
theorem dX9_back_57 : decode cX9_back 57 = .ok (.aload_n 0, 1) := by decide +kernel
theorem dX9_back_58 : decode cX9_back 58 = .ok (.getfield 31, 3) := by decide +kernel
theorem dX9_back_61 : decode cX9_back 61 = .ok (.iconst 2, 1) := by decide +kernel
theorem dX9_back_62 : decode cX9_back 62 = .ok (.iaload, 1) := by decide +kernel
theorem dX9_back_63 : decode cX9_back 63 = .ok (.putfield 97, 3) := by decide +kernel
theorem dX9_back_66 : decode cX9_back 66 = .ok (.aload_n 0, 1) := by decide +kernel
theorem dX9_back_67 : decode cX9_back 67 = .ok (.getfield 75, 3) := by decide +kernel
theorem dX9_back_70 : decode cX9_back 70 = .ok (.ireturn, 1) := by decide +kernel
theorem dX9_sheet_0 : decode cX9_sheet 0 = .ok (.iload_n 1, 1) := by decide +kernel
theorem dX9_sheet_1 : decode cX9_sheet 1 = .ok (.iconst 0, 1) := by decide +kernel
theorem dX9_sheet_2 : decode cX9_sheet 2 = .ok (.iconst 3, 1) := by decide +kernel
theorem dX9_sheet_3 : decode cX9_sheet 3 = .ok (.invokestatic 78, 3) := by decide +kernel
theorem dX9_sheet_6 : decode cX9_sheet 6 = .ok (.ifCond .eq 23, 3) := by decide +kernel
theorem dX9_sheet_9 : decode cX9_sheet 9 = .ok (.iload_n 2, 1) := by decide +kernel
theorem dX9_sheet_10 : decode cX9_sheet 10 = .ok (.iconst (-1), 1) := by decide +kernel
theorem dX9_sheet_11 : decode cX9_sheet 11 = .ok (.iconst 2, 1) := by decide +kernel
theorem dX9_sheet_12 : decode cX9_sheet 12 = .ok (.invokestatic 78, 3) := by decide +kernel
theorem dX9_sheet_15 : decode cX9_sheet 15 = .ok (.ifCond .eq 14, 3) := by decide +kernel
theorem dX9_sheet_18 : decode cX9_sheet 18 = .ok (.iload_n 2, 1) := by decide +kernel
theorem dX9_sheet_19 : decode cX9_sheet 19 = .ok (.iconst (-1), 1) := by decide +kernel
theorem dX9_sheet_20 : decode cX9_sheet 20 = .ok (.if_icmp .eq 12, 3) := by decide +kernel
theorem dX9_sheet_23 : decode cX9_sheet 23 = .ok (.iload_n 3, 1) := by decide +kernel
theorem dX9_sheet_24 : decode cX9_sheet 24 = .ok (.bipush 40, 2) := by decide +kernel
theorem dX9_sheet_26 : decode cX9_sheet 26 = .ok (.if_icmp .le 6, 3) := by decide +kernel
theorem dX9_sheet_29 : decode cX9_sheet 29 = .ok (.bipush (-2), 2) := by decide +kernel
theorem dX9_sheet_31 : decode cX9_sheet 31 = .ok (.ireturn, 1) := by decide +kernel
theorem dX9_sheet_32 : decode cX9_sheet 32 = .ok (.iload_n 2, 1) := by decide +kernel
theorem dX9_sheet_33 : decode cX9_sheet 33 = .ok (.iconst (-1), 1) := by decide +kernel
theorem dX9_sheet_34 : decode cX9_sheet 34 = .ok (.if_icmp .eq 10, 3) := by decide +kernel
theorem dX9_sheet_37 : decode cX9_sheet 37 = .ok (.iload_n 3, 1) := by decide +kernel
theorem dX9_sheet_38 : decode cX9_sheet 38 = .ok (.ifCond .ge 6, 3) := by decide +kernel
theorem dX9_sheet_41 : decode cX9_sheet 41 = .ok (.bipush (-14), 2) := by decide +kernel
theorem dX9_sheet_43 : decode cX9_sheet 43 = .ok (.ireturn, 1) := by decide +kernel
theorem dX9_sheet_44 : decode cX9_sheet 44 = .ok (.aload_n 0, 1) := by decide +kernel
theorem dX9_sheet_45 : decode cX9_sheet 45 = .ok (.getfield 34, 3) := by decide +kernel
theorem dX9_sheet_48 : decode cX9_sheet 48 = .ok (.iload_n 1, 1) := by decide +kernel
theorem dX9_sheet_49 : decode cX9_sheet 49 = .ok (.iload_n 2, 1) := by decide +kernel
theorem dX9_sheet_50 : decode cX9_sheet 50 = .ok (.iastore, 1) := by decide +kernel
theorem dX9_sheet_51 : decode cX9_sheet 51 = .ok (.aload_n 0, 1) := by decide +kernel
theorem dX9_sheet_52 : decode cX9_sheet 52 = .ok (.getfield 37, 3) := by decide +kernel
theorem dX9_sheet_55 : decode cX9_sheet 55 = .ok (.iload_n 1, 1) := by decide +kernel
theorem dX9_sheet_56 : decode cX9_sheet 56 = .ok (.iload_n 2, 1) := by decide +kernel
theorem dX9_sheet_57 : decode cX9_sheet 57 = .ok (.iconst (-1), 1) := by decide +kernel
theorem dX9_sheet_58 : decode cX9_sheet 58 = .ok (.if_icmp .ne 7, 3) := by decide +kernel
theorem dX9_sheet_61 : decode cX9_sheet 61 = .ok (.iconst 0, 1) := by decide +kernel
theorem dX9_sheet_62 : decode cX9_sheet 62 = .ok (.goto 4, 3) := by decide +kernel
theorem dX9_sheet_65 : decode cX9_sheet 65 = .ok (.iload_n 3, 1) := by decide +kernel
theorem dX9_sheet_66 : decode cX9_sheet 66 = .ok (.iastore, 1) := by decide +kernel
theorem dX9_sheet_67 : decode cX9_sheet 67 = .ok (.iconst 0, 1) := by decide +kernel
theorem dX9_sheet_68 : decode cX9_sheet 68 = .ok (.istore 4, 2) := by decide +kernel
theorem dX9_sheet_70 : decode cX9_sheet 70 = .ok (.iload 4, 2) := by decide +kernel
theorem dX9_sheet_72 : decode cX9_sheet 72 = .ok (.bipush 40, 2) := by decide +kernel
theorem dX9_sheet_74 : decode cX9_sheet 74 = .ok (.if_icmp .ge 22, 3) := by decide +kernel
theorem dX9_sheet_77 : decode cX9_sheet 77 = .ok (.aload_n 0, 1) := by decide +kernel
theorem dX9_sheet_78 : decode cX9_sheet 78 = .ok (.getfield 40, 3) := by decide +kernel
theorem dX9_sheet_81 : decode cX9_sheet 81 = .ok (.bipush 40, 2) := by decide +kernel
theorem dX9_sheet_83 : decode cX9_sheet 83 = .ok (.iload_n 1, 1) := by decide +kernel
theorem dX9_sheet_84 : decode cX9_sheet 84 = .ok (.imul, 1) := by decide +kernel
theorem dX9_sheet_85 : decode cX9_sheet 85 = .ok (.iload 4, 2) := by decide +kernel
theorem dX9_sheet_87 : decode cX9_sheet 87 = .ok (.iadd, 1) := by decide +kernel
theorem dX9_sheet_88 : decode cX9_sheet 88 = .ok (.iconst 0, 1) := by decide +kernel
theorem dX9_sheet_89 : decode cX9_sheet 89 = .ok (.iastore, 1) := by decide +kernel
theorem dX9_sheet_90 : decode cX9_sheet 90 = .ok (.iinc 4 1, 3) := by decide +kernel
theorem dX9_sheet_93 : decode cX9_sheet 93 = .ok (.goto (-23), 3) := by decide +kernel
theorem dX9_sheet_96 : decode cX9_sheet 96 = .ok (.iconst 1, 1) := by decide +kernel
theorem dX9_sheet_97 : decode cX9_sheet 97 = .ok (.ireturn, 1) := by decide +kernel
theorem dX9_cell_0 : decode cX9_cell 0 = .ok (.iload_n 1, 1) := by decide +kernel
theorem dX9_cell_1 : decode cX9_cell 1 = .ok (.iconst 0, 1) := by decide +kernel
theorem dX9_cell_2 : decode cX9_cell 2 = .ok (.iconst 3, 1) := by decide +kernel
theorem dX9_cell_3 : decode cX9_cell 3 = .ok (.invokestatic 78, 3) := by decide +kernel
theorem dX9_cell_6 : decode cX9_cell 6 = .ok (.ifCond .ne 6, 3) := by decide +kernel
theorem dX9_cell_9 : decode cX9_cell 9 = .ok (.bipush (-2), 2) := by decide +kernel
theorem dX9_cell_11 : decode cX9_cell 11 = .ok (.ireturn, 1) := by decide +kernel
theorem dX9_cell_12 : decode cX9_cell 12 = .ok (.aload_n 0, 1) := by decide +kernel
theorem dX9_cell_13 : decode cX9_cell 13 = .ok (.getfield 34, 3) := by decide +kernel
theorem dX9_cell_16 : decode cX9_cell 16 = .ok (.iload_n 1, 1) := by decide +kernel
theorem dX9_cell_17 : decode cX9_cell 17 = .ok (.iaload, 1) := by decide +kernel
theorem dX9_cell_18 : decode cX9_cell 18 = .ok (.iconst (-1), 1) := by decide +kernel
theorem dX9_cell_19 : decode cX9_cell 19 = .ok (.if_icmp .ne 6, 3) := by decide +kernel
theorem dX9_cell_22 : decode cX9_cell 22 = .ok (.bipush (-11), 2) := by decide +kernel
theorem dX9_cell_24 : decode cX9_cell 24 = .ok (.ireturn, 1) := by decide +kernel
theorem dX9_cell_25 : decode cX9_cell 25 = .ok (.iload_n 2, 1) := by decide +kernel
theorem dX9_cell_26 : decode cX9_cell 26 = .ok (.iconst 0, 1) := by decide +kernel
theorem dX9_cell_27 : decode cX9_cell 27 = .ok (.aload_n 0, 1) := by decide +kernel
theorem dX9_cell_28 : decode cX9_cell 28 = .ok (.getfield 37, 3) := by decide +kernel
theorem dX9_cell_31 : decode cX9_cell 31 = .ok (.iload_n 1, 1) := by decide +kernel
theorem dX9_cell_32 : decode cX9_cell 32 = .ok (.iaload, 1) := by decide +kernel
theorem dX9_cell_33 : decode cX9_cell 33 = .ok (.iconst 1, 1) := by decide +kernel
theorem dX9_cell_34 : decode cX9_cell 34 = .ok (.isub, 1) := by decide +kernel
theorem dX9_cell_35 : decode cX9_cell 35 = .ok (.invokestatic 78, 3) := by decide +kernel
theorem dX9_cell_38 : decode cX9_cell 38 = .ok (.ifCond .ne 6, 3) := by decide +kernel
theorem dX9_cell_41 : decode cX9_cell 41 = .ok (.bipush (-12), 2) := by decide +kernel
theorem dX9_cell_43 : decode cX9_cell 43 = .ok (.ireturn, 1) := by decide +kernel
theorem dX9_cell_44 : decode cX9_cell 44 = .ok (.aload_n 0, 1) := by decide +kernel
theorem dX9_cell_45 : decode cX9_cell 45 = .ok (.getfield 40, 3) := by decide +kernel
theorem dX9_cell_48 : decode cX9_cell 48 = .ok (.bipush 40, 2) := by decide +kernel
theorem dX9_cell_50 : decode cX9_cell 50 = .ok (.iload_n 1, 1) := by decide +kernel
theorem dX9_cell_51 : decode cX9_cell 51 = .ok (.imul, 1) := by decide +kernel
theorem dX9_cell_52 : decode cX9_cell 52 = .ok (.iload_n 2, 1) := by decide +kernel
theorem dX9_cell_53 : decode cX9_cell 53 = .ok (.iadd, 1) := by decide +kernel
theorem dX9_cell_54 : decode cX9_cell 54 = .ok (.aload_n 0, 1) := by decide +kernel
theorem dX9_cell_55 : decode cX9_cell 55 = .ok (.getfield 34, 3) := by decide +kernel
theorem dX9_cell_58 : decode cX9_cell 58 = .ok (.iload_n 1, 1) := by decide +kernel
theorem dX9_cell_59 : decode cX9_cell 59 = .ok (.iaload, 1) := by decide +kernel
theorem dX9_cell_60 : decode cX9_cell 60 = .ok (.ifCond .ne 8, 3) := by decide +kernel
theorem dX9_cell_63 : decode cX9_cell 63 = .ok (.iload_n 3, 1) := by decide +kernel
theorem dX9_cell_64 : decode cX9_cell 64 = .ok (.i2b, 1) := by decide +kernel
theorem dX9_cell_65 : decode cX9_cell 65 = .ok (.goto 19, 3) := by decide +kernel
theorem dX9_cell_68 : decode cX9_cell 68 = .ok (.aload_n 0, 1) := by decide +kernel
theorem dX9_cell_69 : decode cX9_cell 69 = .ok (.getfield 34, 3) := by decide +kernel
theorem dX9_cell_72 : decode cX9_cell 72 = .ok (.iload_n 1, 1) := by decide +kernel
theorem dX9_cell_73 : decode cX9_cell 73 = .ok (.iaload, 1) := by decide +kernel
theorem dX9_cell_74 : decode cX9_cell 74 = .ok (.iconst 1, 1) := by decide +kernel
theorem dX9_cell_75 : decode cX9_cell 75 = .ok (.if_icmp .ne 8, 3) := by decide +kernel
theorem dX9_cell_78 : decode cX9_cell 78 = .ok (.iload_n 3, 1) := by decide +kernel
theorem dX9_cell_79 : decode cX9_cell 79 = .ok (.i2s, 1) := by decide +kernel
theorem dX9_cell_80 : decode cX9_cell 80 = .ok (.goto 4, 3) := by decide +kernel
theorem dX9_cell_83 : decode cX9_cell 83 = .ok (.iload_n 3, 1) := by decide +kernel
theorem dX9_cell_84 : decode cX9_cell 84 = .ok (.iastore, 1) := by decide +kernel
theorem dX9_cell_85 : decode cX9_cell 85 = .ok (.iconst 1, 1) := by decide +kernel
theorem dX9_cell_86 : decode cX9_cell 86 = .ok (.ireturn, 1) := by decide +kernel
theorem dX9_copy_0 : decode cX9_copy 0 = .ok (.iload_n 1, 1) := by decide +kernel
theorem dX9_copy_1 : decode cX9_copy 1 = .ok (.iconst 0, 1) := by decide +kernel
theorem dX9_copy_2 : decode cX9_copy 2 = .ok (.iconst 3, 1) := by decide +kernel
theorem dX9_copy_3 : decode cX9_copy 3 = .ok (.invokestatic 78, 3) := by decide +kernel
theorem dX9_copy_6 : decode cX9_copy 6 = .ok (.ifCond .eq 12, 3) := by decide +kernel
theorem dX9_copy_9 : decode cX9_copy 9 = .ok (.iload_n 3, 1) := by decide +kernel
theorem dX9_copy_10 : decode cX9_copy 10 = .ok (.iconst 0, 1) := by decide +kernel
theorem dX9_copy_11 : decode cX9_copy 11 = .ok (.iconst 3, 1) := by decide +kernel
theorem dX9_copy_12 : decode cX9_copy 12 = .ok (.invokestatic 78, 3) := by decide +kernel
theorem dX9_copy_15 : decode cX9_copy 15 = .ok (.ifCond .ne 6, 3) := by decide +kernel
theorem dX9_copy_18 : decode cX9_copy 18 = .ok (.bipush (-2), 2) := by decide +kernel
theorem dX9_copy_20 : decode cX9_copy 20 = .ok (.ireturn, 1) := by decide +kernel
theorem dX9_copy_21 : decode cX9_copy 21 = .ok (.aload_n 0, 1) := by decide +kernel
theorem dX9_copy_22 : decode cX9_copy 22 = .ok (.getfield 34, 3) := by decide +kernel
theorem dX9_copy_25 : decode cX9_copy 25 = .ok (.iload_n 1, 1) := by decide +kernel
theorem dX9_copy_26 : decode cX9_copy 26 = .ok (.iaload, 1) := by decide +kernel
theorem dX9_copy_27 : decode cX9_copy 27 = .ok (.iconst (-1), 1) := by decide +kernel
theorem dX9_copy_28 : decode cX9_copy 28 = .ok (.if_icmp .eq 13, 3) := by decide +kernel
theorem dX9_copy_31 : decode cX9_copy 31 = .ok (.aload_n 0, 1) := by decide +kernel
theorem dX9_copy_32 : decode cX9_copy 32 = .ok (.getfield 34, 3) := by decide +kernel
theorem dX9_copy_35 : decode cX9_copy 35 = .ok (.iload_n 3, 1) := by decide +kernel
theorem dX9_copy_36 : decode cX9_copy 36 = .ok (.iaload, 1) := by decide +kernel
theorem dX9_copy_37 : decode cX9_copy 37 = .ok (.iconst (-1), 1) := by decide +kernel
theorem dX9_copy_38 : decode cX9_copy 38 = .ok (.if_icmp .ne 6, 3) := by decide +kernel
theorem dX9_copy_41 : decode cX9_copy 41 = .ok (.bipush (-11), 2) := by decide +kernel
theorem dX9_copy_43 : decode cX9_copy 43 = .ok (.ireturn, 1) := by decide +kernel
theorem dX9_copy_44 : decode cX9_copy 44 = .ok (.aload_n 0, 1) := by decide +kernel
theorem dX9_copy_45 : decode cX9_copy 45 = .ok (.getfield 34, 3) := by decide +kernel
theorem dX9_copy_48 : decode cX9_copy 48 = .ok (.iload_n 1, 1) := by decide +kernel
theorem dX9_copy_49 : decode cX9_copy 49 = .ok (.iaload, 1) := by decide +kernel
theorem dX9_copy_50 : decode cX9_copy 50 = .ok (.aload_n 0, 1) := by decide +kernel
theorem dX9_copy_51 : decode cX9_copy 51 = .ok (.getfield 34, 3) := by decide +kernel
theorem dX9_copy_54 : decode cX9_copy 54 = .ok (.iload_n 3, 1) := by decide +kernel
theorem dX9_copy_55 : decode cX9_copy 55 = .ok (.iaload, 1) := by decide +kernel
theorem dX9_copy_56 : decode cX9_copy 56 = .ok (.if_icmp .eq 6, 3) := by decide +kernel
theorem dX9_copy_59 : decode cX9_copy 59 = .ok (.bipush (-13), 2) := by decide +kernel
theorem dX9_copy_61 : decode cX9_copy 61 = .ok (.ireturn, 1) := by decide +kernel
theorem dX9_copy_62 : decode cX9_copy 62 = .ok (.iload 5, 2) := by decide +kernel
theorem dX9_copy_64 : decode cX9_copy 64 = .ok (.ifCond .lt 60, 3) := by decide +kernel
theorem dX9_copy_67 : decode cX9_copy 67 = .ok (.iload_n 2, 1) := by decide +kernel
theorem dX9_copy_68 : decode cX9_copy 68 = .ok (.ifCond .lt 56, 3) := by decide +kernel
theorem dX9_copy_71 : decode cX9_copy 71 = .ok (.iload 4, 2) := by decide +kernel
theorem dX9_copy_73 : decode cX9_copy 73 = .ok (.ifCond .lt 51, 3) := by decide +kernel
theorem dX9_copy_76 : decode cX9_copy 76 = .ok (.iload_n 2, 1) := by decide +kernel
theorem dX9_copy_77 : decode cX9_copy 77 = .ok (.aload_n 0, 1) := by decide +kernel
theorem dX9_copy_78 : decode cX9_copy 78 = .ok (.getfield 37, 3) := by decide +kernel
theorem dX9_copy_81 : decode cX9_copy 81 = .ok (.iload_n 1, 1) := by decide +kernel
theorem dX9_copy_82 : decode cX9_copy 82 = .ok (.iaload, 1) := by decide +kernel
theorem dX9_copy_83 : decode cX9_copy 83 = .ok (.if_icmp .gt 41, 3) := by decide +kernel
theorem dX9_copy_86 : decode cX9_copy 86 = .ok (.iload 4, 2) := by decide +kernel
theorem dX9_copy_88 : decode cX9_copy 88 = .ok (.aload_n 0, 1) := by decide +kernel
theorem dX9_copy_89 : decode cX9_copy 89 = .ok (.getfield 37, 3) := by decide +kernel
theorem dX9_copy_92 : decode cX9_copy 92 = .ok (.iload_n 3, 1) := by decide +kernel
theorem dX9_copy_93 : decode cX9_copy 93 = .ok (.iaload, 1) := by decide +kernel
theorem dX9_copy_94 : decode cX9_copy 94 = .ok (.if_icmp .gt 30, 3) := by decide +kernel
theorem dX9_copy_97 : decode cX9_copy 97 = .ok (.iload 5, 2) := by decide +kernel
theorem dX9_copy_99 : decode cX9_copy 99 = .ok (.aload_n 0, 1) := by decide +kernel
theorem dX9_copy_100 : decode cX9_copy 100 = .ok (.getfield 37, 3) := by decide +kernel
theorem dX9_copy_103 : decode cX9_copy 103 = .ok (.iload_n 1, 1) := by decide +kernel
theorem dX9_copy_104 : decode cX9_copy 104 = .ok (.iaload, 1) := by decide +kernel
theorem dX9_copy_105 : decode cX9_copy 105 = .ok (.iload_n 2, 1) := by decide +kernel
theorem dX9_copy_106 : decode cX9_copy 106 = .ok (.isub, 1) := by decide +kernel
theorem dX9_copy_107 : decode cX9_copy 107 = .ok (.if_icmp .gt 17, 3) := by decide +kernel
theorem dX9_copy_110 : decode cX9_copy 110 = .ok (.iload 5, 2) := by decide +kernel
theorem dX9_copy_112 : decode cX9_copy 112 = .ok (.aload_n 0, 1) := by decide +kernel
theorem dX9_copy_113 : decode cX9_copy 113 = .ok (.getfield 37, 3) := by decide +kernel
theorem dX9_copy_116 : decode cX9_copy 116 = .ok (.iload_n 3, 1) := by decide +kernel
theorem dX9_copy_117 : decode cX9_copy 117 = .ok (.iaload, 1) := by decide +kernel
theorem dX9_copy_118 : decode cX9_copy 118 = .ok (.iload 4, 2) := by decide +kernel
theorem dX9_copy_120 : decode cX9_copy 120 = .ok (.isub, 1) := by decide +kernel
theorem dX9_copy_121 : decode cX9_copy 121 = .ok (.if_icmp .le 6, 3) := by decide +kernel
theorem dX9_copy_124 : decode cX9_copy 124 = .ok (.bipush (-12), 2) := by decide +kernel
theorem dX9_copy_126 : decode cX9_copy 126 = .ok (.ireturn, 1) := by decide +kernel
theorem dX9_copy_127 : decode cX9_copy 127 = .ok (.bipush 40, 2) := by decide +kernel
theorem dX9_copy_129 : decode cX9_copy 129 = .ok (.iload_n 1, 1) := by decide +kernel
theorem dX9_copy_130 : decode cX9_copy 130 = .ok (.imul, 1) := by decide +kernel
theorem dX9_copy_131 : decode cX9_copy 131 = .ok (.iload_n 2, 1) := by decide +kernel
theorem dX9_copy_132 : decode cX9_copy 132 = .ok (.iadd, 1) := by decide +kernel
theorem dX9_copy_133 : decode cX9_copy 133 = .ok (.istore 6, 2) := by decide +kernel
theorem dX9_copy_135 : decode cX9_copy 135 = .ok (.bipush 40, 2) := by decide +kernel
theorem dX9_copy_137 : decode cX9_copy 137 = .ok (.iload_n 3, 1) := by decide +kernel
theorem dX9_copy_138 : decode cX9_copy 138 = .ok (.imul, 1) := by decide +kernel
theorem dX9_copy_139 : decode cX9_copy 139 = .ok (.iload 4, 2) := by decide +kernel
theorem dX9_copy_141 : decode cX9_copy 141 = .ok (.iadd, 1) := by decide +kernel
theorem dX9_copy_142 : decode cX9_copy 142 = .ok (.istore 7, 2) := by decide +kernel
theorem dX9_copy_144 : decode cX9_copy 144 = .ok (.iconst 0, 1) := by decide +kernel
theorem dX9_copy_145 : decode cX9_copy 145 = .ok (.istore 8, 2) := by decide +kernel
theorem dX9_copy_147 : decode cX9_copy 147 = .ok (.iload 8, 2) := by decide +kernel
theorem dX9_copy_149 : decode cX9_copy 149 = .ok (.iload 5, 2) := by decide +kernel
theorem dX9_copy_151 : decode cX9_copy 151 = .ok (.if_icmp .ge 50, 3) := by decide +kernel
theorem dX9_copy_154 : decode cX9_copy 154 = .ok (.iload 6, 2) := by decide +kernel
theorem dX9_copy_156 : decode cX9_copy 156 = .ok (.iload 7, 2) := by decide +kernel
theorem dX9_copy_158 : decode cX9_copy 158 = .ok (.if_icmp .ge 13, 3) := by decide +kernel
theorem dX9_copy_161 : decode cX9_copy 161 = .ok (.iload 5, 2) := by decide +kernel
theorem dX9_copy_163 : decode cX9_copy 163 = .ok (.iconst 1, 1) := by decide +kernel
theorem dX9_copy_164 : decode cX9_copy 164 = .ok (.isub, 1) := by decide +kernel
theorem dX9_copy_165 : decode cX9_copy 165 = .ok (.iload 8, 2) := by decide +kernel
theorem dX9_copy_167 : decode cX9_copy 167 = .ok (.isub, 1) := by decide +kernel
theorem dX9_copy_168 : decode cX9_copy 168 = .ok (.goto 5, 3) := by decide +kernel
theorem dX9_copy_171 : decode cX9_copy 171 = .ok (.iload 8, 2) := by decide +kernel
theorem dX9_copy_173 : decode cX9_copy 173 = .ok (.istore 9, 2) := by decide +kernel
theorem dX9_copy_175 : decode cX9_copy 175 = .ok (.aload_n 0, 1) := by decide +kernel
theorem dX9_copy_176 : decode cX9_copy 176 = .ok (.getfield 40, 3) := by decide +kernel
theorem dX9_copy_179 : decode cX9_copy 179 = .ok (.iload 7, 2) := by decide +kernel
theorem dX9_copy_181 : decode cX9_copy 181 = .ok (.iload 9, 2) := by decide +kernel
theorem dX9_copy_183 : decode cX9_copy 183 = .ok (.iadd, 1) := by decide +kernel
theorem dX9_copy_184 : decode cX9_copy 184 = .ok (.aload_n 0, 1) := by decide +kernel
theorem dX9_copy_185 : decode cX9_copy 185 = .ok (.getfield 40, 3) := by decide +kernel
theorem dX9_copy_188 : decode cX9_copy 188 = .ok (.iload 6, 2) := by decide +kernel
theorem dX9_copy_190 : decode cX9_copy 190 = .ok (.iload 9, 2) := by decide +kernel
theorem dX9_copy_192 : decode cX9_copy 192 = .ok (.iadd, 1) := by decide +kernel
theorem dX9_copy_193 : decode cX9_copy 193 = .ok (.iaload, 1) := by decide +kernel
theorem dX9_copy_194 : decode cX9_copy 194 = .ok (.iastore, 1) := by decide +kernel
theorem dX9_copy_195 : decode cX9_copy 195 = .ok (.iinc 8 1, 3) := by decide +kernel
theorem dX9_copy_198 : decode cX9_copy 198 = .ok (.goto (-51), 3) := by decide +kernel
theorem dX9_copy_201 : decode cX9_copy 201 = .ok (.iload 5, 2) := by decide +kernel
theorem dX9_copy_203 : decode cX9_copy 203 = .ok (.ireturn, 1) := by decide +kernel
theorem dX9_menBy_0 : decode cX9_menBy 0 = .ok (.iload_n 1, 1) := by decide +kernel
theorem dX9_menBy_1 : decode cX9_menBy 1 = .ok (.iconst 0, 1) := by decide +kernel
theorem dX9_menBy_2 : decode cX9_menBy 2 = .ok (.iconst 3, 1) := by decide +kernel
theorem dX9_menBy_3 : decode cX9_menBy 3 = .ok (.invokestatic 78, 3) := by decide +kernel
theorem dX9_menBy_6 : decode cX9_menBy 6 = .ok (.ifCond .eq 23, 3) := by decide +kernel
theorem dX9_menBy_9 : decode cX9_menBy 9 = .ok (.iload_n 2, 1) := by decide +kernel
theorem dX9_menBy_10 : decode cX9_menBy 10 = .ok (.iconst 0, 1) := by decide +kernel
theorem dX9_menBy_11 : decode cX9_menBy 11 = .ok (.iconst 2, 1) := by decide +kernel
theorem dX9_menBy_12 : decode cX9_menBy 12 = .ok (.invokestatic 78, 3) := by decide +kernel
theorem dX9_menBy_15 : decode cX9_menBy 15 = .ok (.ifCond .eq 14, 3) := by decide +kernel
theorem dX9_menBy_18 : decode cX9_menBy 18 = .ok (.iload 4, 2) := by decide +kernel
theorem dX9_menBy_20 : decode cX9_menBy 20 = .ok (.iconst 0, 1) := by decide +kernel
theorem dX9_menBy_21 : decode cX9_menBy 21 = .ok (.bipush 6, 2) := by decide +kernel
theorem dX9_menBy_23 : decode cX9_menBy 23 = .ok (.invokestatic 78, 3) := by decide +kernel
theorem dX9_menBy_26 : decode cX9_menBy 26 = .ok (.ifCond .ne 6, 3) := by decide +kernel
theorem dX9_menBy_29 : decode cX9_menBy 29 = .ok (.bipush (-2), 2) := by decide +kernel
theorem dX9_menBy_31 : decode cX9_menBy 31 = .ok (.ireturn, 1) := by decide +kernel
theorem dX9_menBy_32 : decode cX9_menBy 32 = .ok (.aload_n 0, 1) := by decide +kernel
theorem dX9_menBy_33 : decode cX9_menBy 33 = .ok (.getfield 34, 3) := by decide +kernel
theorem dX9_menBy_36 : decode cX9_menBy 36 = .ok (.iload_n 1, 1) := by decide +kernel
theorem dX9_menBy_37 : decode cX9_menBy 37 = .ok (.iaload, 1) := by decide +kernel
theorem dX9_menBy_38 : decode cX9_menBy 38 = .ok (.iconst (-1), 1) := by decide +kernel
theorem dX9_menBy_39 : decode cX9_menBy 39 = .ok (.if_icmp .ne 6, 3) := by decide +kernel
theorem dX9_menBy_42 : decode cX9_menBy 42 = .ok (.bipush (-11), 2) := by decide +kernel
theorem dX9_menBy_44 : decode cX9_menBy 44 = .ok (.ireturn, 1) := by decide +kernel
theorem dX9_menBy_45 : decode cX9_menBy 45 = .ok (.aload_n 0, 1) := by decide +kernel
theorem dX9_menBy_46 : decode cX9_menBy 46 = .ok (.getfield 34, 3) := by decide +kernel
theorem dX9_menBy_49 : decode cX9_menBy 49 = .ok (.iload_n 1, 1) := by decide +kernel
theorem dX9_menBy_50 : decode cX9_menBy 50 = .ok (.iaload, 1) := by decide +kernel
theorem dX9_menBy_51 : decode cX9_menBy 51 = .ok (.iload_n 2, 1) := by decide +kernel
theorem dX9_menBy_52 : decode cX9_menBy 52 = .ok (.if_icmp .eq 6, 3) := by decide +kernel
theorem dX9_menBy_55 : decode cX9_menBy 55 = .ok (.bipush (-13), 2) := by decide +kernel
theorem dX9_menBy_57 : decode cX9_menBy 57 = .ok (.ireturn, 1) := by decide +kernel
theorem dX9_menBy_58 : decode cX9_menBy 58 = .ok (.iconst 0, 1) := by decide +kernel
theorem dX9_menBy_59 : decode cX9_menBy 59 = .ok (.istore 5, 2) := by decide +kernel
theorem dX9_menBy_61 : decode cX9_menBy 61 = .ok (.iconst 0, 1) := by decide +kernel
theorem dX9_menBy_62 : decode cX9_menBy 62 = .ok (.istore 6, 2) := by decide +kernel
theorem dX9_menBy_64 : decode cX9_menBy 64 = .ok (.iload 6, 2) := by decide +kernel
theorem dX9_menBy_66 : decode cX9_menBy 66 = .ok (.iload 4, 2) := by decide +kernel
theorem dX9_menBy_68 : decode cX9_menBy 68 = .ok (.if_icmp .ge 85, 3) := by decide +kernel
theorem dX9_menBy_71 : decode cX9_menBy 71 = .ok (.iload_n 3, 1) := by decide +kernel
theorem dX9_menBy_72 : decode cX9_menBy 72 = .ok (.iconst 2, 1) := by decide +kernel
theorem dX9_menBy_73 : decode cX9_menBy 73 = .ok (.iload 6, 2) := by decide +kernel
theorem dX9_menBy_75 : decode cX9_menBy 75 = .ok (.imul, 1) := by decide +kernel
theorem dX9_menBy_76 : decode cX9_menBy 76 = .ok (.iadd, 1) := by decide +kernel
theorem dX9_menBy_77 : decode cX9_menBy 77 = .ok (.istore 7, 2) := by decide +kernel
theorem dX9_menBy_79 : decode cX9_menBy 79 = .ok (.iload_n 3, 1) := by decide +kernel
theorem dX9_menBy_80 : decode cX9_menBy 80 = .ok (.ifCond .lt 22, 3) := by decide +kernel
theorem dX9_menBy_83 : decode cX9_menBy 83 = .ok (.iload 7, 2) := by decide +kernel
theorem dX9_menBy_85 : decode cX9_menBy 85 = .ok (.iload_n 3, 1) := by decide +kernel
theorem dX9_menBy_86 : decode cX9_menBy 86 = .ok (.if_icmp .lt 16, 3) := by decide +kernel
theorem dX9_menBy_89 : decode cX9_menBy 89 = .ok (.iload 7, 2) := by decide +kernel
theorem dX9_menBy_91 : decode cX9_menBy 91 = .ok (.aload_n 0, 1) := by decide +kernel
theorem dX9_menBy_92 : decode cX9_menBy 92 = .ok (.getfield 37, 3) := by decide +kernel
theorem dX9_menBy_95 : decode cX9_menBy 95 = .ok (.iload_n 1, 1) := by decide +kernel
theorem dX9_menBy_96 : decode cX9_menBy 96 = .ok (.iaload, 1) := by decide +kernel
theorem dX9_menBy_97 : decode cX9_menBy 97 = .ok (.iconst 2, 1) := by decide +kernel
theorem dX9_menBy_98 : decode cX9_menBy 98 = .ok (.isub, 1) := by decide +kernel
theorem dX9_menBy_99 : decode cX9_menBy 99 = .ok (.if_icmp .le 6, 3) := by decide +kernel
theorem dX9_menBy_102 : decode cX9_menBy 102 = .ok (.bipush (-12), 2) := by decide +kernel
theorem dX9_menBy_104 : decode cX9_menBy 104 = .ok (.ireturn, 1) := by decide +kernel
theorem dX9_menBy_105 : decode cX9_menBy 105 = .ok (.bipush 40, 2) := by decide +kernel
theorem dX9_menBy_107 : decode cX9_menBy 107 = .ok (.iload_n 1, 1) := by decide +kernel
theorem dX9_menBy_108 : decode cX9_menBy 108 = .ok (.imul, 1) := by decide +kernel
theorem dX9_menBy_109 : decode cX9_menBy 109 = .ok (.iload 7, 2) := by decide +kernel
theorem dX9_menBy_111 : decode cX9_menBy 111 = .ok (.iadd, 1) := by decide +kernel
theorem dX9_menBy_112 : decode cX9_menBy 112 = .ok (.istore 8, 2) := by decide +kernel
theorem dX9_menBy_114 : decode cX9_menBy 114 = .ok (.iload 5, 2) := by decide +kernel
theorem dX9_menBy_116 : decode cX9_menBy 116 = .ok (.aload_n 0, 1) := by decide +kernel
theorem dX9_menBy_117 : decode cX9_menBy 117 = .ok (.aload_n 0, 1) := by decide +kernel
theorem dX9_menBy_118 : decode cX9_menBy 118 = .ok (.getfield 40, 3) := by decide +kernel
theorem dX9_menBy_121 : decode cX9_menBy 121 = .ok (.iload 8, 2) := by decide +kernel
theorem dX9_menBy_123 : decode cX9_menBy 123 = .ok (.iaload, 1) := by decide +kernel
theorem dX9_menBy_124 : decode cX9_menBy 124 = .ok (.aload_n 0, 1) := by decide +kernel
theorem dX9_menBy_125 : decode cX9_menBy 125 = .ok (.getfield 40, 3) := by decide +kernel
theorem dX9_menBy_128 : decode cX9_menBy 128 = .ok (.iload 8, 2) := by decide +kernel
theorem dX9_menBy_130 : decode cX9_menBy 130 = .ok (.iconst 1, 1) := by decide +kernel
theorem dX9_menBy_131 : decode cX9_menBy 131 = .ok (.iadd, 1) := by decide +kernel
theorem dX9_menBy_132 : decode cX9_menBy 132 = .ok (.iaload, 1) := by decide +kernel
theorem dX9_menBy_133 : decode cX9_menBy 133 = .ok (.invokevirtual 274, 3) := by decide +kernel
theorem dX9_menBy_136 : decode cX9_menBy 136 = .ok (.ifCond .lt 7, 3) := by decide +kernel
theorem dX9_menBy_139 : decode cX9_menBy 139 = .ok (.iconst 1, 1) := by decide +kernel
theorem dX9_menBy_140 : decode cX9_menBy 140 = .ok (.goto 4, 3) := by decide +kernel
theorem dX9_menBy_143 : decode cX9_menBy 143 = .ok (.iconst 0, 1) := by decide +kernel
theorem dX9_menBy_144 : decode cX9_menBy 144 = .ok (.iadd, 1) := by decide +kernel
theorem dX9_menBy_145 : decode cX9_menBy 145 = .ok (.istore 5, 2) := by decide +kernel
theorem dX9_menBy_147 : decode cX9_menBy 147 = .ok (.iinc 6 1, 3) := by decide +kernel
theorem dX9_menBy_150 : decode cX9_menBy 150 = .ok (.goto (-86), 3) := by decide +kernel
theorem dX9_menBy_153 : decode cX9_menBy 153 = .ok (.iload 5, 2) := by decide +kernel
theorem dX9_menBy_155 : decode cX9_menBy 155 = .ok (.ireturn, 1) := by decide +kernel
theorem dX9_isUnder_0 : decode cX9_isUnder 0 = .ok (.iload_n 1, 1) := by decide +kernel
theorem dX9_isUnder_1 : decode cX9_isUnder 1 = .ok (.ifCond .eq 28, 3) := by decide +kernel
theorem dX9_isUnder_4 : decode cX9_isUnder 4 = .ok (.iload_n 0, 1) := by decide +kernel
theorem dX9_isUnder_5 : decode cX9_isUnder 5 = .ok (.iload_n 1, 1) := by decide +kernel
theorem dX9_isUnder_6 : decode cX9_isUnder 6 = .ok (.if_icmp .eq 23, 3) := by decide +kernel
theorem dX9_isUnder_9 : decode cX9_isUnder 9 = .ok (.iload_n 1, 1) := by decide +kernel
theorem dX9_isUnder_10 : decode cX9_isUnder 10 = .ok (.iconst 1, 1) := by decide +kernel
theorem dX9_isUnder_11 : decode cX9_isUnder 11 = .ok (.if_icmp .ne 8, 3) := by decide +kernel
theorem dX9_isUnder_14 : decode cX9_isUnder 14 = .ok (.iload_n 0, 1) := by decide +kernel
theorem dX9_isUnder_15 : decode cX9_isUnder 15 = .ok (.iconst 3, 1) := by decide +kernel
theorem dX9_isUnder_16 : decode cX9_isUnder 16 = .ok (.if_icmp .eq 13, 3) := by decide +kernel
theorem dX9_isUnder_19 : decode cX9_isUnder 19 = .ok (.iload_n 1, 1) := by decide +kernel
theorem dX9_isUnder_20 : decode cX9_isUnder 20 = .ok (.iconst 2, 1) := by decide +kernel
theorem dX9_isUnder_21 : decode cX9_isUnder 21 = .ok (.if_icmp .ne 12, 3) := by decide +kernel
theorem dX9_isUnder_24 : decode cX9_isUnder 24 = .ok (.iload_n 0, 1) := by decide +kernel
theorem dX9_isUnder_25 : decode cX9_isUnder 25 = .ok (.iconst 4, 1) := by decide +kernel
theorem dX9_isUnder_26 : decode cX9_isUnder 26 = .ok (.if_icmp .ne 7, 3) := by decide +kernel
theorem dX9_isUnder_29 : decode cX9_isUnder 29 = .ok (.iconst 1, 1) := by decide +kernel
theorem dX9_isUnder_30 : decode cX9_isUnder 30 = .ok (.goto 4, 3) := by decide +kernel
theorem dX9_isUnder_33 : decode cX9_isUnder 33 = .ok (.iconst 0, 1) := by decide +kernel
theorem dX9_isUnder_34 : decode cX9_isUnder 34 = .ok (.ireturn, 1) := by decide +kernel
theorem dX9_taken_0 : decode cX9_taken 0 = .ok (.iload_n 2, 1) := by decide +kernel
theorem dX9_taken_1 : decode cX9_taken 1 = .ok (.iconst 0, 1) := by decide +kernel
theorem dX9_taken_2 : decode cX9_taken 2 = .ok (.bipush 6, 2) := by decide +kernel
theorem dX9_taken_4 : decode cX9_taken 4 = .ok (.invokestatic 78, 3) := by decide +kernel
theorem dX9_taken_7 : decode cX9_taken 7 = .ok (.ifCond .ne 6, 3) := by decide +kernel
theorem dX9_taken_10 : decode cX9_taken 10 = .ok (.bipush (-2), 2) := by decide +kernel
theorem dX9_taken_12 : decode cX9_taken 12 = .ok (.ireturn, 1) := by decide +kernel
theorem dX9_taken_13 : decode cX9_taken 13 = .ok (.iload_n 1, 1) := by decide +kernel
theorem dX9_taken_14 : decode cX9_taken 14 = .ok (.iconst 0, 1) := by decide +kernel
theorem dX9_taken_15 : decode cX9_taken 15 = .ok (.bipush 11, 2) := by decide +kernel
theorem dX9_taken_17 : decode cX9_taken 17 = .ok (.invokestatic 78, 3) := by decide +kernel
theorem dX9_taken_20 : decode cX9_taken 20 = .ok (.ifCond .ne 6, 3) := by decide +kernel
theorem dX9_taken_23 : decode cX9_taken 23 = .ok (.bipush (-12), 2) := by decide +kernel
theorem dX9_taken_25 : decode cX9_taken 25 = .ok (.ireturn, 1) := by decide +kernel
theorem dX9_taken_26 : decode cX9_taken 26 = .ok (.iload_n 1, 1) := by decide +kernel
theorem dX9_taken_27 : decode cX9_taken 27 = .ok (.bipush 6, 2) := by decide +kernel
theorem dX9_taken_29 : decode cX9_taken 29 = .ok (.irem, 1) := by decide +kernel
theorem dX9_taken_30 : decode cX9_taken 30 = .ok (.aload_n 0, 1) := by decide +kernel
theorem dX9_taken_31 : decode cX9_taken 31 = .ok (.getfield 75, 3) := by decide +kernel
theorem dX9_taken_34 : decode cX9_taken 34 = .ok (.if_icmp .lt 6, 3) := by decide +kernel
theorem dX9_taken_37 : decode cX9_taken 37 = .ok (.bipush (-11), 2) := by decide +kernel
theorem dX9_taken_39 : decode cX9_taken 39 = .ok (.ireturn, 1) := by decide +kernel
theorem dX9_taken_40 : decode cX9_taken 40 = .ok (.iload_n 1, 1) := by decide +kernel
theorem dX9_taken_41 : decode cX9_taken 41 = .ok (.bipush 6, 2) := by decide +kernel
theorem dX9_taken_43 : decode cX9_taken 43 = .ok (.if_icmp .lt 28, 3) := by decide +kernel
theorem dX9_taken_46 : decode cX9_taken 46 = .ok (.iload_n 2, 1) := by decide +kernel
theorem dX9_taken_47 : decode cX9_taken 47 = .ok (.bipush 6, 2) := by decide +kernel
theorem dX9_taken_49 : decode cX9_taken 49 = .ok (.if_icmp .ne 19, 3) := by decide +kernel
theorem dX9_taken_52 : decode cX9_taken 52 = .ok (.aload_n 0, 1) := by decide +kernel
theorem dX9_taken_53 : decode cX9_taken 53 = .ok (.getfield 16, 3) := by decide +kernel
theorem dX9_taken_56 : decode cX9_taken 56 = .ok (.iconst 5, 1) := by decide +kernel
theorem dX9_taken_57 : decode cX9_taken 57 = .ok (.iload_n 1, 1) := by decide +kernel
theorem dX9_taken_58 : decode cX9_taken 58 = .ok (.bipush 6, 2) := by decide +kernel
theorem dX9_taken_60 : decode cX9_taken 60 = .ok (.isub, 1) := by decide +kernel
theorem dX9_taken_61 : decode cX9_taken 61 = .ok (.imul, 1) := by decide +kernel
theorem dX9_taken_62 : decode cX9_taken 62 = .ok (.iconst 3, 1) := by decide +kernel
theorem dX9_taken_63 : decode cX9_taken 63 = .ok (.iadd, 1) := by decide +kernel
theorem dX9_taken_64 : decode cX9_taken 64 = .ok (.iaload, 1) := by decide +kernel
theorem dX9_taken_65 : decode cX9_taken 65 = .ok (.goto 5, 3) := by decide +kernel
theorem dX9_taken_68 : decode cX9_taken 68 = .ok (.bipush (-13), 2) := by decide +kernel
theorem dX9_taken_70 : decode cX9_taken 70 = .ok (.ireturn, 1) := by decide +kernel
theorem dX9_taken_71 : decode cX9_taken 71 = .ok (.iload_n 2, 1) := by decide +kernel
theorem dX9_taken_72 : decode cX9_taken 72 = .ok (.bipush 6, 2) := by decide +kernel
theorem dX9_taken_74 : decode cX9_taken 74 = .ok (.if_icmp .ge 20, 3) := by decide +kernel
theorem dX9_taken_77 : decode cX9_taken 77 = .ok (.aload_n 0, 1) := by decide +kernel
theorem dX9_taken_78 : decode cX9_taken 78 = .ok (.getfield 7, 3) := by decide +kernel
theorem dX9_taken_81 : decode cX9_taken 81 = .ok (.iload_n 1, 1) := by decide +kernel
theorem dX9_taken_82 : decode cX9_taken 82 = .ok (.iaload, 1) := by decide +kernel
theorem dX9_taken_83 : decode cX9_taken 83 = .ok (.iload_n 2, 1) := by decide +kernel
theorem dX9_taken_84 : decode cX9_taken 84 = .ok (.invokestatic 277, 3) := by decide +kernel
theorem dX9_taken_87 : decode cX9_taken 87 = .ok (.ifCond .eq 7, 3) := by decide +kernel
theorem dX9_taken_90 : decode cX9_taken 90 = .ok (.iload_n 1, 1) := by decide +kernel
theorem dX9_taken_91 : decode cX9_taken 91 = .ok (.goto 5, 3) := by decide +kernel
theorem dX9_taken_94 : decode cX9_taken 94 = .ok (.bipush (-13), 2) := by decide +kernel
theorem dX9_taken_96 : decode cX9_taken 96 = .ok (.ireturn, 1) := by decide +kernel
theorem dJ7_fill_53178_0 : decode cJ7_fill_53178 0 = .ok (.iconst 0, 1) := by decide +kernel
theorem dJ7_fill_53178_1 : decode cJ7_fill_53178 1 = .ok (.istore_n 2, 1) := by decide +kernel
theorem dJ7_fill_53178_2 : decode cJ7_fill_53178 2 = .ok (.aload_n 0, 1) := by decide +kernel
theorem dJ7_fill_53178_3 : decode cJ7_fill_53178 3 = .ok (.arraylength, 1) := by decide +kernel
theorem dJ7_fill_53178_4 : decode cJ7_fill_53178 4 = .ok (.istore_n 3, 1) := by decide +kernel
theorem dJ7_fill_53178_5 : decode cJ7_fill_53178 5 = .ok (.iload_n 2, 1) := by decide +kernel
theorem dJ7_fill_53178_6 : decode cJ7_fill_53178 6 = .ok (.iload_n 3, 1) := by decide +kernel
theorem dJ7_fill_53178_7 : decode cJ7_fill_53178 7 = .ok (.if_icmp .ge 13, 3) := by decide +kernel
theorem dJ7_fill_53178_10 : decode cJ7_fill_53178 10 = .ok (.aload_n 0, 1) := by decide +kernel
theorem dJ7_fill_53178_11 : decode cJ7_fill_53178 11 = .ok (.iload_n 2, 1) := by decide +kernel
theorem dJ7_fill_53178_12 : decode cJ7_fill_53178 12 = .ok (.iload_n 1, 1) := by decide +kernel
theorem dJ7_fill_53178_13 : decode cJ7_fill_53178 13 = .ok (.iastore, 1) := by decide +kernel
theorem dJ7_fill_53178_14 : decode cJ7_fill_53178 14 = .ok (.iinc 2 1, 3) := by decide +kernel
theorem dJ7_fill_53178_17 : decode cJ7_fill_53178 17 = .ok (.goto (-12), 3) := by decide +kernel
theorem dJ7_fill_53178_20 : decode cJ7_fill_53178 20 = .ok (.return_, 1) := by decide +kernel
theorem dL_law_0 : decode cL_law 0 = .ok (.new 7, 3) := by decide +kernel
theorem dL_law_3 : decode cL_law 3 = .ok (.dup, 1) := by decide +kernel
theorem dL_law_4 : decode cL_law 4 = .ok (.invokespecial 9, 3) := by decide +kernel
theorem dL_law_7 : decode cL_law 7 = .ok (.astore_n 1, 1) := by decide +kernel
theorem dL_law_8 : decode cL_law 8 = .ok (.new 10, 3) := by decide +kernel
theorem dL_law_11 : decode cL_law 11 = .ok (.dup, 1) := by decide +kernel
theorem dL_law_12 : decode cL_law 12 = .ok (.invokespecial 12, 3) := by decide +kernel
theorem dL_law_15 : decode cL_law 15 = .ok (.astore_n 2, 1) := by decide +kernel
theorem dL_law_16 : decode cL_law 16 = .ok (.iconst 0, 1) := by decide +kernel
theorem dL_law_17 : decode cL_law 17 = .ok (.istore_n 3, 1) := by decide +kernel
theorem dL_law_18 : decode cL_law 18 = .ok (.iload_n 3, 1) := by decide +kernel
theorem dL_law_19 : decode cL_law 19 = .ok (.aload_n 0, 1) := by decide +kernel
theorem dL_law_20 : decode cL_law 20 = .ok (.arraylength, 1) := by decide +kernel
theorem dL_law_21 : decode cL_law 21 = .ok (.bipush 7, 2) := by decide +kernel
theorem dL_law_23 : decode cL_law 23 = .ok (.isub, 1) := by decide +kernel
theorem dL_law_24 : decode cL_law 24 = .ok (.if_icmp .gt 1645, 3) := by decide +kernel
theorem dL_law_27 : decode cL_law 27 = .ok (.aload_n 0, 1) := by decide +kernel
theorem dL_law_28 : decode cL_law 28 = .ok (.iload_n 3, 1) := by decide +kernel
theorem dL_law_29 : decode cL_law 29 = .ok (.iaload, 1) := by decide +kernel
theorem dL_law_30 : decode cL_law 30 = .ok (.bipush 63, 2) := by decide +kernel
theorem dL_law_32 : decode cL_law 32 = .ok (.iand, 1) := by decide +kernel
theorem dL_law_33 : decode cL_law 33 = .ok (.tableswitch 1630 0 32 #[147, 170, 245, 258, 281, 334, 367, 410, 443, 496, 549, 602, 645, 689, 732, 775, 808, 851, 904, 967, 1030, 1093, 1146, 1199, 1252, 1305, 1369, 1382, 1395, 1438, 1481, 1544, 1597], 147) := by decide +kernel
theorem dL_law_180 : decode cL_law 180 = .ok (.aload_n 1, 1) := by decide +kernel
theorem dL_law_181 : decode cL_law 181 = .ok (.aload_n 0, 1) := by decide +kernel
theorem dL_law_182 : decode cL_law 182 = .ok (.iload_n 3, 1) := by decide +kernel
theorem dL_law_183 : decode cL_law 183 = .ok (.iconst 1, 1) := by decide +kernel
theorem dL_law_184 : decode cL_law 184 = .ok (.iadd, 1) := by decide +kernel
theorem dL_law_185 : decode cL_law 185 = .ok (.iaload, 1) := by decide +kernel
theorem dL_law_186 : decode cL_law 186 = .ok (.invokevirtual 13, 3) := by decide +kernel
theorem dL_law_189 : decode cL_law 189 = .ok (.aload_n 2, 1) := by decide +kernel
theorem dL_law_190 : decode cL_law 190 = .ok (.aload_n 0, 1) := by decide +kernel
theorem dL_law_191 : decode cL_law 191 = .ok (.iload_n 3, 1) := by decide +kernel
theorem dL_law_192 : decode cL_law 192 = .ok (.iconst 1, 1) := by decide +kernel
theorem dL_law_193 : decode cL_law 193 = .ok (.iadd, 1) := by decide +kernel
theorem dL_law_194 : decode cL_law 194 = .ok (.iaload, 1) := by decide +kernel
theorem dL_law_195 : decode cL_law 195 = .ok (.invokevirtual 17, 3) := by decide +kernel
theorem dL_law_198 : decode cL_law 198 = .ok (.if_icmp .eq 1465, 3) := by decide +kernel
theorem dL_law_201 : decode cL_law 201 = .ok (.iconst 0, 1) := by decide +kernel
theorem dL_law_202 : decode cL_law 202 = .ok (.ireturn, 1) := by decide +kernel
theorem dL_law_203 : decode cL_law 203 = .ok (.aload_n 1, 1) := by decide +kernel
theorem dL_law_204 : decode cL_law 204 = .ok (.aload_n 0, 1) := by decide +kernel
theorem dL_law_205 : decode cL_law 205 = .ok (.iload_n 3, 1) := by decide +kernel
theorem dL_law_206 : decode cL_law 206 = .ok (.iconst 1, 1) := by decide +kernel
theorem dL_law_207 : decode cL_law 207 = .ok (.iadd, 1) := by decide +kernel
theorem dL_law_208 : decode cL_law 208 = .ok (.iaload, 1) := by decide +kernel
theorem dL_law_209 : decode cL_law 209 = .ok (.aload_n 0, 1) := by decide +kernel
theorem dL_law_210 : decode cL_law 210 = .ok (.iload_n 3, 1) := by decide +kernel
theorem dL_law_211 : decode cL_law 211 = .ok (.iconst 2, 1) := by decide +kernel
theorem dL_law_212 : decode cL_law 212 = .ok (.iadd, 1) := by decide +kernel
theorem dL_law_213 : decode cL_law 213 = .ok (.iaload, 1) := by decide +kernel
theorem dL_law_214 : decode cL_law 214 = .ok (.aload_n 0, 1) := by decide +kernel
theorem dL_law_215 : decode cL_law 215 = .ok (.iload_n 3, 1) := by decide +kernel
theorem dL_law_216 : decode cL_law 216 = .ok (.iconst 3, 1) := by decide +kernel
theorem dL_law_217 : decode cL_law 217 = .ok (.iadd, 1) := by decide +kernel
theorem dL_law_218 : decode cL_law 218 = .ok (.iaload, 1) := by decide +kernel
theorem dL_law_219 : decode cL_law 219 = .ok (.aload_n 0, 1) := by decide +kernel
theorem dL_law_220 : decode cL_law 220 = .ok (.iload_n 3, 1) := by decide +kernel
theorem dL_law_221 : decode cL_law 221 = .ok (.iconst 4, 1) := by decide +kernel
theorem dL_law_222 : decode cL_law 222 = .ok (.iadd, 1) := by decide +kernel
theorem dL_law_223 : decode cL_law 223 = .ok (.iaload, 1) := by decide +kernel
theorem dL_law_224 : decode cL_law 224 = .ok (.aload_n 0, 1) := by decide +kernel
theorem dL_law_225 : decode cL_law 225 = .ok (.iload_n 3, 1) := by decide +kernel
theorem dL_law_226 : decode cL_law 226 = .ok (.iconst 5, 1) := by decide +kernel
theorem dL_law_227 : decode cL_law 227 = .ok (.iadd, 1) := by decide +kernel
theorem dL_law_228 : decode cL_law 228 = .ok (.iaload, 1) := by decide +kernel
theorem dL_law_229 : decode cL_law 229 = .ok (.aload_n 0, 1) := by decide +kernel
theorem dL_law_230 : decode cL_law 230 = .ok (.iload_n 3, 1) := by decide +kernel
theorem dL_law_231 : decode cL_law 231 = .ok (.bipush 6, 2) := by decide +kernel
theorem dL_law_233 : decode cL_law 233 = .ok (.iadd, 1) := by decide +kernel
theorem dL_law_234 : decode cL_law 234 = .ok (.iaload, 1) := by decide +kernel
theorem dL_law_235 : decode cL_law 235 = .ok (.invokevirtual 18, 3) := by decide +kernel
theorem dL_law_238 : decode cL_law 238 = .ok (.aload_n 2, 1) := by decide +kernel
theorem dL_law_239 : decode cL_law 239 = .ok (.aload_n 0, 1) := by decide +kernel
theorem dL_law_240 : decode cL_law 240 = .ok (.iload_n 3, 1) := by decide +kernel
theorem dL_law_241 : decode cL_law 241 = .ok (.iconst 1, 1) := by decide +kernel
theorem dL_law_242 : decode cL_law 242 = .ok (.iadd, 1) := by decide +kernel
theorem dL_law_243 : decode cL_law 243 = .ok (.iaload, 1) := by decide +kernel
theorem dL_law_244 : decode cL_law 244 = .ok (.aload_n 0, 1) := by decide +kernel
theorem dL_law_245 : decode cL_law 245 = .ok (.iload_n 3, 1) := by decide +kernel
theorem dL_law_246 : decode cL_law 246 = .ok (.iconst 2, 1) := by decide +kernel
theorem dL_law_247 : decode cL_law 247 = .ok (.iadd, 1) := by decide +kernel
theorem dL_law_248 : decode cL_law 248 = .ok (.iaload, 1) := by decide +kernel
theorem dL_law_249 : decode cL_law 249 = .ok (.aload_n 0, 1) := by decide +kernel
theorem dL_law_250 : decode cL_law 250 = .ok (.iload_n 3, 1) := by decide +kernel
theorem dL_law_251 : decode cL_law 251 = .ok (.iconst 3, 1) := by decide +kernel
theorem dL_law_252 : decode cL_law 252 = .ok (.iadd, 1) := by decide +kernel
theorem dL_law_253 : decode cL_law 253 = .ok (.iaload, 1) := by decide +kernel
theorem dL_law_254 : decode cL_law 254 = .ok (.aload_n 0, 1) := by decide +kernel
theorem dL_law_255 : decode cL_law 255 = .ok (.iload_n 3, 1) := by decide +kernel
theorem dL_law_256 : decode cL_law 256 = .ok (.iconst 4, 1) := by decide +kernel
theorem dL_law_257 : decode cL_law 257 = .ok (.iadd, 1) := by decide +kernel
theorem dL_law_258 : decode cL_law 258 = .ok (.iaload, 1) := by decide +kernel
theorem dL_law_259 : decode cL_law 259 = .ok (.aload_n 0, 1) := by decide +kernel
theorem dL_law_260 : decode cL_law 260 = .ok (.iload_n 3, 1) := by decide +kernel
theorem dL_law_261 : decode cL_law 261 = .ok (.iconst 5, 1) := by decide +kernel
theorem dL_law_262 : decode cL_law 262 = .ok (.iadd, 1) := by decide +kernel
theorem dL_law_263 : decode cL_law 263 = .ok (.iaload, 1) := by decide +kernel
theorem dL_law_264 : decode cL_law 264 = .ok (.aload_n 0, 1) := by decide +kernel
theorem dL_law_265 : decode cL_law 265 = .ok (.iload_n 3, 1) := by decide +kernel
theorem dL_law_266 : decode cL_law 266 = .ok (.bipush 6, 2) := by decide +kernel
theorem dL_law_268 : decode cL_law 268 = .ok (.iadd, 1) := by decide +kernel
theorem dL_law_269 : decode cL_law 269 = .ok (.iaload, 1) := by decide +kernel
theorem dL_law_270 : decode cL_law 270 = .ok (.invokevirtual 22, 3) := by decide +kernel
theorem dL_law_273 : decode cL_law 273 = .ok (.if_icmp .eq 1390, 3) := by decide +kernel
theorem dL_law_276 : decode cL_law 276 = .ok (.iconst 0, 1) := by decide +kernel
theorem dL_law_277 : decode cL_law 277 = .ok (.ireturn, 1) := by decide +kernel
theorem dL_law_278 : decode cL_law 278 = .ok (.aload_n 1, 1) := by decide +kernel
theorem dL_law_279 : decode cL_law 279 = .ok (.invokevirtual 23, 3) := by decide +kernel
theorem dL_law_282 : decode cL_law 282 = .ok (.aload_n 2, 1) := by decide +kernel
theorem dL_law_283 : decode cL_law 283 = .ok (.invokevirtual 27, 3) := by decide +kernel
theorem dL_law_286 : decode cL_law 286 = .ok (.if_icmp .eq 1377, 3) := by decide +kernel
theorem dL_law_289 : decode cL_law 289 = .ok (.iconst 0, 1) := by decide +kernel
theorem dL_law_290 : decode cL_law 290 = .ok (.ireturn, 1) := by decide +kernel
theorem dL_law_291 : decode cL_law 291 = .ok (.aload_n 1, 1) := by decide +kernel
theorem dL_law_292 : decode cL_law 292 = .ok (.aload_n 0, 1) := by decide +kernel
theorem dL_law_293 : decode cL_law 293 = .ok (.iload_n 3, 1) := by decide +kernel
theorem dL_law_294 : decode cL_law 294 = .ok (.iconst 1, 1) := by decide +kernel
theorem dL_law_295 : decode cL_law 295 = .ok (.iadd, 1) := by decide +kernel
theorem dL_law_296 : decode cL_law 296 = .ok (.iaload, 1) := by decide +kernel
theorem dL_law_297 : decode cL_law 297 = .ok (.invokevirtual 28, 3) := by decide +kernel
theorem dL_law_300 : decode cL_law 300 = .ok (.aload_n 2, 1) := by decide +kernel
theorem dL_law_301 : decode cL_law 301 = .ok (.aload_n 0, 1) := by decide +kernel
theorem dL_law_302 : decode cL_law 302 = .ok (.iload_n 3, 1) := by decide +kernel
theorem dL_law_303 : decode cL_law 303 = .ok (.iconst 1, 1) := by decide +kernel
theorem dL_law_304 : decode cL_law 304 = .ok (.iadd, 1) := by decide +kernel
theorem dL_law_305 : decode cL_law 305 = .ok (.iaload, 1) := by decide +kernel
theorem dL_law_306 : decode cL_law 306 = .ok (.invokevirtual 31, 3) := by decide +kernel
theorem dL_law_309 : decode cL_law 309 = .ok (.if_icmp .eq 1354, 3) := by decide +kernel
theorem dL_law_312 : decode cL_law 312 = .ok (.iconst 0, 1) := by decide +kernel
theorem dL_law_313 : decode cL_law 313 = .ok (.ireturn, 1) := by decide +kernel
theorem dL_law_314 : decode cL_law 314 = .ok (.aload_n 1, 1) := by decide +kernel
theorem dL_law_315 : decode cL_law 315 = .ok (.aload_n 0, 1) := by decide +kernel
theorem dL_law_316 : decode cL_law 316 = .ok (.iload_n 3, 1) := by decide +kernel
theorem dL_law_317 : decode cL_law 317 = .ok (.iconst 1, 1) := by decide +kernel
theorem dL_law_318 : decode cL_law 318 = .ok (.iadd, 1) := by decide +kernel
theorem dL_law_319 : decode cL_law 319 = .ok (.iaload, 1) := by decide +kernel
theorem dL_law_320 : decode cL_law 320 = .ok (.aload_n 0, 1) := by decide +kernel
theorem dL_law_321 : decode cL_law 321 = .ok (.iload_n 3, 1) := by decide +kernel
theorem dL_law_322 : decode cL_law 322 = .ok (.iconst 2, 1) := by decide +kernel
theorem dL_law_323 : decode cL_law 323 = .ok (.iadd, 1) := by decide +kernel
theorem dL_law_324 : decode cL_law 324 = .ok (.iaload, 1) := by decide +kernel
theorem dL_law_325 : decode cL_law 325 = .ok (.aload_n 0, 1) := by decide +kernel
theorem dL_law_326 : decode cL_law 326 = .ok (.iload_n 3, 1) := by decide +kernel
theorem dL_law_327 : decode cL_law 327 = .ok (.iconst 3, 1) := by decide +kernel
theorem dL_law_328 : decode cL_law 328 = .ok (.iadd, 1) := by decide +kernel
theorem dL_law_329 : decode cL_law 329 = .ok (.iaload, 1) := by decide +kernel
theorem dL_law_330 : decode cL_law 330 = .ok (.aload_n 0, 1) := by decide +kernel
theorem dL_law_331 : decode cL_law 331 = .ok (.iload_n 3, 1) := by decide +kernel
theorem dL_law_332 : decode cL_law 332 = .ok (.iconst 4, 1) := by decide +kernel
theorem dL_law_333 : decode cL_law 333 = .ok (.iadd, 1) := by decide +kernel
theorem dL_law_334 : decode cL_law 334 = .ok (.iaload, 1) := by decide +kernel
theorem dL_law_335 : decode cL_law 335 = .ok (.invokevirtual 32, 3) := by decide +kernel
theorem dL_law_338 : decode cL_law 338 = .ok (.aload_n 2, 1) := by decide +kernel
theorem dL_law_339 : decode cL_law 339 = .ok (.aload_n 0, 1) := by decide +kernel
theorem dL_law_340 : decode cL_law 340 = .ok (.iload_n 3, 1) := by decide +kernel
theorem dL_law_341 : decode cL_law 341 = .ok (.iconst 1, 1) := by decide +kernel
theorem dL_law_342 : decode cL_law 342 = .ok (.iadd, 1) := by decide +kernel
theorem dL_law_343 : decode cL_law 343 = .ok (.iaload, 1) := by decide +kernel
theorem dL_law_344 : decode cL_law 344 = .ok (.aload_n 0, 1) := by decide +kernel
theorem dL_law_345 : decode cL_law 345 = .ok (.iload_n 3, 1) := by decide +kernel
theorem dL_law_346 : decode cL_law 346 = .ok (.iconst 2, 1) := by decide +kernel
theorem dL_law_347 : decode cL_law 347 = .ok (.iadd, 1) := by decide +kernel
theorem dL_law_348 : decode cL_law 348 = .ok (.iaload, 1) := by decide +kernel
theorem dL_law_349 : decode cL_law 349 = .ok (.aload_n 0, 1) := by decide +kernel
theorem dL_law_350 : decode cL_law 350 = .ok (.iload_n 3, 1) := by decide +kernel
theorem dL_law_351 : decode cL_law 351 = .ok (.iconst 3, 1) := by decide +kernel
theorem dL_law_352 : decode cL_law 352 = .ok (.iadd, 1) := by decide +kernel
theorem dL_law_353 : decode cL_law 353 = .ok (.iaload, 1) := by decide +kernel
theorem dL_law_354 : decode cL_law 354 = .ok (.aload_n 0, 1) := by decide +kernel
theorem dL_law_355 : decode cL_law 355 = .ok (.iload_n 3, 1) := by decide +kernel
theorem dL_law_356 : decode cL_law 356 = .ok (.iconst 4, 1) := by decide +kernel
theorem dL_law_357 : decode cL_law 357 = .ok (.iadd, 1) := by decide +kernel
theorem dL_law_358 : decode cL_law 358 = .ok (.iaload, 1) := by decide +kernel
theorem dL_law_359 : decode cL_law 359 = .ok (.invokevirtual 36, 3) := by decide +kernel
theorem dL_law_362 : decode cL_law 362 = .ok (.if_icmp .eq 1301, 3) := by decide +kernel
theorem dL_law_365 : decode cL_law 365 = .ok (.iconst 0, 1) := by decide +kernel
theorem dL_law_366 : decode cL_law 366 = .ok (.ireturn, 1) := by decide +kernel
theorem dL_law_367 : decode cL_law 367 = .ok (.aload_n 1, 1) := by decide +kernel
theorem dL_law_368 : decode cL_law 368 = .ok (.aload_n 0, 1) := by decide +kernel
theorem dL_law_369 : decode cL_law 369 = .ok (.iload_n 3, 1) := by decide +kernel
theorem dL_law_370 : decode cL_law 370 = .ok (.iconst 1, 1) := by decide +kernel
theorem dL_law_371 : decode cL_law 371 = .ok (.iadd, 1) := by decide +kernel
theorem dL_law_372 : decode cL_law 372 = .ok (.iaload, 1) := by decide +kernel
theorem dL_law_373 : decode cL_law 373 = .ok (.aload_n 0, 1) := by decide +kernel
theorem dL_law_374 : decode cL_law 374 = .ok (.iload_n 3, 1) := by decide +kernel
theorem dL_law_375 : decode cL_law 375 = .ok (.iconst 2, 1) := by decide +kernel
theorem dL_law_376 : decode cL_law 376 = .ok (.iadd, 1) := by decide +kernel
theorem dL_law_377 : decode cL_law 377 = .ok (.iaload, 1) := by decide +kernel
theorem dL_law_378 : decode cL_law 378 = .ok (.invokevirtual 37, 3) := by decide +kernel
theorem dL_law_381 : decode cL_law 381 = .ok (.aload_n 2, 1) := by decide +kernel
theorem dL_law_382 : decode cL_law 382 = .ok (.aload_n 0, 1) := by decide +kernel
theorem dL_law_383 : decode cL_law 383 = .ok (.iload_n 3, 1) := by decide +kernel
theorem dL_law_384 : decode cL_law 384 = .ok (.iconst 1, 1) := by decide +kernel
theorem dL_law_385 : decode cL_law 385 = .ok (.iadd, 1) := by decide +kernel
theorem dL_law_386 : decode cL_law 386 = .ok (.iaload, 1) := by decide +kernel
theorem dL_law_387 : decode cL_law 387 = .ok (.aload_n 0, 1) := by decide +kernel
theorem dL_law_388 : decode cL_law 388 = .ok (.iload_n 3, 1) := by decide +kernel
theorem dL_law_389 : decode cL_law 389 = .ok (.iconst 2, 1) := by decide +kernel
theorem dL_law_390 : decode cL_law 390 = .ok (.iadd, 1) := by decide +kernel
theorem dL_law_391 : decode cL_law 391 = .ok (.iaload, 1) := by decide +kernel
theorem dL_law_392 : decode cL_law 392 = .ok (.invokevirtual 41, 3) := by decide +kernel
theorem dL_law_395 : decode cL_law 395 = .ok (.if_icmp .eq 1268, 3) := by decide +kernel
theorem dL_law_398 : decode cL_law 398 = .ok (.iconst 0, 1) := by decide +kernel
theorem dL_law_399 : decode cL_law 399 = .ok (.ireturn, 1) := by decide +kernel
theorem dL_law_400 : decode cL_law 400 = .ok (.aload_n 1, 1) := by decide +kernel
theorem dL_law_401 : decode cL_law 401 = .ok (.aload_n 0, 1) := by decide +kernel
theorem dL_law_402 : decode cL_law 402 = .ok (.iload_n 3, 1) := by decide +kernel
theorem dL_law_403 : decode cL_law 403 = .ok (.iconst 1, 1) := by decide +kernel
theorem dL_law_404 : decode cL_law 404 = .ok (.iadd, 1) := by decide +kernel
theorem dL_law_405 : decode cL_law 405 = .ok (.iaload, 1) := by decide +kernel
theorem dL_law_406 : decode cL_law 406 = .ok (.aload_n 0, 1) := by decide +kernel
theorem dL_law_407 : decode cL_law 407 = .ok (.iload_n 3, 1) := by decide +kernel
theorem dL_law_408 : decode cL_law 408 = .ok (.iconst 2, 1) := by decide +kernel
theorem dL_law_409 : decode cL_law 409 = .ok (.iadd, 1) := by decide +kernel
theorem dL_law_410 : decode cL_law 410 = .ok (.iaload, 1) := by decide +kernel
theorem dL_law_411 : decode cL_law 411 = .ok (.aload_n 0, 1) := by decide +kernel
theorem dL_law_412 : decode cL_law 412 = .ok (.iload_n 3, 1) := by decide +kernel
theorem dL_law_413 : decode cL_law 413 = .ok (.iconst 3, 1) := by decide +kernel
theorem dL_law_414 : decode cL_law 414 = .ok (.iadd, 1) := by decide +kernel
theorem dL_law_415 : decode cL_law 415 = .ok (.iaload, 1) := by decide +kernel
theorem dL_law_416 : decode cL_law 416 = .ok (.invokevirtual 42, 3) := by decide +kernel
theorem dL_law_419 : decode cL_law 419 = .ok (.aload_n 2, 1) := by decide +kernel
theorem dL_law_420 : decode cL_law 420 = .ok (.aload_n 0, 1) := by decide +kernel
theorem dL_law_421 : decode cL_law 421 = .ok (.iload_n 3, 1) := by decide +kernel
theorem dL_law_422 : decode cL_law 422 = .ok (.iconst 1, 1) := by decide +kernel
theorem dL_law_423 : decode cL_law 423 = .ok (.iadd, 1) := by decide +kernel
theorem dL_law_424 : decode cL_law 424 = .ok (.iaload, 1) := by decide +kernel
theorem dL_law_425 : decode cL_law 425 = .ok (.aload_n 0, 1) := by decide +kernel
theorem dL_law_426 : decode cL_law 426 = .ok (.iload_n 3, 1) := by decide +kernel
theorem dL_law_427 : decode cL_law 427 = .ok (.iconst 2, 1) := by decide +kernel
theorem dL_law_428 : decode cL_law 428 = .ok (.iadd, 1) := by decide +kernel
theorem dL_law_429 : decode cL_law 429 = .ok (.iaload, 1) := by decide +kernel
theorem dL_law_430 : decode cL_law 430 = .ok (.aload_n 0, 1) := by decide +kernel
theorem dL_law_431 : decode cL_law 431 = .ok (.iload_n 3, 1) := by decide +kernel
theorem dL_law_432 : decode cL_law 432 = .ok (.iconst 3, 1) := by decide +kernel
theorem dL_law_433 : decode cL_law 433 = .ok (.iadd, 1) := by decide +kernel
theorem dL_law_434 : decode cL_law 434 = .ok (.iaload, 1) := by decide +kernel
theorem dL_law_435 : decode cL_law 435 = .ok (.invokevirtual 46, 3) := by decide +kernel
theorem dL_law_438 : decode cL_law 438 = .ok (.if_icmp .eq 1225, 3) := by decide +kernel
theorem dL_law_441 : decode cL_law 441 = .ok (.iconst 0, 1) := by decide +kernel
theorem dL_law_442 : decode cL_law 442 = .ok (.ireturn, 1) := by decide +kernel
theorem dL_law_443 : decode cL_law 443 = .ok (.aload_n 1, 1) := by decide +kernel
theorem dL_law_444 : decode cL_law 444 = .ok (.aload_n 0, 1) := by decide +kernel
theorem dL_law_445 : decode cL_law 445 = .ok (.iload_n 3, 1) := by decide +kernel
theorem dL_law_446 : decode cL_law 446 = .ok (.iconst 1, 1) := by decide +kernel
theorem dL_law_447 : decode cL_law 447 = .ok (.iadd, 1) := by decide +kernel
theorem dL_law_448 : decode cL_law 448 = .ok (.iaload, 1) := by decide +kernel
theorem dL_law_449 : decode cL_law 449 = .ok (.aload_n 0, 1) := by decide +kernel
theorem dL_law_450 : decode cL_law 450 = .ok (.iload_n 3, 1) := by decide +kernel
theorem dL_law_451 : decode cL_law 451 = .ok (.iconst 2, 1) := by decide +kernel
theorem dL_law_452 : decode cL_law 452 = .ok (.iadd, 1) := by decide +kernel
theorem dL_law_453 : decode cL_law 453 = .ok (.iaload, 1) := by decide +kernel
theorem dL_law_454 : decode cL_law 454 = .ok (.invokevirtual 47, 3) := by decide +kernel
theorem dL_law_457 : decode cL_law 457 = .ok (.aload_n 2, 1) := by decide +kernel
theorem dL_law_458 : decode cL_law 458 = .ok (.aload_n 0, 1) := by decide +kernel
theorem dL_law_459 : decode cL_law 459 = .ok (.iload_n 3, 1) := by decide +kernel
theorem dL_law_460 : decode cL_law 460 = .ok (.iconst 1, 1) := by decide +kernel
theorem dL_law_461 : decode cL_law 461 = .ok (.iadd, 1) := by decide +kernel
theorem dL_law_462 : decode cL_law 462 = .ok (.iaload, 1) := by decide +kernel
theorem dL_law_463 : decode cL_law 463 = .ok (.aload_n 0, 1) := by decide +kernel
theorem dL_law_464 : decode cL_law 464 = .ok (.iload_n 3, 1) := by decide +kernel
theorem dL_law_465 : decode cL_law 465 = .ok (.iconst 2, 1) := by decide +kernel
theorem dL_law_466 : decode cL_law 466 = .ok (.iadd, 1) := by decide +kernel
theorem dL_law_467 : decode cL_law 467 = .ok (.iaload, 1) := by decide +kernel
theorem dL_law_468 : decode cL_law 468 = .ok (.invokevirtual 50, 3) := by decide +kernel
theorem dL_law_471 : decode cL_law 471 = .ok (.if_icmp .eq 1192, 3) := by decide +kernel
theorem dL_law_474 : decode cL_law 474 = .ok (.iconst 0, 1) := by decide +kernel
theorem dL_law_475 : decode cL_law 475 = .ok (.ireturn, 1) := by decide +kernel
theorem dL_law_476 : decode cL_law 476 = .ok (.aload_n 1, 1) := by decide +kernel
theorem dL_law_477 : decode cL_law 477 = .ok (.aload_n 0, 1) := by decide +kernel
theorem dL_law_478 : decode cL_law 478 = .ok (.iload_n 3, 1) := by decide +kernel
theorem dL_law_479 : decode cL_law 479 = .ok (.iconst 1, 1) := by decide +kernel
theorem dL_law_480 : decode cL_law 480 = .ok (.iadd, 1) := by decide +kernel
theorem dL_law_481 : decode cL_law 481 = .ok (.iaload, 1) := by decide +kernel
theorem dL_law_482 : decode cL_law 482 = .ok (.aload_n 0, 1) := by decide +kernel
theorem dL_law_483 : decode cL_law 483 = .ok (.iload_n 3, 1) := by decide +kernel
theorem dL_law_484 : decode cL_law 484 = .ok (.iconst 2, 1) := by decide +kernel
theorem dL_law_485 : decode cL_law 485 = .ok (.iadd, 1) := by decide +kernel
theorem dL_law_486 : decode cL_law 486 = .ok (.iaload, 1) := by decide +kernel
theorem dL_law_487 : decode cL_law 487 = .ok (.aload_n 0, 1) := by decide +kernel
theorem dL_law_488 : decode cL_law 488 = .ok (.iload_n 3, 1) := by decide +kernel
theorem dL_law_489 : decode cL_law 489 = .ok (.iconst 3, 1) := by decide +kernel
theorem dL_law_490 : decode cL_law 490 = .ok (.iadd, 1) := by decide +kernel
theorem dL_law_491 : decode cL_law 491 = .ok (.iaload, 1) := by decide +kernel
theorem dL_law_492 : decode cL_law 492 = .ok (.aload_n 0, 1) := by decide +kernel
theorem dL_law_493 : decode cL_law 493 = .ok (.iload_n 3, 1) := by decide +kernel
theorem dL_law_494 : decode cL_law 494 = .ok (.iconst 4, 1) := by decide +kernel
theorem dL_law_495 : decode cL_law 495 = .ok (.iadd, 1) := by decide +kernel
theorem dL_law_496 : decode cL_law 496 = .ok (.iaload, 1) := by decide +kernel
theorem dL_law_497 : decode cL_law 497 = .ok (.invokevirtual 51, 3) := by decide +kernel
theorem dL_law_500 : decode cL_law 500 = .ok (.aload_n 2, 1) := by decide +kernel
theorem dL_law_501 : decode cL_law 501 = .ok (.aload_n 0, 1) := by decide +kernel
theorem dL_law_502 : decode cL_law 502 = .ok (.iload_n 3, 1) := by decide +kernel
theorem dL_law_503 : decode cL_law 503 = .ok (.iconst 1, 1) := by decide +kernel
theorem dL_law_504 : decode cL_law 504 = .ok (.iadd, 1) := by decide +kernel
theorem dL_law_505 : decode cL_law 505 = .ok (.iaload, 1) := by decide +kernel
theorem dL_law_506 : decode cL_law 506 = .ok (.aload_n 0, 1) := by decide +kernel
theorem dL_law_507 : decode cL_law 507 = .ok (.iload_n 3, 1) := by decide +kernel
theorem dL_law_508 : decode cL_law 508 = .ok (.iconst 2, 1) := by decide +kernel
theorem dL_law_509 : decode cL_law 509 = .ok (.iadd, 1) := by decide +kernel
theorem dL_law_510 : decode cL_law 510 = .ok (.iaload, 1) := by decide +kernel
theorem dL_law_511 : decode cL_law 511 = .ok (.aload_n 0, 1) := by decide +kernel
theorem dL_law_512 : decode cL_law 512 = .ok (.iload_n 3, 1) := by decide +kernel
theorem dL_law_513 : decode cL_law 513 = .ok (.iconst 3, 1) := by decide +kernel
theorem dL_law_514 : decode cL_law 514 = .ok (.iadd, 1) := by decide +kernel
theorem dL_law_515 : decode cL_law 515 = .ok (.iaload, 1) := by decide +kernel
theorem dL_law_516 : decode cL_law 516 = .ok (.aload_n 0, 1) := by decide +kernel
theorem dL_law_517 : decode cL_law 517 = .ok (.iload_n 3, 1) := by decide +kernel
theorem dL_law_518 : decode cL_law 518 = .ok (.iconst 4, 1) := by decide +kernel
theorem dL_law_519 : decode cL_law 519 = .ok (.iadd, 1) := by decide +kernel
theorem dL_law_520 : decode cL_law 520 = .ok (.iaload, 1) := by decide +kernel
theorem dL_law_521 : decode cL_law 521 = .ok (.invokevirtual 54, 3) := by decide +kernel
theorem dL_law_524 : decode cL_law 524 = .ok (.if_icmp .eq 1139, 3) := by decide +kernel
theorem dL_law_527 : decode cL_law 527 = .ok (.iconst 0, 1) := by decide +kernel
theorem dL_law_528 : decode cL_law 528 = .ok (.ireturn, 1) := by decide +kernel
theorem dL_law_529 : decode cL_law 529 = .ok (.aload_n 1, 1) := by decide +kernel
theorem dL_law_530 : decode cL_law 530 = .ok (.aload_n 0, 1) := by decide +kernel
theorem dL_law_531 : decode cL_law 531 = .ok (.iload_n 3, 1) := by decide +kernel
theorem dL_law_532 : decode cL_law 532 = .ok (.iconst 1, 1) := by decide +kernel
theorem dL_law_533 : decode cL_law 533 = .ok (.iadd, 1) := by decide +kernel
theorem dL_law_534 : decode cL_law 534 = .ok (.iaload, 1) := by decide +kernel
theorem dL_law_535 : decode cL_law 535 = .ok (.aload_n 0, 1) := by decide +kernel
theorem dL_law_536 : decode cL_law 536 = .ok (.iload_n 3, 1) := by decide +kernel
theorem dL_law_537 : decode cL_law 537 = .ok (.iconst 2, 1) := by decide +kernel
theorem dL_law_538 : decode cL_law 538 = .ok (.iadd, 1) := by decide +kernel
theorem dL_law_539 : decode cL_law 539 = .ok (.iaload, 1) := by decide +kernel
theorem dL_law_540 : decode cL_law 540 = .ok (.aload_n 0, 1) := by decide +kernel
theorem dL_law_541 : decode cL_law 541 = .ok (.iload_n 3, 1) := by decide +kernel
theorem dL_law_542 : decode cL_law 542 = .ok (.iconst 3, 1) := by decide +kernel
theorem dL_law_543 : decode cL_law 543 = .ok (.iadd, 1) := by decide +kernel
theorem dL_law_544 : decode cL_law 544 = .ok (.iaload, 1) := by decide +kernel
theorem dL_law_545 : decode cL_law 545 = .ok (.aload_n 0, 1) := by decide +kernel
theorem dL_law_546 : decode cL_law 546 = .ok (.iload_n 3, 1) := by decide +kernel
theorem dL_law_547 : decode cL_law 547 = .ok (.iconst 4, 1) := by decide +kernel
theorem dL_law_548 : decode cL_law 548 = .ok (.iadd, 1) := by decide +kernel
theorem dL_law_549 : decode cL_law 549 = .ok (.iaload, 1) := by decide +kernel
theorem dL_law_550 : decode cL_law 550 = .ok (.invokevirtual 55, 3) := by decide +kernel
theorem dL_law_553 : decode cL_law 553 = .ok (.aload_n 2, 1) := by decide +kernel
theorem dL_law_554 : decode cL_law 554 = .ok (.aload_n 0, 1) := by decide +kernel
theorem dL_law_555 : decode cL_law 555 = .ok (.iload_n 3, 1) := by decide +kernel
theorem dL_law_556 : decode cL_law 556 = .ok (.iconst 1, 1) := by decide +kernel
theorem dL_law_557 : decode cL_law 557 = .ok (.iadd, 1) := by decide +kernel
theorem dL_law_558 : decode cL_law 558 = .ok (.iaload, 1) := by decide +kernel
theorem dL_law_559 : decode cL_law 559 = .ok (.aload_n 0, 1) := by decide +kernel
theorem dL_law_560 : decode cL_law 560 = .ok (.iload_n 3, 1) := by decide +kernel
theorem dL_law_561 : decode cL_law 561 = .ok (.iconst 2, 1) := by decide +kernel
theorem dL_law_562 : decode cL_law 562 = .ok (.iadd, 1) := by decide +kernel
theorem dL_law_563 : decode cL_law 563 = .ok (.iaload, 1) := by decide +kernel
theorem dL_law_564 : decode cL_law 564 = .ok (.aload_n 0, 1) := by decide +kernel
theorem dL_law_565 : decode cL_law 565 = .ok (.iload_n 3, 1) := by decide +kernel
theorem dL_law_566 : decode cL_law 566 = .ok (.iconst 3, 1) := by decide +kernel
theorem dL_law_567 : decode cL_law 567 = .ok (.iadd, 1) := by decide +kernel
theorem dL_law_568 : decode cL_law 568 = .ok (.iaload, 1) := by decide +kernel
theorem dL_law_569 : decode cL_law 569 = .ok (.aload_n 0, 1) := by decide +kernel
theorem dL_law_570 : decode cL_law 570 = .ok (.iload_n 3, 1) := by decide +kernel
theorem dL_law_571 : decode cL_law 571 = .ok (.iconst 4, 1) := by decide +kernel
theorem dL_law_572 : decode cL_law 572 = .ok (.iadd, 1) := by decide +kernel
theorem dL_law_573 : decode cL_law 573 = .ok (.iaload, 1) := by decide +kernel
theorem dL_law_574 : decode cL_law 574 = .ok (.invokevirtual 58, 3) := by decide +kernel
theorem dL_law_577 : decode cL_law 577 = .ok (.if_icmp .eq 1086, 3) := by decide +kernel
theorem dL_law_580 : decode cL_law 580 = .ok (.iconst 0, 1) := by decide +kernel
theorem dL_law_581 : decode cL_law 581 = .ok (.ireturn, 1) := by decide +kernel
theorem dL_law_582 : decode cL_law 582 = .ok (.aload_n 1, 1) := by decide +kernel
theorem dL_law_583 : decode cL_law 583 = .ok (.aload_n 0, 1) := by decide +kernel
theorem dL_law_584 : decode cL_law 584 = .ok (.iload_n 3, 1) := by decide +kernel
theorem dL_law_585 : decode cL_law 585 = .ok (.iconst 1, 1) := by decide +kernel
theorem dL_law_586 : decode cL_law 586 = .ok (.iadd, 1) := by decide +kernel
theorem dL_law_587 : decode cL_law 587 = .ok (.iaload, 1) := by decide +kernel
theorem dL_law_588 : decode cL_law 588 = .ok (.aload_n 0, 1) := by decide +kernel
theorem dL_law_589 : decode cL_law 589 = .ok (.iload_n 3, 1) := by decide +kernel
theorem dL_law_590 : decode cL_law 590 = .ok (.iconst 2, 1) := by decide +kernel
theorem dL_law_591 : decode cL_law 591 = .ok (.iadd, 1) := by decide +kernel
theorem dL_law_592 : decode cL_law 592 = .ok (.iaload, 1) := by decide +kernel
theorem dL_law_593 : decode cL_law 593 = .ok (.aload_n 0, 1) := by decide +kernel
theorem dL_law_594 : decode cL_law 594 = .ok (.iload_n 3, 1) := by decide +kernel
theorem dL_law_595 : decode cL_law 595 = .ok (.iconst 3, 1) := by decide +kernel
theorem dL_law_596 : decode cL_law 596 = .ok (.iadd, 1) := by decide +kernel
theorem dL_law_597 : decode cL_law 597 = .ok (.iaload, 1) := by decide +kernel
theorem dL_law_598 : decode cL_law 598 = .ok (.aload_n 0, 1) := by decide +kernel
theorem dL_law_599 : decode cL_law 599 = .ok (.iload_n 3, 1) := by decide +kernel
theorem dL_law_600 : decode cL_law 600 = .ok (.iconst 4, 1) := by decide +kernel
theorem dL_law_601 : decode cL_law 601 = .ok (.iadd, 1) := by decide +kernel
theorem dL_law_602 : decode cL_law 602 = .ok (.iaload, 1) := by decide +kernel
theorem dL_law_603 : decode cL_law 603 = .ok (.invokevirtual 59, 3) := by decide +kernel
theorem dL_law_606 : decode cL_law 606 = .ok (.aload_n 2, 1) := by decide +kernel
theorem dL_law_607 : decode cL_law 607 = .ok (.aload_n 0, 1) := by decide +kernel
theorem dL_law_608 : decode cL_law 608 = .ok (.iload_n 3, 1) := by decide +kernel
theorem dL_law_609 : decode cL_law 609 = .ok (.iconst 1, 1) := by decide +kernel
theorem dL_law_610 : decode cL_law 610 = .ok (.iadd, 1) := by decide +kernel
theorem dL_law_611 : decode cL_law 611 = .ok (.iaload, 1) := by decide +kernel
theorem dL_law_612 : decode cL_law 612 = .ok (.aload_n 0, 1) := by decide +kernel
theorem dL_law_613 : decode cL_law 613 = .ok (.iload_n 3, 1) := by decide +kernel
theorem dL_law_614 : decode cL_law 614 = .ok (.iconst 2, 1) := by decide +kernel
theorem dL_law_615 : decode cL_law 615 = .ok (.iadd, 1) := by decide +kernel
theorem dL_law_616 : decode cL_law 616 = .ok (.iaload, 1) := by decide +kernel
theorem dL_law_617 : decode cL_law 617 = .ok (.aload_n 0, 1) := by decide +kernel
theorem dL_law_618 : decode cL_law 618 = .ok (.iload_n 3, 1) := by decide +kernel
theorem dL_law_619 : decode cL_law 619 = .ok (.iconst 3, 1) := by decide +kernel
theorem dL_law_620 : decode cL_law 620 = .ok (.iadd, 1) := by decide +kernel
theorem dL_law_621 : decode cL_law 621 = .ok (.iaload, 1) := by decide +kernel
theorem dL_law_622 : decode cL_law 622 = .ok (.aload_n 0, 1) := by decide +kernel
theorem dL_law_623 : decode cL_law 623 = .ok (.iload_n 3, 1) := by decide +kernel
theorem dL_law_624 : decode cL_law 624 = .ok (.iconst 4, 1) := by decide +kernel
theorem dL_law_625 : decode cL_law 625 = .ok (.iadd, 1) := by decide +kernel
theorem dL_law_626 : decode cL_law 626 = .ok (.iaload, 1) := by decide +kernel
theorem dL_law_627 : decode cL_law 627 = .ok (.invokevirtual 62, 3) := by decide +kernel
theorem dL_law_630 : decode cL_law 630 = .ok (.if_icmp .eq 1033, 3) := by decide +kernel
theorem dL_law_633 : decode cL_law 633 = .ok (.iconst 0, 1) := by decide +kernel
theorem dL_law_634 : decode cL_law 634 = .ok (.ireturn, 1) := by decide +kernel
theorem dL_law_635 : decode cL_law 635 = .ok (.aload_n 1, 1) := by decide +kernel
theorem dL_law_636 : decode cL_law 636 = .ok (.aload_n 0, 1) := by decide +kernel
theorem dL_law_637 : decode cL_law 637 = .ok (.iload_n 3, 1) := by decide +kernel
theorem dL_law_638 : decode cL_law 638 = .ok (.iconst 1, 1) := by decide +kernel
theorem dL_law_639 : decode cL_law 639 = .ok (.iadd, 1) := by decide +kernel
theorem dL_law_640 : decode cL_law 640 = .ok (.iaload, 1) := by decide +kernel
theorem dL_law_641 : decode cL_law 641 = .ok (.aload_n 0, 1) := by decide +kernel
theorem dL_law_642 : decode cL_law 642 = .ok (.iload_n 3, 1) := by decide +kernel
theorem dL_law_643 : decode cL_law 643 = .ok (.iconst 2, 1) := by decide +kernel
theorem dL_law_644 : decode cL_law 644 = .ok (.iadd, 1) := by decide +kernel
theorem dL_law_645 : decode cL_law 645 = .ok (.iaload, 1) := by decide +kernel
theorem dL_law_646 : decode cL_law 646 = .ok (.aload_n 0, 1) := by decide +kernel
theorem dL_law_647 : decode cL_law 647 = .ok (.iload_n 3, 1) := by decide +kernel
theorem dL_law_648 : decode cL_law 648 = .ok (.iconst 3, 1) := by decide +kernel
theorem dL_law_649 : decode cL_law 649 = .ok (.iadd, 1) := by decide +kernel
theorem dL_law_650 : decode cL_law 650 = .ok (.iaload, 1) := by decide +kernel
theorem dL_law_651 : decode cL_law 651 = .ok (.invokevirtual 63, 3) := by decide +kernel
theorem dL_law_654 : decode cL_law 654 = .ok (.aload_n 2, 1) := by decide +kernel
theorem dL_law_655 : decode cL_law 655 = .ok (.aload_n 0, 1) := by decide +kernel
theorem dL_law_656 : decode cL_law 656 = .ok (.iload_n 3, 1) := by decide +kernel
theorem dL_law_657 : decode cL_law 657 = .ok (.iconst 1, 1) := by decide +kernel
theorem dL_law_658 : decode cL_law 658 = .ok (.iadd, 1) := by decide +kernel
theorem dL_law_659 : decode cL_law 659 = .ok (.iaload, 1) := by decide +kernel
theorem dL_law_660 : decode cL_law 660 = .ok (.aload_n 0, 1) := by decide +kernel
theorem dL_law_661 : decode cL_law 661 = .ok (.iload_n 3, 1) := by decide +kernel
theorem dL_law_662 : decode cL_law 662 = .ok (.iconst 2, 1) := by decide +kernel
theorem dL_law_663 : decode cL_law 663 = .ok (.iadd, 1) := by decide +kernel
theorem dL_law_664 : decode cL_law 664 = .ok (.iaload, 1) := by decide +kernel
theorem dL_law_665 : decode cL_law 665 = .ok (.aload_n 0, 1) := by decide +kernel
theorem dL_law_666 : decode cL_law 666 = .ok (.iload_n 3, 1) := by decide +kernel
theorem dL_law_667 : decode cL_law 667 = .ok (.iconst 3, 1) := by decide +kernel
theorem dL_law_668 : decode cL_law 668 = .ok (.iadd, 1) := by decide +kernel
theorem dL_law_669 : decode cL_law 669 = .ok (.iaload, 1) := by decide +kernel
theorem dL_law_670 : decode cL_law 670 = .ok (.invokevirtual 66, 3) := by decide +kernel
theorem dL_law_673 : decode cL_law 673 = .ok (.if_icmp .eq 990, 3) := by decide +kernel
theorem dL_law_676 : decode cL_law 676 = .ok (.iconst 0, 1) := by decide +kernel
theorem dL_law_677 : decode cL_law 677 = .ok (.ireturn, 1) := by decide +kernel
theorem dL_law_678 : decode cL_law 678 = .ok (.aload_n 1, 1) := by decide +kernel
theorem dL_law_679 : decode cL_law 679 = .ok (.aload_n 0, 1) := by decide +kernel
theorem dL_law_680 : decode cL_law 680 = .ok (.iload_n 3, 1) := by decide +kernel
theorem dL_law_681 : decode cL_law 681 = .ok (.iconst 1, 1) := by decide +kernel
theorem dL_law_682 : decode cL_law 682 = .ok (.iadd, 1) := by decide +kernel
theorem dL_law_683 : decode cL_law 683 = .ok (.iaload, 1) := by decide +kernel
theorem dL_law_684 : decode cL_law 684 = .ok (.aload_n 0, 1) := by decide +kernel
theorem dL_law_685 : decode cL_law 685 = .ok (.iload_n 3, 1) := by decide +kernel
theorem dL_law_686 : decode cL_law 686 = .ok (.iconst 2, 1) := by decide +kernel
theorem dL_law_687 : decode cL_law 687 = .ok (.iadd, 1) := by decide +kernel
theorem dL_law_688 : decode cL_law 688 = .ok (.iaload, 1) := by decide +kernel
theorem dL_law_689 : decode cL_law 689 = .ok (.aload_n 0, 1) := by decide +kernel
theorem dL_law_690 : decode cL_law 690 = .ok (.iload_n 3, 1) := by decide +kernel
theorem dL_law_691 : decode cL_law 691 = .ok (.iconst 3, 1) := by decide +kernel
theorem dL_law_692 : decode cL_law 692 = .ok (.iadd, 1) := by decide +kernel
theorem dL_law_693 : decode cL_law 693 = .ok (.iaload, 1) := by decide +kernel
theorem dL_law_694 : decode cL_law 694 = .ok (.invokevirtual 67, 3) := by decide +kernel
theorem dL_law_697 : decode cL_law 697 = .ok (.aload_n 2, 1) := by decide +kernel
theorem dL_law_698 : decode cL_law 698 = .ok (.aload_n 0, 1) := by decide +kernel
theorem dL_law_699 : decode cL_law 699 = .ok (.iload_n 3, 1) := by decide +kernel
theorem dL_law_700 : decode cL_law 700 = .ok (.iconst 1, 1) := by decide +kernel
theorem dL_law_701 : decode cL_law 701 = .ok (.iadd, 1) := by decide +kernel
theorem dL_law_702 : decode cL_law 702 = .ok (.iaload, 1) := by decide +kernel
theorem dL_law_703 : decode cL_law 703 = .ok (.aload_n 0, 1) := by decide +kernel
theorem dL_law_704 : decode cL_law 704 = .ok (.iload_n 3, 1) := by decide +kernel
theorem dL_law_705 : decode cL_law 705 = .ok (.iconst 2, 1) := by decide +kernel
theorem dL_law_706 : decode cL_law 706 = .ok (.iadd, 1) := by decide +kernel
theorem dL_law_707 : decode cL_law 707 = .ok (.iaload, 1) := by decide +kernel
theorem dL_law_708 : decode cL_law 708 = .ok (.aload_n 0, 1) := by decide +kernel
theorem dL_law_709 : decode cL_law 709 = .ok (.iload_n 3, 1) := by decide +kernel
theorem dL_law_710 : decode cL_law 710 = .ok (.iconst 3, 1) := by decide +kernel
theorem dL_law_711 : decode cL_law 711 = .ok (.iadd, 1) := by decide +kernel
theorem dL_law_712 : decode cL_law 712 = .ok (.iaload, 1) := by decide +kernel
theorem dL_law_713 : decode cL_law 713 = .ok (.invokevirtual 71, 3) := by decide +kernel
theorem dL_law_716 : decode cL_law 716 = .ok (.lcmp, 1) := by decide +kernel
theorem dL_law_717 : decode cL_law 717 = .ok (.ifCond .eq 946, 3) := by decide +kernel
theorem dL_law_720 : decode cL_law 720 = .ok (.iconst 0, 1) := by decide +kernel
theorem dL_law_721 : decode cL_law 721 = .ok (.ireturn, 1) := by decide +kernel
theorem dL_law_722 : decode cL_law 722 = .ok (.aload_n 1, 1) := by decide +kernel
theorem dL_law_723 : decode cL_law 723 = .ok (.aload_n 0, 1) := by decide +kernel
theorem dL_law_724 : decode cL_law 724 = .ok (.iload_n 3, 1) := by decide +kernel
theorem dL_law_725 : decode cL_law 725 = .ok (.iconst 1, 1) := by decide +kernel
theorem dL_law_726 : decode cL_law 726 = .ok (.iadd, 1) := by decide +kernel
theorem dL_law_727 : decode cL_law 727 = .ok (.iaload, 1) := by decide +kernel
theorem dL_law_728 : decode cL_law 728 = .ok (.aload_n 0, 1) := by decide +kernel
theorem dL_law_729 : decode cL_law 729 = .ok (.iload_n 3, 1) := by decide +kernel
theorem dL_law_730 : decode cL_law 730 = .ok (.iconst 2, 1) := by decide +kernel
theorem dL_law_731 : decode cL_law 731 = .ok (.iadd, 1) := by decide +kernel
theorem dL_law_732 : decode cL_law 732 = .ok (.iaload, 1) := by decide +kernel
theorem dL_law_733 : decode cL_law 733 = .ok (.aload_n 0, 1) := by decide +kernel
theorem dL_law_734 : decode cL_law 734 = .ok (.iload_n 3, 1) := by decide +kernel
theorem dL_law_735 : decode cL_law 735 = .ok (.iconst 3, 1) := by decide +kernel
theorem dL_law_736 : decode cL_law 736 = .ok (.iadd, 1) := by decide +kernel
theorem dL_law_737 : decode cL_law 737 = .ok (.iaload, 1) := by decide +kernel
theorem dL_law_738 : decode cL_law 738 = .ok (.invokevirtual 72, 3) := by decide +kernel
theorem dL_law_741 : decode cL_law 741 = .ok (.aload_n 2, 1) := by decide +kernel
theorem dL_law_742 : decode cL_law 742 = .ok (.aload_n 0, 1) := by decide +kernel
theorem dL_law_743 : decode cL_law 743 = .ok (.iload_n 3, 1) := by decide +kernel
theorem dL_law_744 : decode cL_law 744 = .ok (.iconst 1, 1) := by decide +kernel
theorem dL_law_745 : decode cL_law 745 = .ok (.iadd, 1) := by decide +kernel
theorem dL_law_746 : decode cL_law 746 = .ok (.iaload, 1) := by decide +kernel
theorem dL_law_747 : decode cL_law 747 = .ok (.aload_n 0, 1) := by decide +kernel
theorem dL_law_748 : decode cL_law 748 = .ok (.iload_n 3, 1) := by decide +kernel
theorem dL_law_749 : decode cL_law 749 = .ok (.iconst 2, 1) := by decide +kernel
theorem dL_law_750 : decode cL_law 750 = .ok (.iadd, 1) := by decide +kernel
theorem dL_law_751 : decode cL_law 751 = .ok (.iaload, 1) := by decide +kernel
theorem dL_law_752 : decode cL_law 752 = .ok (.aload_n 0, 1) := by decide +kernel
theorem dL_law_753 : decode cL_law 753 = .ok (.iload_n 3, 1) := by decide +kernel
theorem dL_law_754 : decode cL_law 754 = .ok (.iconst 3, 1) := by decide +kernel
theorem dL_law_755 : decode cL_law 755 = .ok (.iadd, 1) := by decide +kernel
theorem dL_law_756 : decode cL_law 756 = .ok (.iaload, 1) := by decide +kernel
theorem dL_law_757 : decode cL_law 757 = .ok (.invokevirtual 75, 3) := by decide +kernel
theorem dL_law_760 : decode cL_law 760 = .ok (.if_icmp .eq 903, 3) := by decide +kernel
theorem dL_law_763 : decode cL_law 763 = .ok (.iconst 0, 1) := by decide +kernel
theorem dL_law_764 : decode cL_law 764 = .ok (.ireturn, 1) := by decide +kernel
theorem dL_law_765 : decode cL_law 765 = .ok (.aload_n 1, 1) := by decide +kernel
theorem dL_law_766 : decode cL_law 766 = .ok (.aload_n 0, 1) := by decide +kernel
theorem dL_law_767 : decode cL_law 767 = .ok (.iload_n 3, 1) := by decide +kernel
theorem dL_law_768 : decode cL_law 768 = .ok (.iconst 1, 1) := by decide +kernel
theorem dL_law_769 : decode cL_law 769 = .ok (.iadd, 1) := by decide +kernel
theorem dL_law_770 : decode cL_law 770 = .ok (.iaload, 1) := by decide +kernel
theorem dL_law_771 : decode cL_law 771 = .ok (.aload_n 0, 1) := by decide +kernel
theorem dL_law_772 : decode cL_law 772 = .ok (.iload_n 3, 1) := by decide +kernel
theorem dL_law_773 : decode cL_law 773 = .ok (.iconst 2, 1) := by decide +kernel
theorem dL_law_774 : decode cL_law 774 = .ok (.iadd, 1) := by decide +kernel
theorem dL_law_775 : decode cL_law 775 = .ok (.iaload, 1) := by decide +kernel
theorem dL_law_776 : decode cL_law 776 = .ok (.aload_n 0, 1) := by decide +kernel
theorem dL_law_777 : decode cL_law 777 = .ok (.iload_n 3, 1) := by decide +kernel
theorem dL_law_778 : decode cL_law 778 = .ok (.iconst 3, 1) := by decide +kernel
theorem dL_law_779 : decode cL_law 779 = .ok (.iadd, 1) := by decide +kernel
theorem dL_law_780 : decode cL_law 780 = .ok (.iaload, 1) := by decide +kernel
theorem dL_law_781 : decode cL_law 781 = .ok (.invokevirtual 76, 3) := by decide +kernel
theorem dL_law_784 : decode cL_law 784 = .ok (.aload_n 2, 1) := by decide +kernel
theorem dL_law_785 : decode cL_law 785 = .ok (.aload_n 0, 1) := by decide +kernel
theorem dL_law_786 : decode cL_law 786 = .ok (.iload_n 3, 1) := by decide +kernel
theorem dL_law_787 : decode cL_law 787 = .ok (.iconst 1, 1) := by decide +kernel
theorem dL_law_788 : decode cL_law 788 = .ok (.iadd, 1) := by decide +kernel
theorem dL_law_789 : decode cL_law 789 = .ok (.iaload, 1) := by decide +kernel
theorem dL_law_790 : decode cL_law 790 = .ok (.aload_n 0, 1) := by decide +kernel
theorem dL_law_791 : decode cL_law 791 = .ok (.iload_n 3, 1) := by decide +kernel
theorem dL_law_792 : decode cL_law 792 = .ok (.iconst 2, 1) := by decide +kernel
theorem dL_law_793 : decode cL_law 793 = .ok (.iadd, 1) := by decide +kernel
theorem dL_law_794 : decode cL_law 794 = .ok (.iaload, 1) := by decide +kernel
theorem dL_law_795 : decode cL_law 795 = .ok (.aload_n 0, 1) := by decide +kernel
theorem dL_law_796 : decode cL_law 796 = .ok (.iload_n 3, 1) := by decide +kernel
theorem dL_law_797 : decode cL_law 797 = .ok (.iconst 3, 1) := by decide +kernel
theorem dL_law_798 : decode cL_law 798 = .ok (.iadd, 1) := by decide +kernel
theorem dL_law_799 : decode cL_law 799 = .ok (.iaload, 1) := by decide +kernel
theorem dL_law_800 : decode cL_law 800 = .ok (.invokevirtual 79, 3) := by decide +kernel
theorem dL_law_803 : decode cL_law 803 = .ok (.if_icmp .eq 860, 3) := by decide +kernel
theorem dL_law_806 : decode cL_law 806 = .ok (.iconst 0, 1) := by decide +kernel
theorem dL_law_807 : decode cL_law 807 = .ok (.ireturn, 1) := by decide +kernel
theorem dL_law_808 : decode cL_law 808 = .ok (.aload_n 1, 1) := by decide +kernel
theorem dL_law_809 : decode cL_law 809 = .ok (.aload_n 0, 1) := by decide +kernel
theorem dL_law_810 : decode cL_law 810 = .ok (.iload_n 3, 1) := by decide +kernel
theorem dL_law_811 : decode cL_law 811 = .ok (.iconst 1, 1) := by decide +kernel
theorem dL_law_812 : decode cL_law 812 = .ok (.iadd, 1) := by decide +kernel
theorem dL_law_813 : decode cL_law 813 = .ok (.iaload, 1) := by decide +kernel
theorem dL_law_814 : decode cL_law 814 = .ok (.aload_n 0, 1) := by decide +kernel
theorem dL_law_815 : decode cL_law 815 = .ok (.iload_n 3, 1) := by decide +kernel
theorem dL_law_816 : decode cL_law 816 = .ok (.iconst 2, 1) := by decide +kernel
theorem dL_law_817 : decode cL_law 817 = .ok (.iadd, 1) := by decide +kernel
theorem dL_law_818 : decode cL_law 818 = .ok (.iaload, 1) := by decide +kernel
theorem dL_law_819 : decode cL_law 819 = .ok (.invokevirtual 80, 3) := by decide +kernel
theorem dL_law_822 : decode cL_law 822 = .ok (.aload_n 2, 1) := by decide +kernel
theorem dL_law_823 : decode cL_law 823 = .ok (.aload_n 0, 1) := by decide +kernel
theorem dL_law_824 : decode cL_law 824 = .ok (.iload_n 3, 1) := by decide +kernel
theorem dL_law_825 : decode cL_law 825 = .ok (.iconst 1, 1) := by decide +kernel
theorem dL_law_826 : decode cL_law 826 = .ok (.iadd, 1) := by decide +kernel
theorem dL_law_827 : decode cL_law 827 = .ok (.iaload, 1) := by decide +kernel
theorem dL_law_828 : decode cL_law 828 = .ok (.aload_n 0, 1) := by decide +kernel
theorem dL_law_829 : decode cL_law 829 = .ok (.iload_n 3, 1) := by decide +kernel
theorem dL_law_830 : decode cL_law 830 = .ok (.iconst 2, 1) := by decide +kernel
theorem dL_law_831 : decode cL_law 831 = .ok (.iadd, 1) := by decide +kernel
theorem dL_law_832 : decode cL_law 832 = .ok (.iaload, 1) := by decide +kernel
theorem dL_law_833 : decode cL_law 833 = .ok (.invokevirtual 83, 3) := by decide +kernel
theorem dL_law_836 : decode cL_law 836 = .ok (.if_icmp .eq 827, 3) := by decide +kernel
theorem dL_law_839 : decode cL_law 839 = .ok (.iconst 0, 1) := by decide +kernel
theorem dL_law_840 : decode cL_law 840 = .ok (.ireturn, 1) := by decide +kernel
theorem dL_law_841 : decode cL_law 841 = .ok (.aload_n 1, 1) := by decide +kernel
theorem dL_law_842 : decode cL_law 842 = .ok (.aload_n 0, 1) := by decide +kernel
theorem dL_law_843 : decode cL_law 843 = .ok (.iload_n 3, 1) := by decide +kernel
theorem dL_law_844 : decode cL_law 844 = .ok (.iconst 1, 1) := by decide +kernel
theorem dL_law_845 : decode cL_law 845 = .ok (.iadd, 1) := by decide +kernel
theorem dL_law_846 : decode cL_law 846 = .ok (.iaload, 1) := by decide +kernel
theorem dL_law_847 : decode cL_law 847 = .ok (.aload_n 0, 1) := by decide +kernel
theorem dL_law_848 : decode cL_law 848 = .ok (.iload_n 3, 1) := by decide +kernel
theorem dL_law_849 : decode cL_law 849 = .ok (.iconst 2, 1) := by decide +kernel
theorem dL_law_850 : decode cL_law 850 = .ok (.iadd, 1) := by decide +kernel
theorem dL_law_851 : decode cL_law 851 = .ok (.iaload, 1) := by decide +kernel
theorem dL_law_852 : decode cL_law 852 = .ok (.aload_n 0, 1) := by decide +kernel
theorem dL_law_853 : decode cL_law 853 = .ok (.iload_n 3, 1) := by decide +kernel
theorem dL_law_854 : decode cL_law 854 = .ok (.iconst 3, 1) := by decide +kernel
theorem dL_law_855 : decode cL_law 855 = .ok (.iadd, 1) := by decide +kernel
theorem dL_law_856 : decode cL_law 856 = .ok (.iaload, 1) := by decide +kernel
theorem dL_law_857 : decode cL_law 857 = .ok (.invokevirtual 84, 3) := by decide +kernel
theorem dL_law_860 : decode cL_law 860 = .ok (.aload_n 2, 1) := by decide +kernel
theorem dL_law_861 : decode cL_law 861 = .ok (.aload_n 0, 1) := by decide +kernel
theorem dL_law_862 : decode cL_law 862 = .ok (.iload_n 3, 1) := by decide +kernel
theorem dL_law_863 : decode cL_law 863 = .ok (.iconst 1, 1) := by decide +kernel
theorem dL_law_864 : decode cL_law 864 = .ok (.iadd, 1) := by decide +kernel
theorem dL_law_865 : decode cL_law 865 = .ok (.iaload, 1) := by decide +kernel
theorem dL_law_866 : decode cL_law 866 = .ok (.aload_n 0, 1) := by decide +kernel
theorem dL_law_867 : decode cL_law 867 = .ok (.iload_n 3, 1) := by decide +kernel
theorem dL_law_868 : decode cL_law 868 = .ok (.iconst 2, 1) := by decide +kernel
theorem dL_law_869 : decode cL_law 869 = .ok (.iadd, 1) := by decide +kernel
theorem dL_law_870 : decode cL_law 870 = .ok (.iaload, 1) := by decide +kernel
theorem dL_law_871 : decode cL_law 871 = .ok (.aload_n 0, 1) := by decide +kernel
theorem dL_law_872 : decode cL_law 872 = .ok (.iload_n 3, 1) := by decide +kernel
theorem dL_law_873 : decode cL_law 873 = .ok (.iconst 3, 1) := by decide +kernel
theorem dL_law_874 : decode cL_law 874 = .ok (.iadd, 1) := by decide +kernel
theorem dL_law_875 : decode cL_law 875 = .ok (.iaload, 1) := by decide +kernel
theorem dL_law_876 : decode cL_law 876 = .ok (.invokevirtual 87, 3) := by decide +kernel
theorem dL_law_879 : decode cL_law 879 = .ok (.if_icmp .eq 784, 3) := by decide +kernel
theorem dL_law_882 : decode cL_law 882 = .ok (.iconst 0, 1) := by decide +kernel
theorem dL_law_883 : decode cL_law 883 = .ok (.ireturn, 1) := by decide +kernel
theorem dL_law_884 : decode cL_law 884 = .ok (.aload_n 1, 1) := by decide +kernel
theorem dL_law_885 : decode cL_law 885 = .ok (.aload_n 0, 1) := by decide +kernel
theorem dL_law_886 : decode cL_law 886 = .ok (.iload_n 3, 1) := by decide +kernel
theorem dL_law_887 : decode cL_law 887 = .ok (.iconst 1, 1) := by decide +kernel
theorem dL_law_888 : decode cL_law 888 = .ok (.iadd, 1) := by decide +kernel
theorem dL_law_889 : decode cL_law 889 = .ok (.iaload, 1) := by decide +kernel
theorem dL_law_890 : decode cL_law 890 = .ok (.aload_n 0, 1) := by decide +kernel
theorem dL_law_891 : decode cL_law 891 = .ok (.iload_n 3, 1) := by decide +kernel
theorem dL_law_892 : decode cL_law 892 = .ok (.iconst 2, 1) := by decide +kernel
theorem dL_law_893 : decode cL_law 893 = .ok (.iadd, 1) := by decide +kernel
theorem dL_law_894 : decode cL_law 894 = .ok (.iaload, 1) := by decide +kernel
theorem dL_law_895 : decode cL_law 895 = .ok (.aload_n 0, 1) := by decide +kernel
theorem dL_law_896 : decode cL_law 896 = .ok (.iload_n 3, 1) := by decide +kernel
theorem dL_law_897 : decode cL_law 897 = .ok (.iconst 3, 1) := by decide +kernel
theorem dL_law_898 : decode cL_law 898 = .ok (.iadd, 1) := by decide +kernel
theorem dL_law_899 : decode cL_law 899 = .ok (.iaload, 1) := by decide +kernel
theorem dL_law_900 : decode cL_law 900 = .ok (.aload_n 0, 1) := by decide +kernel
theorem dL_law_901 : decode cL_law 901 = .ok (.iload_n 3, 1) := by decide +kernel
theorem dL_law_902 : decode cL_law 902 = .ok (.iconst 4, 1) := by decide +kernel
theorem dL_law_903 : decode cL_law 903 = .ok (.iadd, 1) := by decide +kernel
theorem dL_law_904 : decode cL_law 904 = .ok (.iaload, 1) := by decide +kernel
theorem dL_law_905 : decode cL_law 905 = .ok (.invokevirtual 88, 3) := by decide +kernel
theorem dL_law_908 : decode cL_law 908 = .ok (.aload_n 2, 1) := by decide +kernel
theorem dL_law_909 : decode cL_law 909 = .ok (.aload_n 0, 1) := by decide +kernel
theorem dL_law_910 : decode cL_law 910 = .ok (.iload_n 3, 1) := by decide +kernel
theorem dL_law_911 : decode cL_law 911 = .ok (.iconst 1, 1) := by decide +kernel
theorem dL_law_912 : decode cL_law 912 = .ok (.iadd, 1) := by decide +kernel
theorem dL_law_913 : decode cL_law 913 = .ok (.iaload, 1) := by decide +kernel
theorem dL_law_914 : decode cL_law 914 = .ok (.aload_n 0, 1) := by decide +kernel
theorem dL_law_915 : decode cL_law 915 = .ok (.iload_n 3, 1) := by decide +kernel
theorem dL_law_916 : decode cL_law 916 = .ok (.iconst 2, 1) := by decide +kernel
theorem dL_law_917 : decode cL_law 917 = .ok (.iadd, 1) := by decide +kernel
theorem dL_law_918 : decode cL_law 918 = .ok (.iaload, 1) := by decide +kernel
theorem dL_law_919 : decode cL_law 919 = .ok (.aload_n 0, 1) := by decide +kernel
theorem dL_law_920 : decode cL_law 920 = .ok (.iload_n 3, 1) := by decide +kernel
theorem dL_law_921 : decode cL_law 921 = .ok (.iconst 3, 1) := by decide +kernel
theorem dL_law_922 : decode cL_law 922 = .ok (.iadd, 1) := by decide +kernel
theorem dL_law_923 : decode cL_law 923 = .ok (.iaload, 1) := by decide +kernel
theorem dL_law_924 : decode cL_law 924 = .ok (.aload_n 0, 1) := by decide +kernel
theorem dL_law_925 : decode cL_law 925 = .ok (.iload_n 3, 1) := by decide +kernel
theorem dL_law_926 : decode cL_law 926 = .ok (.iconst 4, 1) := by decide +kernel
theorem dL_law_927 : decode cL_law 927 = .ok (.iadd, 1) := by decide +kernel
theorem dL_law_928 : decode cL_law 928 = .ok (.iaload, 1) := by decide +kernel
theorem dL_law_929 : decode cL_law 929 = .ok (.invokevirtual 91, 3) := by decide +kernel
theorem dL_law_932 : decode cL_law 932 = .ok (.if_icmp .eq 731, 3) := by decide +kernel
theorem dL_law_935 : decode cL_law 935 = .ok (.iconst 0, 1) := by decide +kernel
theorem dL_law_936 : decode cL_law 936 = .ok (.ireturn, 1) := by decide +kernel
theorem dL_law_937 : decode cL_law 937 = .ok (.aload_n 1, 1) := by decide +kernel
theorem dL_law_938 : decode cL_law 938 = .ok (.aload_n 0, 1) := by decide +kernel
theorem dL_law_939 : decode cL_law 939 = .ok (.iload_n 3, 1) := by decide +kernel
theorem dL_law_940 : decode cL_law 940 = .ok (.iconst 1, 1) := by decide +kernel
theorem dL_law_941 : decode cL_law 941 = .ok (.iadd, 1) := by decide +kernel
theorem dL_law_942 : decode cL_law 942 = .ok (.iaload, 1) := by decide +kernel
theorem dL_law_943 : decode cL_law 943 = .ok (.aload_n 0, 1) := by decide +kernel
theorem dL_law_944 : decode cL_law 944 = .ok (.iload_n 3, 1) := by decide +kernel
theorem dL_law_945 : decode cL_law 945 = .ok (.iconst 2, 1) := by decide +kernel
theorem dL_law_946 : decode cL_law 946 = .ok (.iadd, 1) := by decide +kernel
theorem dL_law_947 : decode cL_law 947 = .ok (.iaload, 1) := by decide +kernel
theorem dL_law_948 : decode cL_law 948 = .ok (.aload_n 0, 1) := by decide +kernel
theorem dL_law_949 : decode cL_law 949 = .ok (.iload_n 3, 1) := by decide +kernel
theorem dL_law_950 : decode cL_law 950 = .ok (.iconst 3, 1) := by decide +kernel
theorem dL_law_951 : decode cL_law 951 = .ok (.iadd, 1) := by decide +kernel
theorem dL_law_952 : decode cL_law 952 = .ok (.iaload, 1) := by decide +kernel
theorem dL_law_953 : decode cL_law 953 = .ok (.aload_n 0, 1) := by decide +kernel
theorem dL_law_954 : decode cL_law 954 = .ok (.iload_n 3, 1) := by decide +kernel
theorem dL_law_955 : decode cL_law 955 = .ok (.iconst 4, 1) := by decide +kernel
theorem dL_law_956 : decode cL_law 956 = .ok (.iadd, 1) := by decide +kernel
theorem dL_law_957 : decode cL_law 957 = .ok (.iaload, 1) := by decide +kernel
theorem dL_law_958 : decode cL_law 958 = .ok (.aload_n 0, 1) := by decide +kernel
theorem dL_law_959 : decode cL_law 959 = .ok (.iload_n 3, 1) := by decide +kernel
theorem dL_law_960 : decode cL_law 960 = .ok (.iconst 5, 1) := by decide +kernel
theorem dL_law_961 : decode cL_law 961 = .ok (.iadd, 1) := by decide +kernel
theorem dL_law_962 : decode cL_law 962 = .ok (.iaload, 1) := by decide +kernel
theorem dL_law_963 : decode cL_law 963 = .ok (.invokevirtual 92, 3) := by decide +kernel
theorem dL_law_966 : decode cL_law 966 = .ok (.aload_n 2, 1) := by decide +kernel
theorem dL_law_967 : decode cL_law 967 = .ok (.aload_n 0, 1) := by decide +kernel
theorem dL_law_968 : decode cL_law 968 = .ok (.iload_n 3, 1) := by decide +kernel
theorem dL_law_969 : decode cL_law 969 = .ok (.iconst 1, 1) := by decide +kernel
theorem dL_law_970 : decode cL_law 970 = .ok (.iadd, 1) := by decide +kernel
theorem dL_law_971 : decode cL_law 971 = .ok (.iaload, 1) := by decide +kernel
theorem dL_law_972 : decode cL_law 972 = .ok (.aload_n 0, 1) := by decide +kernel
theorem dL_law_973 : decode cL_law 973 = .ok (.iload_n 3, 1) := by decide +kernel
theorem dL_law_974 : decode cL_law 974 = .ok (.iconst 2, 1) := by decide +kernel
theorem dL_law_975 : decode cL_law 975 = .ok (.iadd, 1) := by decide +kernel
theorem dL_law_976 : decode cL_law 976 = .ok (.iaload, 1) := by decide +kernel
theorem dL_law_977 : decode cL_law 977 = .ok (.aload_n 0, 1) := by decide +kernel
theorem dL_law_978 : decode cL_law 978 = .ok (.iload_n 3, 1) := by decide +kernel
theorem dL_law_979 : decode cL_law 979 = .ok (.iconst 3, 1) := by decide +kernel
theorem dL_law_980 : decode cL_law 980 = .ok (.iadd, 1) := by decide +kernel
theorem dL_law_981 : decode cL_law 981 = .ok (.iaload, 1) := by decide +kernel
theorem dL_law_982 : decode cL_law 982 = .ok (.aload_n 0, 1) := by decide +kernel
theorem dL_law_983 : decode cL_law 983 = .ok (.iload_n 3, 1) := by decide +kernel
theorem dL_law_984 : decode cL_law 984 = .ok (.iconst 4, 1) := by decide +kernel
theorem dL_law_985 : decode cL_law 985 = .ok (.iadd, 1) := by decide +kernel
theorem dL_law_986 : decode cL_law 986 = .ok (.iaload, 1) := by decide +kernel
theorem dL_law_987 : decode cL_law 987 = .ok (.aload_n 0, 1) := by decide +kernel
theorem dL_law_988 : decode cL_law 988 = .ok (.iload_n 3, 1) := by decide +kernel
theorem dL_law_989 : decode cL_law 989 = .ok (.iconst 5, 1) := by decide +kernel
theorem dL_law_990 : decode cL_law 990 = .ok (.iadd, 1) := by decide +kernel
theorem dL_law_991 : decode cL_law 991 = .ok (.iaload, 1) := by decide +kernel
theorem dL_law_992 : decode cL_law 992 = .ok (.invokevirtual 96, 3) := by decide +kernel
theorem dL_law_995 : decode cL_law 995 = .ok (.if_icmp .eq 668, 3) := by decide +kernel
theorem dL_law_998 : decode cL_law 998 = .ok (.iconst 0, 1) := by decide +kernel
theorem dL_law_999 : decode cL_law 999 = .ok (.ireturn, 1) := by decide +kernel
theorem dL_law_1000 : decode cL_law 1000 = .ok (.aload_n 1, 1) := by decide +kernel
theorem dL_law_1001 : decode cL_law 1001 = .ok (.aload_n 0, 1) := by decide +kernel
theorem dL_law_1002 : decode cL_law 1002 = .ok (.iload_n 3, 1) := by decide +kernel
theorem dL_law_1003 : decode cL_law 1003 = .ok (.iconst 1, 1) := by decide +kernel
theorem dL_law_1004 : decode cL_law 1004 = .ok (.iadd, 1) := by decide +kernel
theorem dL_law_1005 : decode cL_law 1005 = .ok (.iaload, 1) := by decide +kernel
theorem dL_law_1006 : decode cL_law 1006 = .ok (.aload_n 0, 1) := by decide +kernel
theorem dL_law_1007 : decode cL_law 1007 = .ok (.iload_n 3, 1) := by decide +kernel
theorem dL_law_1008 : decode cL_law 1008 = .ok (.iconst 2, 1) := by decide +kernel
theorem dL_law_1009 : decode cL_law 1009 = .ok (.iadd, 1) := by decide +kernel
theorem dL_law_1010 : decode cL_law 1010 = .ok (.iaload, 1) := by decide +kernel
theorem dL_law_1011 : decode cL_law 1011 = .ok (.aload_n 0, 1) := by decide +kernel
theorem dL_law_1012 : decode cL_law 1012 = .ok (.iload_n 3, 1) := by decide +kernel
theorem dL_law_1013 : decode cL_law 1013 = .ok (.iconst 3, 1) := by decide +kernel
theorem dL_law_1014 : decode cL_law 1014 = .ok (.iadd, 1) := by decide +kernel
theorem dL_law_1015 : decode cL_law 1015 = .ok (.iaload, 1) := by decide +kernel
theorem dL_law_1016 : decode cL_law 1016 = .ok (.aload_n 0, 1) := by decide +kernel
theorem dL_law_1017 : decode cL_law 1017 = .ok (.iload_n 3, 1) := by decide +kernel
theorem dL_law_1018 : decode cL_law 1018 = .ok (.iconst 4, 1) := by decide +kernel
theorem dL_law_1019 : decode cL_law 1019 = .ok (.iadd, 1) := by decide +kernel
theorem dL_law_1020 : decode cL_law 1020 = .ok (.iaload, 1) := by decide +kernel
theorem dL_law_1021 : decode cL_law 1021 = .ok (.aload_n 0, 1) := by decide +kernel
theorem dL_law_1022 : decode cL_law 1022 = .ok (.iload_n 3, 1) := by decide +kernel
theorem dL_law_1023 : decode cL_law 1023 = .ok (.iconst 5, 1) := by decide +kernel
theorem dL_law_1024 : decode cL_law 1024 = .ok (.iadd, 1) := by decide +kernel
theorem dL_law_1025 : decode cL_law 1025 = .ok (.iaload, 1) := by decide +kernel
theorem dL_law_1026 : decode cL_law 1026 = .ok (.invokevirtual 97, 3) := by decide +kernel
theorem dL_law_1029 : decode cL_law 1029 = .ok (.aload_n 2, 1) := by decide +kernel
theorem dL_law_1030 : decode cL_law 1030 = .ok (.aload_n 0, 1) := by decide +kernel
theorem dL_law_1031 : decode cL_law 1031 = .ok (.iload_n 3, 1) := by decide +kernel
theorem dL_law_1032 : decode cL_law 1032 = .ok (.iconst 1, 1) := by decide +kernel
theorem dL_law_1033 : decode cL_law 1033 = .ok (.iadd, 1) := by decide +kernel
theorem dL_law_1034 : decode cL_law 1034 = .ok (.iaload, 1) := by decide +kernel
theorem dL_law_1035 : decode cL_law 1035 = .ok (.aload_n 0, 1) := by decide +kernel
theorem dL_law_1036 : decode cL_law 1036 = .ok (.iload_n 3, 1) := by decide +kernel
theorem dL_law_1037 : decode cL_law 1037 = .ok (.iconst 2, 1) := by decide +kernel
theorem dL_law_1038 : decode cL_law 1038 = .ok (.iadd, 1) := by decide +kernel
theorem dL_law_1039 : decode cL_law 1039 = .ok (.iaload, 1) := by decide +kernel
theorem dL_law_1040 : decode cL_law 1040 = .ok (.aload_n 0, 1) := by decide +kernel
theorem dL_law_1041 : decode cL_law 1041 = .ok (.iload_n 3, 1) := by decide +kernel
theorem dL_law_1042 : decode cL_law 1042 = .ok (.iconst 3, 1) := by decide +kernel
theorem dL_law_1043 : decode cL_law 1043 = .ok (.iadd, 1) := by decide +kernel
theorem dL_law_1044 : decode cL_law 1044 = .ok (.iaload, 1) := by decide +kernel
theorem dL_law_1045 : decode cL_law 1045 = .ok (.aload_n 0, 1) := by decide +kernel
theorem dL_law_1046 : decode cL_law 1046 = .ok (.iload_n 3, 1) := by decide +kernel
theorem dL_law_1047 : decode cL_law 1047 = .ok (.iconst 4, 1) := by decide +kernel
theorem dL_law_1048 : decode cL_law 1048 = .ok (.iadd, 1) := by decide +kernel
theorem dL_law_1049 : decode cL_law 1049 = .ok (.iaload, 1) := by decide +kernel
theorem dL_law_1050 : decode cL_law 1050 = .ok (.aload_n 0, 1) := by decide +kernel
theorem dL_law_1051 : decode cL_law 1051 = .ok (.iload_n 3, 1) := by decide +kernel
theorem dL_law_1052 : decode cL_law 1052 = .ok (.iconst 5, 1) := by decide +kernel
theorem dL_law_1053 : decode cL_law 1053 = .ok (.iadd, 1) := by decide +kernel
theorem dL_law_1054 : decode cL_law 1054 = .ok (.iaload, 1) := by decide +kernel
theorem dL_law_1055 : decode cL_law 1055 = .ok (.invokevirtual 100, 3) := by decide +kernel
theorem dL_law_1058 : decode cL_law 1058 = .ok (.if_icmp .eq 605, 3) := by decide +kernel
theorem dL_law_1061 : decode cL_law 1061 = .ok (.iconst 0, 1) := by decide +kernel
theorem dL_law_1062 : decode cL_law 1062 = .ok (.ireturn, 1) := by decide +kernel
theorem dL_law_1063 : decode cL_law 1063 = .ok (.aload_n 1, 1) := by decide +kernel
theorem dL_law_1064 : decode cL_law 1064 = .ok (.aload_n 0, 1) := by decide +kernel
theorem dL_law_1065 : decode cL_law 1065 = .ok (.iload_n 3, 1) := by decide +kernel
theorem dL_law_1066 : decode cL_law 1066 = .ok (.iconst 1, 1) := by decide +kernel
theorem dL_law_1067 : decode cL_law 1067 = .ok (.iadd, 1) := by decide +kernel
theorem dL_law_1068 : decode cL_law 1068 = .ok (.iaload, 1) := by decide +kernel
theorem dL_law_1069 : decode cL_law 1069 = .ok (.aload_n 0, 1) := by decide +kernel
theorem dL_law_1070 : decode cL_law 1070 = .ok (.iload_n 3, 1) := by decide +kernel
theorem dL_law_1071 : decode cL_law 1071 = .ok (.iconst 2, 1) := by decide +kernel
theorem dL_law_1072 : decode cL_law 1072 = .ok (.iadd, 1) := by decide +kernel
theorem dL_law_1073 : decode cL_law 1073 = .ok (.iaload, 1) := by decide +kernel
theorem dL_law_1074 : decode cL_law 1074 = .ok (.aload_n 0, 1) := by decide +kernel
theorem dL_law_1075 : decode cL_law 1075 = .ok (.iload_n 3, 1) := by decide +kernel
theorem dL_law_1076 : decode cL_law 1076 = .ok (.iconst 3, 1) := by decide +kernel
theorem dL_law_1077 : decode cL_law 1077 = .ok (.iadd, 1) := by decide +kernel
theorem dL_law_1078 : decode cL_law 1078 = .ok (.iaload, 1) := by decide +kernel
theorem dL_law_1079 : decode cL_law 1079 = .ok (.aload_n 0, 1) := by decide +kernel
theorem dL_law_1080 : decode cL_law 1080 = .ok (.iload_n 3, 1) := by decide +kernel
theorem dL_law_1081 : decode cL_law 1081 = .ok (.iconst 4, 1) := by decide +kernel
theorem dL_law_1082 : decode cL_law 1082 = .ok (.iadd, 1) := by decide +kernel
theorem dL_law_1083 : decode cL_law 1083 = .ok (.iaload, 1) := by decide +kernel
theorem dL_law_1084 : decode cL_law 1084 = .ok (.aload_n 0, 1) := by decide +kernel
theorem dL_law_1085 : decode cL_law 1085 = .ok (.iload_n 3, 1) := by decide +kernel
theorem dL_law_1086 : decode cL_law 1086 = .ok (.iconst 5, 1) := by decide +kernel
theorem dL_law_1087 : decode cL_law 1087 = .ok (.iadd, 1) := by decide +kernel
theorem dL_law_1088 : decode cL_law 1088 = .ok (.iaload, 1) := by decide +kernel
theorem dL_law_1089 : decode cL_law 1089 = .ok (.invokevirtual 101, 3) := by decide +kernel
theorem dL_law_1092 : decode cL_law 1092 = .ok (.aload_n 2, 1) := by decide +kernel
theorem dL_law_1093 : decode cL_law 1093 = .ok (.aload_n 0, 1) := by decide +kernel
theorem dL_law_1094 : decode cL_law 1094 = .ok (.iload_n 3, 1) := by decide +kernel
theorem dL_law_1095 : decode cL_law 1095 = .ok (.iconst 1, 1) := by decide +kernel
theorem dL_law_1096 : decode cL_law 1096 = .ok (.iadd, 1) := by decide +kernel
theorem dL_law_1097 : decode cL_law 1097 = .ok (.iaload, 1) := by decide +kernel
theorem dL_law_1098 : decode cL_law 1098 = .ok (.aload_n 0, 1) := by decide +kernel
theorem dL_law_1099 : decode cL_law 1099 = .ok (.iload_n 3, 1) := by decide +kernel
theorem dL_law_1100 : decode cL_law 1100 = .ok (.iconst 2, 1) := by decide +kernel
theorem dL_law_1101 : decode cL_law 1101 = .ok (.iadd, 1) := by decide +kernel
theorem dL_law_1102 : decode cL_law 1102 = .ok (.iaload, 1) := by decide +kernel
theorem dL_law_1103 : decode cL_law 1103 = .ok (.aload_n 0, 1) := by decide +kernel
theorem dL_law_1104 : decode cL_law 1104 = .ok (.iload_n 3, 1) := by decide +kernel
theorem dL_law_1105 : decode cL_law 1105 = .ok (.iconst 3, 1) := by decide +kernel
theorem dL_law_1106 : decode cL_law 1106 = .ok (.iadd, 1) := by decide +kernel
theorem dL_law_1107 : decode cL_law 1107 = .ok (.iaload, 1) := by decide +kernel
theorem dL_law_1108 : decode cL_law 1108 = .ok (.aload_n 0, 1) := by decide +kernel
theorem dL_law_1109 : decode cL_law 1109 = .ok (.iload_n 3, 1) := by decide +kernel
theorem dL_law_1110 : decode cL_law 1110 = .ok (.iconst 4, 1) := by decide +kernel
theorem dL_law_1111 : decode cL_law 1111 = .ok (.iadd, 1) := by decide +kernel
theorem dL_law_1112 : decode cL_law 1112 = .ok (.iaload, 1) := by decide +kernel
theorem dL_law_1113 : decode cL_law 1113 = .ok (.aload_n 0, 1) := by decide +kernel
theorem dL_law_1114 : decode cL_law 1114 = .ok (.iload_n 3, 1) := by decide +kernel
theorem dL_law_1115 : decode cL_law 1115 = .ok (.iconst 5, 1) := by decide +kernel
theorem dL_law_1116 : decode cL_law 1116 = .ok (.iadd, 1) := by decide +kernel
theorem dL_law_1117 : decode cL_law 1117 = .ok (.iaload, 1) := by decide +kernel
theorem dL_law_1118 : decode cL_law 1118 = .ok (.invokevirtual 104, 3) := by decide +kernel
theorem dL_law_1121 : decode cL_law 1121 = .ok (.if_icmp .eq 542, 3) := by decide +kernel
theorem dL_law_1124 : decode cL_law 1124 = .ok (.iconst 0, 1) := by decide +kernel
theorem dL_law_1125 : decode cL_law 1125 = .ok (.ireturn, 1) := by decide +kernel
theorem dL_law_1126 : decode cL_law 1126 = .ok (.aload_n 1, 1) := by decide +kernel
theorem dL_law_1127 : decode cL_law 1127 = .ok (.aload_n 0, 1) := by decide +kernel
theorem dL_law_1128 : decode cL_law 1128 = .ok (.iload_n 3, 1) := by decide +kernel
theorem dL_law_1129 : decode cL_law 1129 = .ok (.iconst 1, 1) := by decide +kernel
theorem dL_law_1130 : decode cL_law 1130 = .ok (.iadd, 1) := by decide +kernel
theorem dL_law_1131 : decode cL_law 1131 = .ok (.iaload, 1) := by decide +kernel
theorem dL_law_1132 : decode cL_law 1132 = .ok (.aload_n 0, 1) := by decide +kernel
theorem dL_law_1133 : decode cL_law 1133 = .ok (.iload_n 3, 1) := by decide +kernel
theorem dL_law_1134 : decode cL_law 1134 = .ok (.iconst 2, 1) := by decide +kernel
theorem dL_law_1135 : decode cL_law 1135 = .ok (.iadd, 1) := by decide +kernel
theorem dL_law_1136 : decode cL_law 1136 = .ok (.iaload, 1) := by decide +kernel
theorem dL_law_1137 : decode cL_law 1137 = .ok (.aload_n 0, 1) := by decide +kernel
theorem dL_law_1138 : decode cL_law 1138 = .ok (.iload_n 3, 1) := by decide +kernel
theorem dL_law_1139 : decode cL_law 1139 = .ok (.iconst 3, 1) := by decide +kernel
theorem dL_law_1140 : decode cL_law 1140 = .ok (.iadd, 1) := by decide +kernel
theorem dL_law_1141 : decode cL_law 1141 = .ok (.iaload, 1) := by decide +kernel
theorem dL_law_1142 : decode cL_law 1142 = .ok (.aload_n 0, 1) := by decide +kernel
theorem dL_law_1143 : decode cL_law 1143 = .ok (.iload_n 3, 1) := by decide +kernel
theorem dL_law_1144 : decode cL_law 1144 = .ok (.iconst 4, 1) := by decide +kernel
theorem dL_law_1145 : decode cL_law 1145 = .ok (.iadd, 1) := by decide +kernel
theorem dL_law_1146 : decode cL_law 1146 = .ok (.iaload, 1) := by decide +kernel
theorem dL_law_1147 : decode cL_law 1147 = .ok (.invokevirtual 105, 3) := by decide +kernel
theorem dL_law_1150 : decode cL_law 1150 = .ok (.aload_n 2, 1) := by decide +kernel
theorem dL_law_1151 : decode cL_law 1151 = .ok (.aload_n 0, 1) := by decide +kernel
theorem dL_law_1152 : decode cL_law 1152 = .ok (.iload_n 3, 1) := by decide +kernel
theorem dL_law_1153 : decode cL_law 1153 = .ok (.iconst 1, 1) := by decide +kernel
theorem dL_law_1154 : decode cL_law 1154 = .ok (.iadd, 1) := by decide +kernel
theorem dL_law_1155 : decode cL_law 1155 = .ok (.iaload, 1) := by decide +kernel
theorem dL_law_1156 : decode cL_law 1156 = .ok (.aload_n 0, 1) := by decide +kernel
theorem dL_law_1157 : decode cL_law 1157 = .ok (.iload_n 3, 1) := by decide +kernel
theorem dL_law_1158 : decode cL_law 1158 = .ok (.iconst 2, 1) := by decide +kernel
theorem dL_law_1159 : decode cL_law 1159 = .ok (.iadd, 1) := by decide +kernel
theorem dL_law_1160 : decode cL_law 1160 = .ok (.iaload, 1) := by decide +kernel
theorem dL_law_1161 : decode cL_law 1161 = .ok (.aload_n 0, 1) := by decide +kernel
theorem dL_law_1162 : decode cL_law 1162 = .ok (.iload_n 3, 1) := by decide +kernel
theorem dL_law_1163 : decode cL_law 1163 = .ok (.iconst 3, 1) := by decide +kernel
theorem dL_law_1164 : decode cL_law 1164 = .ok (.iadd, 1) := by decide +kernel
theorem dL_law_1165 : decode cL_law 1165 = .ok (.iaload, 1) := by decide +kernel
theorem dL_law_1166 : decode cL_law 1166 = .ok (.aload_n 0, 1) := by decide +kernel
theorem dL_law_1167 : decode cL_law 1167 = .ok (.iload_n 3, 1) := by decide +kernel
theorem dL_law_1168 : decode cL_law 1168 = .ok (.iconst 4, 1) := by decide +kernel
theorem dL_law_1169 : decode cL_law 1169 = .ok (.iadd, 1) := by decide +kernel
theorem dL_law_1170 : decode cL_law 1170 = .ok (.iaload, 1) := by decide +kernel
theorem dL_law_1171 : decode cL_law 1171 = .ok (.invokevirtual 108, 3) := by decide +kernel
theorem dL_law_1174 : decode cL_law 1174 = .ok (.if_icmp .eq 489, 3) := by decide +kernel
theorem dL_law_1177 : decode cL_law 1177 = .ok (.iconst 0, 1) := by decide +kernel
theorem dL_law_1178 : decode cL_law 1178 = .ok (.ireturn, 1) := by decide +kernel
theorem dL_law_1179 : decode cL_law 1179 = .ok (.aload_n 1, 1) := by decide +kernel
theorem dL_law_1180 : decode cL_law 1180 = .ok (.aload_n 0, 1) := by decide +kernel
theorem dL_law_1181 : decode cL_law 1181 = .ok (.iload_n 3, 1) := by decide +kernel
theorem dL_law_1182 : decode cL_law 1182 = .ok (.iconst 1, 1) := by decide +kernel
theorem dL_law_1183 : decode cL_law 1183 = .ok (.iadd, 1) := by decide +kernel
theorem dL_law_1184 : decode cL_law 1184 = .ok (.iaload, 1) := by decide +kernel
theorem dL_law_1185 : decode cL_law 1185 = .ok (.aload_n 0, 1) := by decide +kernel
theorem dL_law_1186 : decode cL_law 1186 = .ok (.iload_n 3, 1) := by decide +kernel
theorem dL_law_1187 : decode cL_law 1187 = .ok (.iconst 2, 1) := by decide +kernel
theorem dL_law_1188 : decode cL_law 1188 = .ok (.iadd, 1) := by decide +kernel
theorem dL_law_1189 : decode cL_law 1189 = .ok (.iaload, 1) := by decide +kernel
theorem dL_law_1190 : decode cL_law 1190 = .ok (.aload_n 0, 1) := by decide +kernel
theorem dL_law_1191 : decode cL_law 1191 = .ok (.iload_n 3, 1) := by decide +kernel
theorem dL_law_1192 : decode cL_law 1192 = .ok (.iconst 3, 1) := by decide +kernel
theorem dL_law_1193 : decode cL_law 1193 = .ok (.iadd, 1) := by decide +kernel
theorem dL_law_1194 : decode cL_law 1194 = .ok (.iaload, 1) := by decide +kernel
theorem dL_law_1195 : decode cL_law 1195 = .ok (.aload_n 0, 1) := by decide +kernel
theorem dL_law_1196 : decode cL_law 1196 = .ok (.iload_n 3, 1) := by decide +kernel
theorem dL_law_1197 : decode cL_law 1197 = .ok (.iconst 4, 1) := by decide +kernel
theorem dL_law_1198 : decode cL_law 1198 = .ok (.iadd, 1) := by decide +kernel
theorem dL_law_1199 : decode cL_law 1199 = .ok (.iaload, 1) := by decide +kernel
theorem dL_law_1200 : decode cL_law 1200 = .ok (.invokevirtual 109, 3) := by decide +kernel
theorem dL_law_1203 : decode cL_law 1203 = .ok (.aload_n 2, 1) := by decide +kernel
theorem dL_law_1204 : decode cL_law 1204 = .ok (.aload_n 0, 1) := by decide +kernel
theorem dL_law_1205 : decode cL_law 1205 = .ok (.iload_n 3, 1) := by decide +kernel
theorem dL_law_1206 : decode cL_law 1206 = .ok (.iconst 1, 1) := by decide +kernel
theorem dL_law_1207 : decode cL_law 1207 = .ok (.iadd, 1) := by decide +kernel
theorem dL_law_1208 : decode cL_law 1208 = .ok (.iaload, 1) := by decide +kernel
theorem dL_law_1209 : decode cL_law 1209 = .ok (.aload_n 0, 1) := by decide +kernel
theorem dL_law_1210 : decode cL_law 1210 = .ok (.iload_n 3, 1) := by decide +kernel
theorem dL_law_1211 : decode cL_law 1211 = .ok (.iconst 2, 1) := by decide +kernel
theorem dL_law_1212 : decode cL_law 1212 = .ok (.iadd, 1) := by decide +kernel
theorem dL_law_1213 : decode cL_law 1213 = .ok (.iaload, 1) := by decide +kernel
theorem dL_law_1214 : decode cL_law 1214 = .ok (.aload_n 0, 1) := by decide +kernel
theorem dL_law_1215 : decode cL_law 1215 = .ok (.iload_n 3, 1) := by decide +kernel
theorem dL_law_1216 : decode cL_law 1216 = .ok (.iconst 3, 1) := by decide +kernel
theorem dL_law_1217 : decode cL_law 1217 = .ok (.iadd, 1) := by decide +kernel
theorem dL_law_1218 : decode cL_law 1218 = .ok (.iaload, 1) := by decide +kernel
theorem dL_law_1219 : decode cL_law 1219 = .ok (.aload_n 0, 1) := by decide +kernel
theorem dL_law_1220 : decode cL_law 1220 = .ok (.iload_n 3, 1) := by decide +kernel
theorem dL_law_1221 : decode cL_law 1221 = .ok (.iconst 4, 1) := by decide +kernel
theorem dL_law_1222 : decode cL_law 1222 = .ok (.iadd, 1) := by decide +kernel
theorem dL_law_1223 : decode cL_law 1223 = .ok (.iaload, 1) := by decide +kernel
theorem dL_law_1224 : decode cL_law 1224 = .ok (.invokevirtual 112, 3) := by decide +kernel
theorem dL_law_1227 : decode cL_law 1227 = .ok (.if_icmp .eq 436, 3) := by decide +kernel
theorem dL_law_1230 : decode cL_law 1230 = .ok (.iconst 0, 1) := by decide +kernel
theorem dL_law_1231 : decode cL_law 1231 = .ok (.ireturn, 1) := by decide +kernel
theorem dL_law_1232 : decode cL_law 1232 = .ok (.aload_n 1, 1) := by decide +kernel
theorem dL_law_1233 : decode cL_law 1233 = .ok (.aload_n 0, 1) := by decide +kernel
theorem dL_law_1234 : decode cL_law 1234 = .ok (.iload_n 3, 1) := by decide +kernel
theorem dL_law_1235 : decode cL_law 1235 = .ok (.iconst 1, 1) := by decide +kernel
theorem dL_law_1236 : decode cL_law 1236 = .ok (.iadd, 1) := by decide +kernel
theorem dL_law_1237 : decode cL_law 1237 = .ok (.iaload, 1) := by decide +kernel
theorem dL_law_1238 : decode cL_law 1238 = .ok (.aload_n 0, 1) := by decide +kernel
theorem dL_law_1239 : decode cL_law 1239 = .ok (.iload_n 3, 1) := by decide +kernel
theorem dL_law_1240 : decode cL_law 1240 = .ok (.iconst 2, 1) := by decide +kernel
theorem dL_law_1241 : decode cL_law 1241 = .ok (.iadd, 1) := by decide +kernel
theorem dL_law_1242 : decode cL_law 1242 = .ok (.iaload, 1) := by decide +kernel
theorem dL_law_1243 : decode cL_law 1243 = .ok (.aload_n 0, 1) := by decide +kernel
theorem dL_law_1244 : decode cL_law 1244 = .ok (.iload_n 3, 1) := by decide +kernel
theorem dL_law_1245 : decode cL_law 1245 = .ok (.iconst 3, 1) := by decide +kernel
theorem dL_law_1246 : decode cL_law 1246 = .ok (.iadd, 1) := by decide +kernel
theorem dL_law_1247 : decode cL_law 1247 = .ok (.iaload, 1) := by decide +kernel
theorem dL_law_1248 : decode cL_law 1248 = .ok (.aload_n 0, 1) := by decide +kernel
theorem dL_law_1249 : decode cL_law 1249 = .ok (.iload_n 3, 1) := by decide +kernel
theorem dL_law_1250 : decode cL_law 1250 = .ok (.iconst 4, 1) := by decide +kernel
theorem dL_law_1251 : decode cL_law 1251 = .ok (.iadd, 1) := by decide +kernel
theorem dL_law_1252 : decode cL_law 1252 = .ok (.iaload, 1) := by decide +kernel
theorem dL_law_1253 : decode cL_law 1253 = .ok (.invokevirtual 113, 3) := by decide +kernel
theorem dL_law_1256 : decode cL_law 1256 = .ok (.aload_n 2, 1) := by decide +kernel
theorem dL_law_1257 : decode cL_law 1257 = .ok (.aload_n 0, 1) := by decide +kernel
theorem dL_law_1258 : decode cL_law 1258 = .ok (.iload_n 3, 1) := by decide +kernel
theorem dL_law_1259 : decode cL_law 1259 = .ok (.iconst 1, 1) := by decide +kernel
theorem dL_law_1260 : decode cL_law 1260 = .ok (.iadd, 1) := by decide +kernel
theorem dL_law_1261 : decode cL_law 1261 = .ok (.iaload, 1) := by decide +kernel
theorem dL_law_1262 : decode cL_law 1262 = .ok (.aload_n 0, 1) := by decide +kernel
theorem dL_law_1263 : decode cL_law 1263 = .ok (.iload_n 3, 1) := by decide +kernel
theorem dL_law_1264 : decode cL_law 1264 = .ok (.iconst 2, 1) := by decide +kernel
theorem dL_law_1265 : decode cL_law 1265 = .ok (.iadd, 1) := by decide +kernel
theorem dL_law_1266 : decode cL_law 1266 = .ok (.iaload, 1) := by decide +kernel
theorem dL_law_1267 : decode cL_law 1267 = .ok (.aload_n 0, 1) := by decide +kernel
theorem dL_law_1268 : decode cL_law 1268 = .ok (.iload_n 3, 1) := by decide +kernel
theorem dL_law_1269 : decode cL_law 1269 = .ok (.iconst 3, 1) := by decide +kernel
theorem dL_law_1270 : decode cL_law 1270 = .ok (.iadd, 1) := by decide +kernel
theorem dL_law_1271 : decode cL_law 1271 = .ok (.iaload, 1) := by decide +kernel
theorem dL_law_1272 : decode cL_law 1272 = .ok (.aload_n 0, 1) := by decide +kernel
theorem dL_law_1273 : decode cL_law 1273 = .ok (.iload_n 3, 1) := by decide +kernel
theorem dL_law_1274 : decode cL_law 1274 = .ok (.iconst 4, 1) := by decide +kernel
theorem dL_law_1275 : decode cL_law 1275 = .ok (.iadd, 1) := by decide +kernel
theorem dL_law_1276 : decode cL_law 1276 = .ok (.iaload, 1) := by decide +kernel
theorem dL_law_1277 : decode cL_law 1277 = .ok (.invokevirtual 116, 3) := by decide +kernel
theorem dL_law_1280 : decode cL_law 1280 = .ok (.if_icmp .eq 383, 3) := by decide +kernel
theorem dL_law_1283 : decode cL_law 1283 = .ok (.iconst 0, 1) := by decide +kernel
theorem dL_law_1284 : decode cL_law 1284 = .ok (.ireturn, 1) := by decide +kernel
theorem dL_law_1285 : decode cL_law 1285 = .ok (.aload_n 1, 1) := by decide +kernel
theorem dL_law_1286 : decode cL_law 1286 = .ok (.aload_n 0, 1) := by decide +kernel
theorem dL_law_1287 : decode cL_law 1287 = .ok (.iload_n 3, 1) := by decide +kernel
theorem dL_law_1288 : decode cL_law 1288 = .ok (.iconst 1, 1) := by decide +kernel
theorem dL_law_1289 : decode cL_law 1289 = .ok (.iadd, 1) := by decide +kernel
theorem dL_law_1290 : decode cL_law 1290 = .ok (.iaload, 1) := by decide +kernel
theorem dL_law_1291 : decode cL_law 1291 = .ok (.aload_n 0, 1) := by decide +kernel
theorem dL_law_1292 : decode cL_law 1292 = .ok (.iload_n 3, 1) := by decide +kernel
theorem dL_law_1293 : decode cL_law 1293 = .ok (.iconst 2, 1) := by decide +kernel
theorem dL_law_1294 : decode cL_law 1294 = .ok (.iadd, 1) := by decide +kernel
theorem dL_law_1295 : decode cL_law 1295 = .ok (.iaload, 1) := by decide +kernel
theorem dL_law_1296 : decode cL_law 1296 = .ok (.aload_n 0, 1) := by decide +kernel
theorem dL_law_1297 : decode cL_law 1297 = .ok (.iload_n 3, 1) := by decide +kernel
theorem dL_law_1298 : decode cL_law 1298 = .ok (.iconst 3, 1) := by decide +kernel
theorem dL_law_1299 : decode cL_law 1299 = .ok (.iadd, 1) := by decide +kernel
theorem dL_law_1300 : decode cL_law 1300 = .ok (.iaload, 1) := by decide +kernel
theorem dL_law_1301 : decode cL_law 1301 = .ok (.aload_n 0, 1) := by decide +kernel
theorem dL_law_1302 : decode cL_law 1302 = .ok (.iload_n 3, 1) := by decide +kernel
theorem dL_law_1303 : decode cL_law 1303 = .ok (.iconst 4, 1) := by decide +kernel
theorem dL_law_1304 : decode cL_law 1304 = .ok (.iadd, 1) := by decide +kernel
theorem dL_law_1305 : decode cL_law 1305 = .ok (.iaload, 1) := by decide +kernel
theorem dL_law_1306 : decode cL_law 1306 = .ok (.invokevirtual 117, 3) := by decide +kernel
theorem dL_law_1309 : decode cL_law 1309 = .ok (.aload_n 2, 1) := by decide +kernel
theorem dL_law_1310 : decode cL_law 1310 = .ok (.aload_n 0, 1) := by decide +kernel
theorem dL_law_1311 : decode cL_law 1311 = .ok (.iload_n 3, 1) := by decide +kernel
theorem dL_law_1312 : decode cL_law 1312 = .ok (.iconst 1, 1) := by decide +kernel
theorem dL_law_1313 : decode cL_law 1313 = .ok (.iadd, 1) := by decide +kernel
theorem dL_law_1314 : decode cL_law 1314 = .ok (.iaload, 1) := by decide +kernel
theorem dL_law_1315 : decode cL_law 1315 = .ok (.aload_n 0, 1) := by decide +kernel
theorem dL_law_1316 : decode cL_law 1316 = .ok (.iload_n 3, 1) := by decide +kernel
theorem dL_law_1317 : decode cL_law 1317 = .ok (.iconst 2, 1) := by decide +kernel
theorem dL_law_1318 : decode cL_law 1318 = .ok (.iadd, 1) := by decide +kernel
theorem dL_law_1319 : decode cL_law 1319 = .ok (.iaload, 1) := by decide +kernel
theorem dL_law_1320 : decode cL_law 1320 = .ok (.aload_n 0, 1) := by decide +kernel
theorem dL_law_1321 : decode cL_law 1321 = .ok (.iload_n 3, 1) := by decide +kernel
theorem dL_law_1322 : decode cL_law 1322 = .ok (.iconst 3, 1) := by decide +kernel
theorem dL_law_1323 : decode cL_law 1323 = .ok (.iadd, 1) := by decide +kernel
theorem dL_law_1324 : decode cL_law 1324 = .ok (.iaload, 1) := by decide +kernel
theorem dL_law_1325 : decode cL_law 1325 = .ok (.aload_n 0, 1) := by decide +kernel
theorem dL_law_1326 : decode cL_law 1326 = .ok (.iload_n 3, 1) := by decide +kernel
theorem dL_law_1327 : decode cL_law 1327 = .ok (.iconst 4, 1) := by decide +kernel
theorem dL_law_1328 : decode cL_law 1328 = .ok (.iadd, 1) := by decide +kernel
theorem dL_law_1329 : decode cL_law 1329 = .ok (.iaload, 1) := by decide +kernel
theorem dL_law_1330 : decode cL_law 1330 = .ok (.invokevirtual 120, 3) := by decide +kernel
theorem dL_law_1333 : decode cL_law 1333 = .ok (.if_icmp .eq 330, 3) := by decide +kernel
theorem dL_law_1336 : decode cL_law 1336 = .ok (.iconst 0, 1) := by decide +kernel
theorem dL_law_1337 : decode cL_law 1337 = .ok (.ireturn, 1) := by decide +kernel
theorem dL_law_1338 : decode cL_law 1338 = .ok (.aload_n 1, 1) := by decide +kernel
theorem dL_law_1339 : decode cL_law 1339 = .ok (.aload_n 0, 1) := by decide +kernel
theorem dL_law_1340 : decode cL_law 1340 = .ok (.iload_n 3, 1) := by decide +kernel
theorem dL_law_1341 : decode cL_law 1341 = .ok (.iconst 1, 1) := by decide +kernel
theorem dL_law_1342 : decode cL_law 1342 = .ok (.iadd, 1) := by decide +kernel
theorem dL_law_1343 : decode cL_law 1343 = .ok (.iaload, 1) := by decide +kernel
theorem dL_law_1344 : decode cL_law 1344 = .ok (.aload_n 0, 1) := by decide +kernel
theorem dL_law_1345 : decode cL_law 1345 = .ok (.iload_n 3, 1) := by decide +kernel
theorem dL_law_1346 : decode cL_law 1346 = .ok (.iconst 2, 1) := by decide +kernel
theorem dL_law_1347 : decode cL_law 1347 = .ok (.iadd, 1) := by decide +kernel
theorem dL_law_1348 : decode cL_law 1348 = .ok (.iaload, 1) := by decide +kernel
theorem dL_law_1349 : decode cL_law 1349 = .ok (.aload_n 0, 1) := by decide +kernel
theorem dL_law_1350 : decode cL_law 1350 = .ok (.iload_n 3, 1) := by decide +kernel
theorem dL_law_1351 : decode cL_law 1351 = .ok (.iconst 3, 1) := by decide +kernel
theorem dL_law_1352 : decode cL_law 1352 = .ok (.iadd, 1) := by decide +kernel
theorem dL_law_1353 : decode cL_law 1353 = .ok (.iaload, 1) := by decide +kernel
theorem dL_law_1354 : decode cL_law 1354 = .ok (.aload_n 0, 1) := by decide +kernel
theorem dL_law_1355 : decode cL_law 1355 = .ok (.iload_n 3, 1) := by decide +kernel
theorem dL_law_1356 : decode cL_law 1356 = .ok (.iconst 4, 1) := by decide +kernel
theorem dL_law_1357 : decode cL_law 1357 = .ok (.iadd, 1) := by decide +kernel
theorem dL_law_1358 : decode cL_law 1358 = .ok (.iaload, 1) := by decide +kernel
theorem dL_law_1359 : decode cL_law 1359 = .ok (.aload_n 0, 1) := by decide +kernel
theorem dL_law_1360 : decode cL_law 1360 = .ok (.iload_n 3, 1) := by decide +kernel
theorem dL_law_1361 : decode cL_law 1361 = .ok (.iconst 5, 1) := by decide +kernel
theorem dL_law_1362 : decode cL_law 1362 = .ok (.iadd, 1) := by decide +kernel
theorem dL_law_1363 : decode cL_law 1363 = .ok (.iaload, 1) := by decide +kernel
theorem dL_law_1364 : decode cL_law 1364 = .ok (.invokevirtual 121, 3) := by decide +kernel
theorem dL_law_1367 : decode cL_law 1367 = .ok (.aload_n 2, 1) := by decide +kernel
theorem dL_law_1368 : decode cL_law 1368 = .ok (.aload_n 0, 1) := by decide +kernel
theorem dL_law_1369 : decode cL_law 1369 = .ok (.iload_n 3, 1) := by decide +kernel
theorem dL_law_1370 : decode cL_law 1370 = .ok (.iconst 1, 1) := by decide +kernel
theorem dL_law_1371 : decode cL_law 1371 = .ok (.iadd, 1) := by decide +kernel
theorem dL_law_1372 : decode cL_law 1372 = .ok (.iaload, 1) := by decide +kernel
theorem dL_law_1373 : decode cL_law 1373 = .ok (.aload_n 0, 1) := by decide +kernel
theorem dL_law_1374 : decode cL_law 1374 = .ok (.iload_n 3, 1) := by decide +kernel
theorem dL_law_1375 : decode cL_law 1375 = .ok (.iconst 2, 1) := by decide +kernel
theorem dL_law_1376 : decode cL_law 1376 = .ok (.iadd, 1) := by decide +kernel
theorem dL_law_1377 : decode cL_law 1377 = .ok (.iaload, 1) := by decide +kernel
theorem dL_law_1378 : decode cL_law 1378 = .ok (.aload_n 0, 1) := by decide +kernel
theorem dL_law_1379 : decode cL_law 1379 = .ok (.iload_n 3, 1) := by decide +kernel
theorem dL_law_1380 : decode cL_law 1380 = .ok (.iconst 3, 1) := by decide +kernel
theorem dL_law_1381 : decode cL_law 1381 = .ok (.iadd, 1) := by decide +kernel
theorem dL_law_1382 : decode cL_law 1382 = .ok (.iaload, 1) := by decide +kernel
theorem dL_law_1383 : decode cL_law 1383 = .ok (.aload_n 0, 1) := by decide +kernel
theorem dL_law_1384 : decode cL_law 1384 = .ok (.iload_n 3, 1) := by decide +kernel
theorem dL_law_1385 : decode cL_law 1385 = .ok (.iconst 4, 1) := by decide +kernel
theorem dL_law_1386 : decode cL_law 1386 = .ok (.iadd, 1) := by decide +kernel
theorem dL_law_1387 : decode cL_law 1387 = .ok (.iaload, 1) := by decide +kernel
theorem dL_law_1388 : decode cL_law 1388 = .ok (.aload_n 0, 1) := by decide +kernel
theorem dL_law_1389 : decode cL_law 1389 = .ok (.iload_n 3, 1) := by decide +kernel
theorem dL_law_1390 : decode cL_law 1390 = .ok (.iconst 5, 1) := by decide +kernel
theorem dL_law_1391 : decode cL_law 1391 = .ok (.iadd, 1) := by decide +kernel
theorem dL_law_1392 : decode cL_law 1392 = .ok (.iaload, 1) := by decide +kernel
theorem dL_law_1393 : decode cL_law 1393 = .ok (.invokevirtual 125, 3) := by decide +kernel
theorem dL_law_1396 : decode cL_law 1396 = .ok (.lcmp, 1) := by decide +kernel
theorem dL_law_1397 : decode cL_law 1397 = .ok (.ifCond .eq 266, 3) := by decide +kernel
theorem dL_law_1400 : decode cL_law 1400 = .ok (.iconst 0, 1) := by decide +kernel
theorem dL_law_1401 : decode cL_law 1401 = .ok (.ireturn, 1) := by decide +kernel
theorem dL_law_1402 : decode cL_law 1402 = .ok (.aload_n 1, 1) := by decide +kernel
theorem dL_law_1403 : decode cL_law 1403 = .ok (.invokevirtual 126, 3) := by decide +kernel
theorem dL_law_1406 : decode cL_law 1406 = .ok (.aload_n 2, 1) := by decide +kernel
theorem dL_law_1407 : decode cL_law 1407 = .ok (.invokevirtual 129, 3) := by decide +kernel
theorem dL_law_1410 : decode cL_law 1410 = .ok (.if_icmp .eq 253, 3) := by decide +kernel
theorem dL_law_1413 : decode cL_law 1413 = .ok (.iconst 0, 1) := by decide +kernel
theorem dL_law_1414 : decode cL_law 1414 = .ok (.ireturn, 1) := by decide +kernel
theorem dL_law_1415 : decode cL_law 1415 = .ok (.aload_n 1, 1) := by decide +kernel
theorem dL_law_1416 : decode cL_law 1416 = .ok (.invokevirtual 130, 3) := by decide +kernel
theorem dL_law_1419 : decode cL_law 1419 = .ok (.aload_n 2, 1) := by decide +kernel
theorem dL_law_1420 : decode cL_law 1420 = .ok (.invokevirtual 133, 3) := by decide +kernel
theorem dL_law_1423 : decode cL_law 1423 = .ok (.if_icmp .eq 240, 3) := by decide +kernel
theorem dL_law_1426 : decode cL_law 1426 = .ok (.iconst 0, 1) := by decide +kernel
theorem dL_law_1427 : decode cL_law 1427 = .ok (.ireturn, 1) := by decide +kernel
theorem dL_law_1428 : decode cL_law 1428 = .ok (.aload_n 1, 1) := by decide +kernel
theorem dL_law_1429 : decode cL_law 1429 = .ok (.aload_n 0, 1) := by decide +kernel
theorem dL_law_1430 : decode cL_law 1430 = .ok (.iload_n 3, 1) := by decide +kernel
theorem dL_law_1431 : decode cL_law 1431 = .ok (.iconst 1, 1) := by decide +kernel
theorem dL_law_1432 : decode cL_law 1432 = .ok (.iadd, 1) := by decide +kernel
theorem dL_law_1433 : decode cL_law 1433 = .ok (.iaload, 1) := by decide +kernel
theorem dL_law_1434 : decode cL_law 1434 = .ok (.aload_n 0, 1) := by decide +kernel
theorem dL_law_1435 : decode cL_law 1435 = .ok (.iload_n 3, 1) := by decide +kernel
theorem dL_law_1436 : decode cL_law 1436 = .ok (.iconst 2, 1) := by decide +kernel
theorem dL_law_1437 : decode cL_law 1437 = .ok (.iadd, 1) := by decide +kernel
theorem dL_law_1438 : decode cL_law 1438 = .ok (.iaload, 1) := by decide +kernel
theorem dL_law_1439 : decode cL_law 1439 = .ok (.aload_n 0, 1) := by decide +kernel
theorem dL_law_1440 : decode cL_law 1440 = .ok (.iload_n 3, 1) := by decide +kernel
theorem dL_law_1441 : decode cL_law 1441 = .ok (.iconst 3, 1) := by decide +kernel
theorem dL_law_1442 : decode cL_law 1442 = .ok (.iadd, 1) := by decide +kernel
theorem dL_law_1443 : decode cL_law 1443 = .ok (.iaload, 1) := by decide +kernel
theorem dL_law_1444 : decode cL_law 1444 = .ok (.invokevirtual 134, 3) := by decide +kernel
theorem dL_law_1447 : decode cL_law 1447 = .ok (.aload_n 2, 1) := by decide +kernel
theorem dL_law_1448 : decode cL_law 1448 = .ok (.aload_n 0, 1) := by decide +kernel
theorem dL_law_1449 : decode cL_law 1449 = .ok (.iload_n 3, 1) := by decide +kernel
theorem dL_law_1450 : decode cL_law 1450 = .ok (.iconst 1, 1) := by decide +kernel
theorem dL_law_1451 : decode cL_law 1451 = .ok (.iadd, 1) := by decide +kernel
theorem dL_law_1452 : decode cL_law 1452 = .ok (.iaload, 1) := by decide +kernel
theorem dL_law_1453 : decode cL_law 1453 = .ok (.aload_n 0, 1) := by decide +kernel
theorem dL_law_1454 : decode cL_law 1454 = .ok (.iload_n 3, 1) := by decide +kernel
theorem dL_law_1455 : decode cL_law 1455 = .ok (.iconst 2, 1) := by decide +kernel
theorem dL_law_1456 : decode cL_law 1456 = .ok (.iadd, 1) := by decide +kernel
theorem dL_law_1457 : decode cL_law 1457 = .ok (.iaload, 1) := by decide +kernel
theorem dL_law_1458 : decode cL_law 1458 = .ok (.aload_n 0, 1) := by decide +kernel
theorem dL_law_1459 : decode cL_law 1459 = .ok (.iload_n 3, 1) := by decide +kernel
theorem dL_law_1460 : decode cL_law 1460 = .ok (.iconst 3, 1) := by decide +kernel
theorem dL_law_1461 : decode cL_law 1461 = .ok (.iadd, 1) := by decide +kernel
theorem dL_law_1462 : decode cL_law 1462 = .ok (.iaload, 1) := by decide +kernel
theorem dL_law_1463 : decode cL_law 1463 = .ok (.invokevirtual 137, 3) := by decide +kernel
theorem dL_law_1466 : decode cL_law 1466 = .ok (.if_icmp .eq 197, 3) := by decide +kernel
theorem dL_law_1469 : decode cL_law 1469 = .ok (.iconst 0, 1) := by decide +kernel
theorem dL_law_1470 : decode cL_law 1470 = .ok (.ireturn, 1) := by decide +kernel
theorem dL_law_1471 : decode cL_law 1471 = .ok (.aload_n 1, 1) := by decide +kernel
theorem dL_law_1472 : decode cL_law 1472 = .ok (.aload_n 0, 1) := by decide +kernel
theorem dL_law_1473 : decode cL_law 1473 = .ok (.iload_n 3, 1) := by decide +kernel
theorem dL_law_1474 : decode cL_law 1474 = .ok (.iconst 1, 1) := by decide +kernel
theorem dL_law_1475 : decode cL_law 1475 = .ok (.iadd, 1) := by decide +kernel
theorem dL_law_1476 : decode cL_law 1476 = .ok (.iaload, 1) := by decide +kernel
theorem dL_law_1477 : decode cL_law 1477 = .ok (.aload_n 0, 1) := by decide +kernel
theorem dL_law_1478 : decode cL_law 1478 = .ok (.iload_n 3, 1) := by decide +kernel
theorem dL_law_1479 : decode cL_law 1479 = .ok (.iconst 2, 1) := by decide +kernel
theorem dL_law_1480 : decode cL_law 1480 = .ok (.iadd, 1) := by decide +kernel
theorem dL_law_1481 : decode cL_law 1481 = .ok (.iaload, 1) := by decide +kernel
theorem dL_law_1482 : decode cL_law 1482 = .ok (.aload_n 0, 1) := by decide +kernel
theorem dL_law_1483 : decode cL_law 1483 = .ok (.iload_n 3, 1) := by decide +kernel
theorem dL_law_1484 : decode cL_law 1484 = .ok (.iconst 3, 1) := by decide +kernel
theorem dL_law_1485 : decode cL_law 1485 = .ok (.iadd, 1) := by decide +kernel
theorem dL_law_1486 : decode cL_law 1486 = .ok (.iaload, 1) := by decide +kernel
theorem dL_law_1487 : decode cL_law 1487 = .ok (.invokevirtual 138, 3) := by decide +kernel
theorem dL_law_1490 : decode cL_law 1490 = .ok (.aload_n 2, 1) := by decide +kernel
theorem dL_law_1491 : decode cL_law 1491 = .ok (.aload_n 0, 1) := by decide +kernel
theorem dL_law_1492 : decode cL_law 1492 = .ok (.iload_n 3, 1) := by decide +kernel
theorem dL_law_1493 : decode cL_law 1493 = .ok (.iconst 1, 1) := by decide +kernel
theorem dL_law_1494 : decode cL_law 1494 = .ok (.iadd, 1) := by decide +kernel
theorem dL_law_1495 : decode cL_law 1495 = .ok (.iaload, 1) := by decide +kernel
theorem dL_law_1496 : decode cL_law 1496 = .ok (.aload_n 0, 1) := by decide +kernel
theorem dL_law_1497 : decode cL_law 1497 = .ok (.iload_n 3, 1) := by decide +kernel
theorem dL_law_1498 : decode cL_law 1498 = .ok (.iconst 2, 1) := by decide +kernel
theorem dL_law_1499 : decode cL_law 1499 = .ok (.iadd, 1) := by decide +kernel
theorem dL_law_1500 : decode cL_law 1500 = .ok (.iaload, 1) := by decide +kernel
theorem dL_law_1501 : decode cL_law 1501 = .ok (.aload_n 0, 1) := by decide +kernel
theorem dL_law_1502 : decode cL_law 1502 = .ok (.iload_n 3, 1) := by decide +kernel
theorem dL_law_1503 : decode cL_law 1503 = .ok (.iconst 3, 1) := by decide +kernel
theorem dL_law_1504 : decode cL_law 1504 = .ok (.iadd, 1) := by decide +kernel
theorem dL_law_1505 : decode cL_law 1505 = .ok (.iaload, 1) := by decide +kernel
theorem dL_law_1506 : decode cL_law 1506 = .ok (.invokevirtual 141, 3) := by decide +kernel
theorem dL_law_1509 : decode cL_law 1509 = .ok (.if_icmp .eq 154, 3) := by decide +kernel
theorem dL_law_1512 : decode cL_law 1512 = .ok (.iconst 0, 1) := by decide +kernel
theorem dL_law_1513 : decode cL_law 1513 = .ok (.ireturn, 1) := by decide +kernel
theorem dL_law_1514 : decode cL_law 1514 = .ok (.aload_n 1, 1) := by decide +kernel
theorem dL_law_1515 : decode cL_law 1515 = .ok (.aload_n 0, 1) := by decide +kernel
theorem dL_law_1516 : decode cL_law 1516 = .ok (.iload_n 3, 1) := by decide +kernel
theorem dL_law_1517 : decode cL_law 1517 = .ok (.iconst 1, 1) := by decide +kernel
theorem dL_law_1518 : decode cL_law 1518 = .ok (.iadd, 1) := by decide +kernel
theorem dL_law_1519 : decode cL_law 1519 = .ok (.iaload, 1) := by decide +kernel
theorem dL_law_1520 : decode cL_law 1520 = .ok (.aload_n 0, 1) := by decide +kernel
theorem dL_law_1521 : decode cL_law 1521 = .ok (.iload_n 3, 1) := by decide +kernel
theorem dL_law_1522 : decode cL_law 1522 = .ok (.iconst 2, 1) := by decide +kernel
theorem dL_law_1523 : decode cL_law 1523 = .ok (.iadd, 1) := by decide +kernel
theorem dL_law_1524 : decode cL_law 1524 = .ok (.iaload, 1) := by decide +kernel
theorem dL_law_1525 : decode cL_law 1525 = .ok (.aload_n 0, 1) := by decide +kernel
theorem dL_law_1526 : decode cL_law 1526 = .ok (.iload_n 3, 1) := by decide +kernel
theorem dL_law_1527 : decode cL_law 1527 = .ok (.iconst 3, 1) := by decide +kernel
theorem dL_law_1528 : decode cL_law 1528 = .ok (.iadd, 1) := by decide +kernel
theorem dL_law_1529 : decode cL_law 1529 = .ok (.iaload, 1) := by decide +kernel
theorem dL_law_1530 : decode cL_law 1530 = .ok (.aload_n 0, 1) := by decide +kernel
theorem dL_law_1531 : decode cL_law 1531 = .ok (.iload_n 3, 1) := by decide +kernel
theorem dL_law_1532 : decode cL_law 1532 = .ok (.iconst 4, 1) := by decide +kernel
theorem dL_law_1533 : decode cL_law 1533 = .ok (.iadd, 1) := by decide +kernel
theorem dL_law_1534 : decode cL_law 1534 = .ok (.iaload, 1) := by decide +kernel
theorem dL_law_1535 : decode cL_law 1535 = .ok (.aload_n 0, 1) := by decide +kernel
theorem dL_law_1536 : decode cL_law 1536 = .ok (.iload_n 3, 1) := by decide +kernel
theorem dL_law_1537 : decode cL_law 1537 = .ok (.iconst 5, 1) := by decide +kernel
theorem dL_law_1538 : decode cL_law 1538 = .ok (.iadd, 1) := by decide +kernel
theorem dL_law_1539 : decode cL_law 1539 = .ok (.iaload, 1) := by decide +kernel
theorem dL_law_1540 : decode cL_law 1540 = .ok (.invokevirtual 142, 3) := by decide +kernel
theorem dL_law_1543 : decode cL_law 1543 = .ok (.aload_n 2, 1) := by decide +kernel
theorem dL_law_1544 : decode cL_law 1544 = .ok (.aload_n 0, 1) := by decide +kernel
theorem dL_law_1545 : decode cL_law 1545 = .ok (.iload_n 3, 1) := by decide +kernel
theorem dL_law_1546 : decode cL_law 1546 = .ok (.iconst 1, 1) := by decide +kernel
theorem dL_law_1547 : decode cL_law 1547 = .ok (.iadd, 1) := by decide +kernel
theorem dL_law_1548 : decode cL_law 1548 = .ok (.iaload, 1) := by decide +kernel
theorem dL_law_1549 : decode cL_law 1549 = .ok (.aload_n 0, 1) := by decide +kernel
theorem dL_law_1550 : decode cL_law 1550 = .ok (.iload_n 3, 1) := by decide +kernel
theorem dL_law_1551 : decode cL_law 1551 = .ok (.iconst 2, 1) := by decide +kernel
theorem dL_law_1552 : decode cL_law 1552 = .ok (.iadd, 1) := by decide +kernel
theorem dL_law_1553 : decode cL_law 1553 = .ok (.iaload, 1) := by decide +kernel
theorem dL_law_1554 : decode cL_law 1554 = .ok (.aload_n 0, 1) := by decide +kernel
theorem dL_law_1555 : decode cL_law 1555 = .ok (.iload_n 3, 1) := by decide +kernel
theorem dL_law_1556 : decode cL_law 1556 = .ok (.iconst 3, 1) := by decide +kernel
theorem dL_law_1557 : decode cL_law 1557 = .ok (.iadd, 1) := by decide +kernel
theorem dL_law_1558 : decode cL_law 1558 = .ok (.iaload, 1) := by decide +kernel
theorem dL_law_1559 : decode cL_law 1559 = .ok (.aload_n 0, 1) := by decide +kernel
theorem dL_law_1560 : decode cL_law 1560 = .ok (.iload_n 3, 1) := by decide +kernel
theorem dL_law_1561 : decode cL_law 1561 = .ok (.iconst 4, 1) := by decide +kernel
theorem dL_law_1562 : decode cL_law 1562 = .ok (.iadd, 1) := by decide +kernel
theorem dL_law_1563 : decode cL_law 1563 = .ok (.iaload, 1) := by decide +kernel
theorem dL_law_1564 : decode cL_law 1564 = .ok (.aload_n 0, 1) := by decide +kernel
theorem dL_law_1565 : decode cL_law 1565 = .ok (.iload_n 3, 1) := by decide +kernel
theorem dL_law_1566 : decode cL_law 1566 = .ok (.iconst 5, 1) := by decide +kernel
theorem dL_law_1567 : decode cL_law 1567 = .ok (.iadd, 1) := by decide +kernel
theorem dL_law_1568 : decode cL_law 1568 = .ok (.iaload, 1) := by decide +kernel
theorem dL_law_1569 : decode cL_law 1569 = .ok (.invokevirtual 145, 3) := by decide +kernel
theorem dL_law_1572 : decode cL_law 1572 = .ok (.if_icmp .eq 91, 3) := by decide +kernel
theorem dL_law_1575 : decode cL_law 1575 = .ok (.iconst 0, 1) := by decide +kernel
theorem dL_law_1576 : decode cL_law 1576 = .ok (.ireturn, 1) := by decide +kernel
theorem dL_law_1577 : decode cL_law 1577 = .ok (.aload_n 1, 1) := by decide +kernel
theorem dL_law_1578 : decode cL_law 1578 = .ok (.aload_n 0, 1) := by decide +kernel
theorem dL_law_1579 : decode cL_law 1579 = .ok (.iload_n 3, 1) := by decide +kernel
theorem dL_law_1580 : decode cL_law 1580 = .ok (.iconst 1, 1) := by decide +kernel
theorem dL_law_1581 : decode cL_law 1581 = .ok (.iadd, 1) := by decide +kernel
theorem dL_law_1582 : decode cL_law 1582 = .ok (.iaload, 1) := by decide +kernel
theorem dL_law_1583 : decode cL_law 1583 = .ok (.aload_n 0, 1) := by decide +kernel
theorem dL_law_1584 : decode cL_law 1584 = .ok (.iload_n 3, 1) := by decide +kernel
theorem dL_law_1585 : decode cL_law 1585 = .ok (.iconst 2, 1) := by decide +kernel
theorem dL_law_1586 : decode cL_law 1586 = .ok (.iadd, 1) := by decide +kernel
theorem dL_law_1587 : decode cL_law 1587 = .ok (.iaload, 1) := by decide +kernel
theorem dL_law_1588 : decode cL_law 1588 = .ok (.aload_n 0, 1) := by decide +kernel
theorem dL_law_1589 : decode cL_law 1589 = .ok (.iload_n 3, 1) := by decide +kernel
theorem dL_law_1590 : decode cL_law 1590 = .ok (.iconst 3, 1) := by decide +kernel
theorem dL_law_1591 : decode cL_law 1591 = .ok (.iadd, 1) := by decide +kernel
theorem dL_law_1592 : decode cL_law 1592 = .ok (.iaload, 1) := by decide +kernel
theorem dL_law_1593 : decode cL_law 1593 = .ok (.aload_n 0, 1) := by decide +kernel
theorem dL_law_1594 : decode cL_law 1594 = .ok (.iload_n 3, 1) := by decide +kernel
theorem dL_law_1595 : decode cL_law 1595 = .ok (.iconst 4, 1) := by decide +kernel
theorem dL_law_1596 : decode cL_law 1596 = .ok (.iadd, 1) := by decide +kernel
theorem dL_law_1597 : decode cL_law 1597 = .ok (.iaload, 1) := by decide +kernel
theorem dL_law_1598 : decode cL_law 1598 = .ok (.invokevirtual 146, 3) := by decide +kernel
theorem dL_law_1601 : decode cL_law 1601 = .ok (.aload_n 2, 1) := by decide +kernel
theorem dL_law_1602 : decode cL_law 1602 = .ok (.aload_n 0, 1) := by decide +kernel
theorem dL_law_1603 : decode cL_law 1603 = .ok (.iload_n 3, 1) := by decide +kernel
theorem dL_law_1604 : decode cL_law 1604 = .ok (.iconst 1, 1) := by decide +kernel
theorem dL_law_1605 : decode cL_law 1605 = .ok (.iadd, 1) := by decide +kernel
theorem dL_law_1606 : decode cL_law 1606 = .ok (.iaload, 1) := by decide +kernel
theorem dL_law_1607 : decode cL_law 1607 = .ok (.aload_n 0, 1) := by decide +kernel
theorem dL_law_1608 : decode cL_law 1608 = .ok (.iload_n 3, 1) := by decide +kernel
theorem dL_law_1609 : decode cL_law 1609 = .ok (.iconst 2, 1) := by decide +kernel
theorem dL_law_1610 : decode cL_law 1610 = .ok (.iadd, 1) := by decide +kernel
theorem dL_law_1611 : decode cL_law 1611 = .ok (.iaload, 1) := by decide +kernel
theorem dL_law_1612 : decode cL_law 1612 = .ok (.aload_n 0, 1) := by decide +kernel
theorem dL_law_1613 : decode cL_law 1613 = .ok (.iload_n 3, 1) := by decide +kernel
theorem dL_law_1614 : decode cL_law 1614 = .ok (.iconst 3, 1) := by decide +kernel
theorem dL_law_1615 : decode cL_law 1615 = .ok (.iadd, 1) := by decide +kernel
theorem dL_law_1616 : decode cL_law 1616 = .ok (.iaload, 1) := by decide +kernel
theorem dL_law_1617 : decode cL_law 1617 = .ok (.aload_n 0, 1) := by decide +kernel
theorem dL_law_1618 : decode cL_law 1618 = .ok (.iload_n 3, 1) := by decide +kernel
theorem dL_law_1619 : decode cL_law 1619 = .ok (.iconst 4, 1) := by decide +kernel
theorem dL_law_1620 : decode cL_law 1620 = .ok (.iadd, 1) := by decide +kernel
theorem dL_law_1621 : decode cL_law 1621 = .ok (.iaload, 1) := by decide +kernel
theorem dL_law_1622 : decode cL_law 1622 = .ok (.invokevirtual 149, 3) := by decide +kernel
theorem dL_law_1625 : decode cL_law 1625 = .ok (.if_icmp .eq 38, 3) := by decide +kernel
theorem dL_law_1628 : decode cL_law 1628 = .ok (.iconst 0, 1) := by decide +kernel
theorem dL_law_1629 : decode cL_law 1629 = .ok (.ireturn, 1) := by decide +kernel
theorem dL_law_1630 : decode cL_law 1630 = .ok (.aload_n 1, 1) := by decide +kernel
theorem dL_law_1631 : decode cL_law 1631 = .ok (.aload_n 0, 1) := by decide +kernel
theorem dL_law_1632 : decode cL_law 1632 = .ok (.iload_n 3, 1) := by decide +kernel
theorem dL_law_1633 : decode cL_law 1633 = .ok (.iconst 1, 1) := by decide +kernel
theorem dL_law_1634 : decode cL_law 1634 = .ok (.iadd, 1) := by decide +kernel
theorem dL_law_1635 : decode cL_law 1635 = .ok (.iaload, 1) := by decide +kernel
theorem dL_law_1636 : decode cL_law 1636 = .ok (.aload_n 0, 1) := by decide +kernel
theorem dL_law_1637 : decode cL_law 1637 = .ok (.iload_n 3, 1) := by decide +kernel
theorem dL_law_1638 : decode cL_law 1638 = .ok (.iconst 2, 1) := by decide +kernel
theorem dL_law_1639 : decode cL_law 1639 = .ok (.iadd, 1) := by decide +kernel
theorem dL_law_1640 : decode cL_law 1640 = .ok (.iaload, 1) := by decide +kernel
theorem dL_law_1641 : decode cL_law 1641 = .ok (.invokevirtual 150, 3) := by decide +kernel
theorem dL_law_1644 : decode cL_law 1644 = .ok (.aload_n 2, 1) := by decide +kernel
theorem dL_law_1645 : decode cL_law 1645 = .ok (.aload_n 0, 1) := by decide +kernel
theorem dL_law_1646 : decode cL_law 1646 = .ok (.iload_n 3, 1) := by decide +kernel
theorem dL_law_1647 : decode cL_law 1647 = .ok (.iconst 1, 1) := by decide +kernel
theorem dL_law_1648 : decode cL_law 1648 = .ok (.iadd, 1) := by decide +kernel
theorem dL_law_1649 : decode cL_law 1649 = .ok (.iaload, 1) := by decide +kernel
theorem dL_law_1650 : decode cL_law 1650 = .ok (.aload_n 0, 1) := by decide +kernel
theorem dL_law_1651 : decode cL_law 1651 = .ok (.iload_n 3, 1) := by decide +kernel
theorem dL_law_1652 : decode cL_law 1652 = .ok (.iconst 2, 1) := by decide +kernel
theorem dL_law_1653 : decode cL_law 1653 = .ok (.iadd, 1) := by decide +kernel
theorem dL_law_1654 : decode cL_law 1654 = .ok (.iaload, 1) := by decide +kernel
theorem dL_law_1655 : decode cL_law 1655 = .ok (.invokevirtual 153, 3) := by decide +kernel
theorem dL_law_1658 : decode cL_law 1658 = .ok (.if_icmp .eq 5, 3) := by decide +kernel
theorem dL_law_1661 : decode cL_law 1661 = .ok (.iconst 0, 1) := by decide +kernel
theorem dL_law_1662 : decode cL_law 1662 = .ok (.ireturn, 1) := by decide +kernel
theorem dL_law_1663 : decode cL_law 1663 = .ok (.iinc 3 7, 3) := by decide +kernel
theorem dL_law_1666 : decode cL_law 1666 = .ok (.goto (-1648), 3) := by decide +kernel
theorem dL_law_1669 : decode cL_law 1669 = .ok (.iconst 1, 1) := by decide +kernel
theorem dL_law_1670 : decode cL_law 1670 = .ok (.ireturn, 1) := by decide +kernel
