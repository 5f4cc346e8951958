theorem dJ0_length_8abf5_0 : decode cJ0_length_8abf5 0 = .ok (.aload_n 0, 1) := by decide +kernel
theorem dJ0_length_8abf5_1 : decode cJ0_length_8abf5 1 = .ok (.getfield 9, 3) := by decide +kernel
theorem dJ0_length_8abf5_4 : decode cJ0_length_8abf5 4 = .ok (.arraylength, 1) := by decide +kernel
theorem dJ0_length_8abf5_5 : decode cJ0_length_8abf5 5 = .ok (.aload_n 0, 1) := by decide +kernel
theorem dJ0_length_8abf5_6 : decode cJ0_length_8abf5 6 = .ok (.invokevirtual 335, 3) := by decide +kernel
theorem dJ0_length_8abf5_9 : decode cJ0_length_8abf5 9 = .ok (.ishr, 1) := by decide +kernel
theorem dJ0_length_8abf5_10 : decode cJ0_length_8abf5 10 = .ok (.ireturn, 1) := by decide +kernel
theorem dJ0_charAt_5068e_0 : decode cJ0_charAt_5068e 0 = .ok (.aload_n 0, 1) := by decide +kernel
theorem dJ0_charAt_5068e_1 : decode cJ0_charAt_5068e 1 = .ok (.invokevirtual 492, 3) := by decide +kernel
theorem dJ0_charAt_5068e_4 : decode cJ0_charAt_5068e 4 = .ok (.ifCond .eq 12, 3) := by decide +kernel
theorem dJ0_charAt_5068e_7 : decode cJ0_charAt_5068e 7 = .ok (.aload_n 0, 1) := by decide +kernel
theorem dJ0_charAt_5068e_8 : decode cJ0_charAt_5068e 8 = .ok (.getfield 9, 3) := by decide +kernel
theorem dJ0_charAt_5068e_11 : decode cJ0_charAt_5068e 11 = .ok (.iload_n 1, 1) := by decide +kernel
theorem dJ0_charAt_5068e_12 : decode cJ0_charAt_5068e 12 = .ok (.invokestatic 495, 3) := by decide +kernel
theorem dJ0_charAt_5068e_15 : decode cJ0_charAt_5068e 15 = .ok (.ireturn, 1) := by decide +kernel
theorem dJ0_charAt_5068e_16 : decode cJ0_charAt_5068e 16 = .ok (.aload_n 0, 1) := by decide +kernel
theorem dJ0_charAt_5068e_17 : decode cJ0_charAt_5068e 17 = .ok (.getfield 9, 3) := by decide +kernel
theorem dJ0_charAt_5068e_20 : decode cJ0_charAt_5068e 20 = .ok (.iload_n 1, 1) := by decide +kernel
theorem dJ0_charAt_5068e_21 : decode cJ0_charAt_5068e 21 = .ok (.invokestatic 498, 3) := by decide +kernel
theorem dJ0_charAt_5068e_24 : decode cJ0_charAt_5068e 24 = .ok (.ireturn, 1) := by decide +kernel
theorem dJ0_indexOf_0f7a4_0 : decode cJ0_indexOf_0f7a4 0 = .ok (.aload_n 0, 1) := by decide +kernel
theorem dJ0_indexOf_0f7a4_1 : decode cJ0_indexOf_0f7a4 1 = .ok (.iload_n 1, 1) := by decide +kernel
theorem dJ0_indexOf_0f7a4_2 : decode cJ0_indexOf_0f7a4 2 = .ok (.iconst 0, 1) := by decide +kernel
theorem dJ0_indexOf_0f7a4_3 : decode cJ0_indexOf_0f7a4 3 = .ok (.invokevirtual 633, 3) := by decide +kernel
theorem dJ0_indexOf_0f7a4_6 : decode cJ0_indexOf_0f7a4 6 = .ok (.ireturn, 1) := by decide +kernel
theorem dJ0_indexOf_7cf53_0 : decode cJ0_indexOf_7cf53 0 = .ok (.aload_n 0, 1) := by decide +kernel
theorem dJ0_indexOf_7cf53_1 : decode cJ0_indexOf_7cf53 1 = .ok (.invokevirtual 492, 3) := by decide +kernel
theorem dJ0_indexOf_7cf53_4 : decode cJ0_indexOf_7cf53 4 = .ok (.ifCond .eq 19, 3) := by decide +kernel
theorem dJ0_indexOf_7cf53_7 : decode cJ0_indexOf_7cf53 7 = .ok (.aload_n 0, 1) := by decide +kernel
theorem dJ0_indexOf_7cf53_8 : decode cJ0_indexOf_7cf53 8 = .ok (.getfield 9, 3) := by decide +kernel
theorem dJ0_indexOf_7cf53_11 : decode cJ0_indexOf_7cf53 11 = .ok (.iload_n 1, 1) := by decide +kernel
theorem dJ0_indexOf_7cf53_12 : decode cJ0_indexOf_7cf53 12 = .ok (.iload_n 2, 1) := by decide +kernel
theorem dJ0_indexOf_7cf53_13 : decode cJ0_indexOf_7cf53 13 = .ok (.aload_n 0, 1) := by decide +kernel
theorem dJ0_indexOf_7cf53_14 : decode cJ0_indexOf_7cf53 14 = .ok (.invokevirtual 505, 3) := by decide +kernel
theorem dJ0_indexOf_7cf53_17 : decode cJ0_indexOf_7cf53 17 = .ok (.invokestatic 637, 3) := by decide +kernel
theorem dJ0_indexOf_7cf53_20 : decode cJ0_indexOf_7cf53 20 = .ok (.goto 16, 3) := by decide +kernel
theorem dJ0_indexOf_7cf53_23 : decode cJ0_indexOf_7cf53 23 = .ok (.aload_n 0, 1) := by decide +kernel
theorem dJ0_indexOf_7cf53_24 : decode cJ0_indexOf_7cf53 24 = .ok (.getfield 9, 3) := by decide +kernel
theorem dJ0_indexOf_7cf53_27 : decode cJ0_indexOf_7cf53 27 = .ok (.iload_n 1, 1) := by decide +kernel
theorem dJ0_indexOf_7cf53_28 : decode cJ0_indexOf_7cf53 28 = .ok (.iload_n 2, 1) := by decide +kernel
theorem dJ0_indexOf_7cf53_29 : decode cJ0_indexOf_7cf53 29 = .ok (.aload_n 0, 1) := by decide +kernel
theorem dJ0_indexOf_7cf53_30 : decode cJ0_indexOf_7cf53 30 = .ok (.invokevirtual 505, 3) := by decide +kernel
theorem dJ0_indexOf_7cf53_33 : decode cJ0_indexOf_7cf53 33 = .ok (.invokestatic 640, 3) := by decide +kernel
theorem dJ0_indexOf_7cf53_36 : decode cJ0_indexOf_7cf53 36 = .ok (.ireturn, 1) := by decide +kernel
theorem dJ0_coder_7d493_0 : decode cJ0_coder_7d493 0 = .ok (.getstatic 38, 3) := by decide +kernel
theorem dJ0_coder_7d493_3 : decode cJ0_coder_7d493 3 = .ok (.ifCond .eq 10, 3) := by decide +kernel
theorem dJ0_coder_7d493_6 : decode cJ0_coder_7d493 6 = .ok (.aload_n 0, 1) := by decide +kernel
theorem dJ0_coder_7d493_7 : decode cJ0_coder_7d493 7 = .ok (.getfield 15, 3) := by decide +kernel
theorem dJ0_coder_7d493_10 : decode cJ0_coder_7d493 10 = .ok (.goto 4, 3) := by decide +kernel
theorem dJ0_coder_7d493_13 : decode cJ0_coder_7d493 13 = .ok (.iconst 1, 1) := by decide +kernel
theorem dJ0_coder_7d493_14 : decode cJ0_coder_7d493 14 = .ok (.ireturn, 1) := by decide +kernel
theorem dJ0_isLatin1_aae02_0 : decode cJ0_isLatin1_aae02 0 = .ok (.getstatic 38, 3) := by decide +kernel
theorem dJ0_isLatin1_aae02_3 : decode cJ0_isLatin1_aae02 3 = .ok (.ifCond .eq 14, 3) := by decide +kernel
theorem dJ0_isLatin1_aae02_6 : decode cJ0_isLatin1_aae02 6 = .ok (.aload_n 0, 1) := by decide +kernel
theorem dJ0_isLatin1_aae02_7 : decode cJ0_isLatin1_aae02 7 = .ok (.getfield 15, 3) := by decide +kernel
theorem dJ0_isLatin1_aae02_10 : decode cJ0_isLatin1_aae02 10 = .ok (.ifCond .ne 7, 3) := by decide +kernel
theorem dJ0_isLatin1_aae02_13 : decode cJ0_isLatin1_aae02 13 = .ok (.iconst 1, 1) := by decide +kernel
theorem dJ0_isLatin1_aae02_14 : decode cJ0_isLatin1_aae02 14 = .ok (.goto 4, 3) := by decide +kernel
theorem dJ0_isLatin1_aae02_17 : decode cJ0_isLatin1_aae02 17 = .ok (.iconst 0, 1) := by decide +kernel
theorem dJ0_isLatin1_aae02_18 : decode cJ0_isLatin1_aae02 18 = .ok (.ireturn, 1) := by decide +kernel
theorem dJ0_checkIndex_df160_0 : decode cJ0_checkIndex_df160 0 = .ok (.iload_n 0, 1) := by decide +kernel
theorem dJ0_checkIndex_df160_1 : decode cJ0_checkIndex_df160 1 = .ok (.iload_n 1, 1) := by decide +kernel
theorem dJ0_checkIndex_df160_2 : decode cJ0_checkIndex_df160 2 = .ok (.getstatic 1053, 3) := by decide +kernel
theorem dJ0_checkIndex_df160_5 : decode cJ0_checkIndex_df160 5 = .ok (.invokestatic 1059, 3) := by decide +kernel
theorem dJ0_checkIndex_df160_8 : decode cJ0_checkIndex_df160 8 = .ok (.pop, 1) := by decide +kernel
theorem dJ0_checkIndex_df160_9 : decode cJ0_checkIndex_df160 9 = .ok (.return_, 1) := by decide +kernel
theorem dJ1_charAt_3b067_0 : decode cJ1_charAt_3b067 0 = .ok (.iload_n 1, 1) := by decide +kernel
theorem dJ1_charAt_3b067_1 : decode cJ1_charAt_3b067 1 = .ok (.aload_n 0, 1) := by decide +kernel
theorem dJ1_charAt_3b067_2 : decode cJ1_charAt_3b067 2 = .ok (.arraylength, 1) := by decide +kernel
theorem dJ1_charAt_3b067_3 : decode cJ1_charAt_3b067 3 = .ok (.invokestatic 9, 3) := by decide +kernel
theorem dJ1_charAt_3b067_6 : decode cJ1_charAt_3b067 6 = .ok (.aload_n 0, 1) := by decide +kernel
theorem dJ1_charAt_3b067_7 : decode cJ1_charAt_3b067 7 = .ok (.iload_n 1, 1) := by decide +kernel
theorem dJ1_charAt_3b067_8 : decode cJ1_charAt_3b067 8 = .ok (.baload, 1) := by decide +kernel
theorem dJ1_charAt_3b067_9 : decode cJ1_charAt_3b067 9 = .ok (.sipush 255, 3) := by decide +kernel
theorem dJ1_charAt_3b067_12 : decode cJ1_charAt_3b067 12 = .ok (.iand, 1) := by decide +kernel
theorem dJ1_charAt_3b067_13 : decode cJ1_charAt_3b067 13 = .ok (.i2c, 1) := by decide +kernel
theorem dJ1_charAt_3b067_14 : decode cJ1_charAt_3b067 14 = .ok (.ireturn, 1) := by decide +kernel
theorem dJ1_canEncode_9a6ad_0 : decode cJ1_canEncode_9a6ad 0 = .ok (.iload_n 0, 1) := by decide +kernel
theorem dJ1_canEncode_9a6ad_1 : decode cJ1_canEncode_9a6ad 1 = .ok (.ifCond .lt 14, 3) := by decide +kernel
theorem dJ1_canEncode_9a6ad_4 : decode cJ1_canEncode_9a6ad 4 = .ok (.iload_n 0, 1) := by decide +kernel
theorem dJ1_canEncode_9a6ad_5 : decode cJ1_canEncode_9a6ad 5 = .ok (.sipush 255, 3) := by decide +kernel
theorem dJ1_canEncode_9a6ad_8 : decode cJ1_canEncode_9a6ad 8 = .ok (.if_icmp .gt 7, 3) := by decide +kernel
theorem dJ1_canEncode_9a6ad_11 : decode cJ1_canEncode_9a6ad 11 = .ok (.iconst 1, 1) := by decide +kernel
theorem dJ1_canEncode_9a6ad_12 : decode cJ1_canEncode_9a6ad 12 = .ok (.goto 4, 3) := by decide +kernel
theorem dJ1_canEncode_9a6ad_15 : decode cJ1_canEncode_9a6ad 15 = .ok (.iconst 0, 1) := by decide +kernel
theorem dJ1_canEncode_9a6ad_16 : decode cJ1_canEncode_9a6ad 16 = .ok (.ireturn, 1) := by decide +kernel
theorem dJ1_indexOf_4cfef_0 : decode cJ1_indexOf_4cfef 0 = .ok (.iload_n 1, 1) := by decide +kernel
theorem dJ1_indexOf_4cfef_1 : decode cJ1_indexOf_4cfef 1 = .ok (.invokestatic 88, 3) := by decide +kernel
theorem dJ1_indexOf_4cfef_4 : decode cJ1_indexOf_4cfef 4 = .ok (.ifCond .ne 5, 3) := by decide +kernel
theorem dJ1_indexOf_4cfef_7 : decode cJ1_indexOf_4cfef 7 = .ok (.iconst (-1), 1) := by decide +kernel
theorem dJ1_indexOf_4cfef_8 : decode cJ1_indexOf_4cfef 8 = .ok (.ireturn, 1) := by decide +kernel
theorem dJ1_indexOf_4cfef_9 : decode cJ1_indexOf_4cfef 9 = .ok (.iload_n 2, 1) := by decide +kernel
theorem dJ1_indexOf_4cfef_10 : decode cJ1_indexOf_4cfef 10 = .ok (.iconst 0, 1) := by decide +kernel
theorem dJ1_indexOf_4cfef_11 : decode cJ1_indexOf_4cfef 11 = .ok (.invokestatic 92, 3) := by decide +kernel
theorem dJ1_indexOf_4cfef_14 : decode cJ1_indexOf_4cfef 14 = .ok (.istore_n 2, 1) := by decide +kernel
theorem dJ1_indexOf_4cfef_15 : decode cJ1_indexOf_4cfef 15 = .ok (.iload_n 3, 1) := by decide +kernel
theorem dJ1_indexOf_4cfef_16 : decode cJ1_indexOf_4cfef 16 = .ok (.aload_n 0, 1) := by decide +kernel
theorem dJ1_indexOf_4cfef_17 : decode cJ1_indexOf_4cfef 17 = .ok (.arraylength, 1) := by decide +kernel
theorem dJ1_indexOf_4cfef_18 : decode cJ1_indexOf_4cfef 18 = .ok (.invokestatic 38, 3) := by decide +kernel
theorem dJ1_indexOf_4cfef_21 : decode cJ1_indexOf_4cfef 21 = .ok (.istore_n 3, 1) := by decide +kernel
theorem dJ1_indexOf_4cfef_22 : decode cJ1_indexOf_4cfef 22 = .ok (.iload_n 2, 1) := by decide +kernel
theorem dJ1_indexOf_4cfef_23 : decode cJ1_indexOf_4cfef 23 = .ok (.iload_n 3, 1) := by decide +kernel
theorem dJ1_indexOf_4cfef_24 : decode cJ1_indexOf_4cfef 24 = .ok (.if_icmp .lt 5, 3) := by decide +kernel
theorem dJ1_indexOf_4cfef_27 : decode cJ1_indexOf_4cfef 27 = .ok (.iconst (-1), 1) := by decide +kernel
theorem dJ1_indexOf_4cfef_28 : decode cJ1_indexOf_4cfef 28 = .ok (.ireturn, 1) := by decide +kernel
theorem dJ1_indexOf_4cfef_29 : decode cJ1_indexOf_4cfef 29 = .ok (.aload_n 0, 1) := by decide +kernel
theorem dJ1_indexOf_4cfef_30 : decode cJ1_indexOf_4cfef 30 = .ok (.iload_n 1, 1) := by decide +kernel
theorem dJ1_indexOf_4cfef_31 : decode cJ1_indexOf_4cfef 31 = .ok (.iload_n 2, 1) := by decide +kernel
theorem dJ1_indexOf_4cfef_32 : decode cJ1_indexOf_4cfef 32 = .ok (.iload_n 3, 1) := by decide +kernel
theorem dJ1_indexOf_4cfef_33 : decode cJ1_indexOf_4cfef 33 = .ok (.invokestatic 95, 3) := by decide +kernel
theorem dJ1_indexOf_4cfef_36 : decode cJ1_indexOf_4cfef 36 = .ok (.ireturn, 1) := by decide +kernel
theorem dJ1_indexOfChar_4cfef_0 : decode cJ1_indexOfChar_4cfef 0 = .ok (.iload_n 1, 1) := by decide +kernel
theorem dJ1_indexOfChar_4cfef_1 : decode cJ1_indexOfChar_4cfef 1 = .ok (.i2b, 1) := by decide +kernel
theorem dJ1_indexOfChar_4cfef_2 : decode cJ1_indexOfChar_4cfef 2 = .ok (.istore 4, 2) := by decide +kernel
theorem dJ1_indexOfChar_4cfef_4 : decode cJ1_indexOfChar_4cfef 4 = .ok (.iload_n 2, 1) := by decide +kernel
theorem dJ1_indexOfChar_4cfef_5 : decode cJ1_indexOfChar_4cfef 5 = .ok (.istore 5, 2) := by decide +kernel
theorem dJ1_indexOfChar_4cfef_7 : decode cJ1_indexOfChar_4cfef 7 = .ok (.iload 5, 2) := by decide +kernel
theorem dJ1_indexOfChar_4cfef_9 : decode cJ1_indexOfChar_4cfef 9 = .ok (.iload_n 3, 1) := by decide +kernel
theorem dJ1_indexOfChar_4cfef_10 : decode cJ1_indexOfChar_4cfef 10 = .ok (.if_icmp .ge 21, 3) := by decide +kernel
theorem dJ1_indexOfChar_4cfef_13 : decode cJ1_indexOfChar_4cfef 13 = .ok (.aload_n 0, 1) := by decide +kernel
theorem dJ1_indexOfChar_4cfef_14 : decode cJ1_indexOfChar_4cfef 14 = .ok (.iload 5, 2) := by decide +kernel
theorem dJ1_indexOfChar_4cfef_16 : decode cJ1_indexOfChar_4cfef 16 = .ok (.baload, 1) := by decide +kernel
theorem dJ1_indexOfChar_4cfef_17 : decode cJ1_indexOfChar_4cfef 17 = .ok (.iload 4, 2) := by decide +kernel
theorem dJ1_indexOfChar_4cfef_19 : decode cJ1_indexOfChar_4cfef 19 = .ok (.if_icmp .ne 6, 3) := by decide +kernel
theorem dJ1_indexOfChar_4cfef_22 : decode cJ1_indexOfChar_4cfef 22 = .ok (.iload 5, 2) := by decide +kernel
theorem dJ1_indexOfChar_4cfef_24 : decode cJ1_indexOfChar_4cfef 24 = .ok (.ireturn, 1) := by decide +kernel
theorem dJ1_indexOfChar_4cfef_25 : decode cJ1_indexOfChar_4cfef 25 = .ok (.iinc 5 1, 3) := by decide +kernel
theorem dJ1_indexOfChar_4cfef_28 : decode cJ1_indexOfChar_4cfef 28 = .ok (.goto (-21), 3) := by decide +kernel
theorem dJ1_indexOfChar_4cfef_31 : decode cJ1_indexOfChar_4cfef 31 = .ok (.iconst (-1), 1) := by decide +kernel
theorem dJ1_indexOfChar_4cfef_32 : decode cJ1_indexOfChar_4cfef 32 = .ok (.ireturn, 1) := by decide +kernel
theorem dJ3_checkIndex_8e157_0 : decode cJ3_checkIndex_8e157 0 = .ok (.iload_n 0, 1) := by decide +kernel
theorem dJ3_checkIndex_8e157_1 : decode cJ3_checkIndex_8e157 1 = .ok (.ifCond .lt 8, 3) := by decide +kernel
theorem dJ3_checkIndex_8e157_4 : decode cJ3_checkIndex_8e157 4 = .ok (.iload_n 0, 1) := by decide +kernel
theorem dJ3_checkIndex_8e157_5 : decode cJ3_checkIndex_8e157 5 = .ok (.iload_n 1, 1) := by decide +kernel
theorem dJ3_checkIndex_8e157_6 : decode cJ3_checkIndex_8e157 6 = .ok (.if_icmp .lt 10, 3) := by decide +kernel
theorem dJ3_checkIndex_8e157_9 : decode cJ3_checkIndex_8e157 9 = .ok (.aload_n 2, 1) := by decide +kernel
theorem dJ3_checkIndex_8e157_10 : decode cJ3_checkIndex_8e157 10 = .ok (.iload_n 0, 1) := by decide +kernel
theorem dJ3_checkIndex_8e157_11 : decode cJ3_checkIndex_8e157 11 = .ok (.iload_n 1, 1) := by decide +kernel
theorem dJ3_checkIndex_8e157_12 : decode cJ3_checkIndex_8e157 12 = .ok (.invokestatic 95, 3) := by decide +kernel
theorem dJ3_checkIndex_8e157_15 : decode cJ3_checkIndex_8e157 15 = .ok (.athrow, 1) := by decide +kernel
theorem dJ3_checkIndex_8e157_16 : decode cJ3_checkIndex_8e157 16 = .ok (.iload_n 0, 1) := by decide +kernel
theorem dJ3_checkIndex_8e157_17 : decode cJ3_checkIndex_8e157 17 = .ok (.ireturn, 1) := by decide +kernel
theorem j1_231 : (Cond.methodLink "java/lang/String" 335 yJ0_coder_7d493 : Cond) ∈ gtbl := mem_g (mem_t1 (List.mem_of_getElem? (i := 231) (by decide +kernel))) rfl
theorem j1_235 : (Cond.fieldLink "java/lang/String" 38 "java/lang/String" "COMPACT_STRINGS" "Z" : Cond) ∈ gtbl := mem_g (mem_t1 (List.mem_of_getElem? (i := 235) (by decide +kernel))) rfl
theorem j2_1 : (Cond.methodLink "java/lang/String" 492 yJ0_isLatin1_aae02 : Cond) ∈ gtbl := mem_g (mem_t2 (List.mem_of_getElem? (i := 1) (by decide +kernel))) rfl
theorem j2_5 : (Cond.methodLink "java/lang/String" 495 yJ1_charAt_3b067 : Cond) ∈ gtbl := mem_g (mem_t2 (List.mem_of_getElem? (i := 5) (by decide +kernel))) rfl
theorem j2_8 : (Cond.methodLink "java/lang/StringLatin1" 9 yJ0_checkIndex_df160 : Cond) ∈ gtbl := mem_g (mem_t2 (List.mem_of_getElem? (i := 8) (by decide +kernel))) rfl
theorem j2_11 : (Cond.fieldLink "java/lang/String" 1053 "jdk/internal/util/Preconditions" "SIOOBE_FORMATTER" "Ljava/util/function/BiFunction;" : Cond) ∈ gtbl := mem_g (mem_t2 (List.mem_of_getElem? (i := 11) (by decide +kernel))) rfl
theorem j2_13 : (Cond.methodLink "java/lang/String" 1059 yJ3_checkIndex_8e157 : Cond) ∈ gtbl := mem_g (mem_t2 (List.mem_of_getElem? (i := 13) (by decide +kernel))) rfl
theorem j2_16 : (Cond.methodLink "java/lang/String" 498 yJ2_charAt_3b067 : Cond) ∈ gtbl := mem_g (mem_t2 (List.mem_of_getElem? (i := 16) (by decide +kernel))) rfl
theorem j2_76 : (Cond.methodLink "java/lang/String" 633 yJ0_indexOf_7cf53 : Cond) ∈ gtbl := mem_g (mem_t2 (List.mem_of_getElem? (i := 76) (by decide +kernel))) rfl
theorem j2_80 : (Cond.methodLink "java/lang/String" 505 yJ0_length_8abf5 : Cond) ∈ gtbl := mem_g (mem_t2 (List.mem_of_getElem? (i := 80) (by decide +kernel))) rfl
theorem j2_81 : (Cond.methodLink "java/lang/String" 637 yJ1_indexOf_4cfef : Cond) ∈ gtbl := mem_g (mem_t2 (List.mem_of_getElem? (i := 81) (by decide +kernel))) rfl
theorem j2_84 : (Cond.methodLink "java/lang/StringLatin1" 88 yJ1_canEncode_9a6ad : Cond) ∈ gtbl := mem_g (mem_t2 (List.mem_of_getElem? (i := 84) (by decide +kernel))) rfl
theorem j2_87 : (Cond.methodLink "java/lang/StringLatin1" 92 yJ9_max_7cf53 : Cond) ∈ gtbl := mem_g (mem_t2 (List.mem_of_getElem? (i := 87) (by decide +kernel))) rfl
theorem j2_90 : (Cond.methodLink "java/lang/StringLatin1" 38 yJ9_min_7cf53 : Cond) ∈ gtbl := mem_g (mem_t2 (List.mem_of_getElem? (i := 90) (by decide +kernel))) rfl
theorem j2_93 : (Cond.methodLink "java/lang/StringLatin1" 95 yJ1_indexOfChar_4cfef : Cond) ∈ gtbl := mem_g (mem_t2 (List.mem_of_getElem? (i := 93) (by decide +kernel))) rfl
theorem j2_96 : (Cond.methodLink "java/lang/String" 640 yJ2_indexOf_4cfef : Cond) ∈ gtbl := mem_g (mem_t2 (List.mem_of_getElem? (i := 96) (by decide +kernel))) rfl
theorem j2_111 : (Cond.methodLink "java/lang/String" 1062 yJ3_checkFromToIndex_8c36e : Cond) ∈ gtbl := mem_g (mem_t2 (List.mem_of_getElem? (i := 111) (by decide +kernel))) rfl
theorem j4_118 : (Cond.native ⟨"java/lang/System", "arraycopy", "(Ljava/lang/Object;ILjava/lang/Object;II)V"⟩ : Cond) ∈ gtbl := mem_g (mem_t4 (List.mem_of_getElem? (i := 118) (by decide +kernel))) rfl
theorem j6_65 : (Cond.fieldLink "java/lang/String" 9 "java/lang/String" "value" "[B" : Cond) ∈ gtbl := mem_g (mem_t6 (List.mem_of_getElem? (i := 65) (by decide +kernel))) rfl
theorem j6_66 : (Cond.fieldLink "java/lang/String" 15 "java/lang/String" "coder" "B" : Cond) ∈ gtbl := mem_g (mem_t6 (List.mem_of_getElem? (i := 66) (by decide +kernel))) rfl
/-! Arrays.fill -/
def rowTo (σ : St) (o c : Nat) (v : Int32) : St := sRow σ o (fun k => if k < c then v else σ.1 o k)
def fillS (σ : St) (o len : Nat) (v : Int32) : St := rowTo σ o len v
def copyS (σ : St) (o : Nat) (sp : Int32) (d : Nat) (dp n : Int32) : St := sRow σ d (va_cpy (σ.1 o) (σ.1 d) sp.toNatClampNeg dp.toNatClampNeg n.toNatClampNeg)
theorem rowTo_0 (σ : St) (o : Nat) (v : Int32) : rowTo σ o 0 v = σ := by
  refine Prod.ext (funext fun a => funext fun b => ?_) rfl
  by_cases h : a = o
  · subst h; simp [rowTo, sRow]
  · simp [rowTo, sRow, h]
theorem rowTo_s (σ : St) (o c : Nat) (v : Int32) : sI (rowTo σ o c v) o c v = rowTo σ o (c + 1) v := by
  refine Prod.ext (funext fun a => funext fun b => ?_) rfl
  by_cases h : a = o
  · subst h
    by_cases h2 : b = c
    · subst h2; simp [rowTo, sRow, sI]
    · have : b < c + 1 ↔ b < c := by omega
      simp [rowTo, sRow, sI, h2, this]
  · simp [rowTo, sRow, sI, h]
abbrev mFill : MI := (cJ7_fill_53178, "java/util/Arrays", 4, none, 1)
set_option maxHeartbeats 4000000 in
theorem v_fill_loop {g : GT} {X : XT} {n len o : Nat} {v : Int32} {σ : St} (hX : OkX g X mFill) (ho : Ar n len o) (hn : n ≤ g.N) (hlen : len < 2 ^ 31) (hQ : X.Q = QV g X (fillS σ o len v) ∧ X.cells = 0 ∧ X.slots = 0) :
    ∀ (d c : Nat), c + d = len → V g X mFill 5 [(2, .int (nI c)), (3, .int (nI len)), (0, .ref (g.ad o)), (1, .int v)] [] (rowTo σ o c v) := by
  intro d
  induction d with
  | zero =>
    intro c hc
    have hc : c = len := hc
    refine V_iload_n (q := 6) hX dJ7_fill_53178_5 0 rfl rfl ?_
    refine V_iload_n (q := 7) hX dJ7_fill_53178_6 1 rfl rfl ?_
    refine V_icmp_ge (q := 10) (t := 20) hX dJ7_fill_53178_7 (by decide) rfl (fun z => ?_) (fun z => ?_)
    · subst hc
      exact V_vret hX hQ rfl dJ7_fill_53178_20
    · exact absurd (nI_le (by omega) (by omega)) z
  | succ d ih =>
    intro c hc
    refine V_iload_n (q := 6) hX dJ7_fill_53178_5 0 rfl rfl ?_
    refine V_iload_n (q := 7) hX dJ7_fill_53178_6 1 rfl rfl ?_
    refine V_icmp_ge (q := 10) (t := 20) hX dJ7_fill_53178_7 (by decide) rfl (fun z => ?_) (fun z => ?_)
    · exact absurd z (nI_ge (by omega) (by omega))
    refine V_aload_n (q := 11) hX dJ7_fill_53178_10 2 rfl rfl ?_
    refine V_iload_n (q := 12) hX dJ7_fill_53178_11 0 rfl rfl ?_
    refine V_iload_n (q := 13) hX dJ7_fill_53178_12 3 rfl rfl ?_
    refine V_iast (n := n) (q := 14) hX ho hn (nI_in (by omega) (by omega)) dJ7_fill_53178_13 rfl ?_
    refine V_iinc (v := nI (c + 1)) (lv' := [(2, .int (nI (c + 1))), (3, .int (nI len)), (0, .ref (g.ad o)), (1, .int v)]) (q := 17) hX dJ7_fill_53178_14 0 rfl (by rw [nI_succ]; rfl) rfl rfl rfl ?_
    refine V_goto hX dJ7_fill_53178_17 (q := 5) (by decide) ?_
    rw [nI_clamp (by omega), rowTo_s]
    exact ih (c + 1) (by omega)
set_option maxHeartbeats 4000000 in
theorem c_fill {g : GT} {l : Launch} (hg : OkG g) {n len o : Nat} {v : Int32} {σ : St} (ho : Ar n len o) (hn : n ≤ g.N) (hlen : len < 2 ^ 31) : CtV g l mFill yJ7_fill_53178 [.ref (g.ad o), .int v] σ (fillS σ o len v) :=
  CtV.of hg (by decide) rfl rfl (fun X hX h2 hQ => by
    refine V_iconst (v := 0) (q := 1) hX dJ7_fill_53178_0 (by decide) rfl ?_
    refine V_istore_n (lv' := [(2, .int 0), (0, .ref (g.ad o)), (1, .int v)]) (q := 2) hX dJ7_fill_53178_1 rfl rfl rfl ?_
    refine V_aload_n (q := 3) hX dJ7_fill_53178_2 1 rfl rfl ?_
    refine V_alen (n := n) (v := nI len) (q := 4) hX ho hn rfl dJ7_fill_53178_3 rfl ?_
    refine V_istore_n (lv' := [(3, .int (nI len)), (2, .int 0), (0, .ref (g.ad o)), (1, .int v)]) (q := 5) hX dJ7_fill_53178_4 rfl rfl rfl ?_
    refine V.pick [1, 0, 2, 3] rfl ?_
    have h := v_fill_loop hX ho hn hlen hQ len 0 (by omega)
    rw [rowTo_0] at h
    exact h)
section SPEC
variable {g : GT} {X : XT} {i j : MI} {pc q idx : Nat} {lv lv' : List (Nat × Value)} {nA : Nat} {st st0 : List Value} {σ σ' : St} {y : MethodName} {As : List Value}
theorem V_cxV (hX : OkX g X i) (hM : CtV g X.l j y As σ σ') (hG : GoodIn gtbl (va_wsS i.own idx y (.code y j.cc j.nL j.ret :: gtbl)))
    (hd : y.cls ≠ "java/lang/invoke/MethodHandle" ∧ y.cls ≠ "java/lang/invoke/VarHandle" ∧ (parseMethodDescriptor y.desc).map (fun d => d.parameters.length) = some nA) (hA : As.length = nA) (hlv : decide (j.lv < i.lv) = true) (hml : decide (j.nL ≤ 21) = true)
    (hst : st0 = As.reverse ++ st) (hr : Nat.ble (st.map fun v => v.category).sum 8 = true)
    (hdg : decode i.cc pc = .ok (.invokestatic idx, 3)) (hq : pc + 3 = q) (kk : V g X i q lv st σ') : V g X i pc lv st0 σ := by
  subst hq; subst hst
  intro H locs ls hP hS hl
  refine va_callv (va_runS (n := nA) hX.1 hM (va_cwS nA hX.1.2.2.2.2 hG rfl rfl rfl hd (room_call hX hlv hml)) ⟨world_blind, fun U hU hW => ⟨rfl, world_at hX hP hS hU hW⟩⟩ rfl hA hl.1 rfl (lv_room (Nat.le_of_ble_eq_true hr)) hdg ⟨hX.2.2.2.1.2.2.1, hX.2.2.2.1.2.2.2⟩) hS (fun q _ h => h) (fun q h => h) (fun u t H1 locs1 ht hvm hw hB hz1 hk1 hS1 => ?_)
  subst hw
  have hP1 := hB.1
  rw [ht] at hP1
  exact kk H1 locs1 ls hP1 hS1 hl
theorem V_fill (hX : OkX g X i) {n len o : Nat} {v : Int32} (ho : Ar n len o) (hn : n ≤ g.N) (hlen : len < 2 ^ 31) (hlk : (Cond.methodLink i.own idx yJ7_fill_53178 : Cond) ∈ gtbl) (hlv : decide (1 < i.lv) = true) (hr : Nat.ble (st.map fun v => v.category).sum 8 = true)
    (hdg : decode i.cc pc = .ok (.invokestatic idx, 3)) (hq : pc + 3 = q) (kk : V g X i q lv st (fillS σ o len v)) : V g X i pc lv (.int v :: .ref (g.ad o) :: st) σ :=
  V_cxV (As := [.ref (g.ad o), .int v]) hX (c_fill hX.2.2.2.2.1 ho hn hlen) (goodSx_of hlk k3_99 k1_17 (cons_g k3_100)) (nA := 2) (by decide) rfl hlv rfl rfl hr hdg hq kk
theorem V_copy (hX : OkX g X i) {n len len' o d : Nat} {sp dp m : Int32} (ho : Ar n len o) (hd : Ar n len' d) (hn : n ≤ g.N) (hlk : (Cond.methodLink i.own idx arraycopyName : Cond) ∈ gtbl) (h1 : ¬ sp < 0) (h2 : ¬ dp < 0) (h3 : ¬ m < 0) (h4 : sp.toNatClampNeg + m.toNatClampNeg ≤ len) (h5 : dp.toNatClampNeg + m.toNatClampNeg ≤ len') (hr : Nat.ble (st.map fun v => v.category).sum 8 = true)
    (hdg : decode i.cc pc = .ok (.invokestatic idx, 3)) (hq : pc + 3 = q) (kk : V g X i q lv st (copyS σ o sp d dp m)) : V g X i pc lv (.int m :: .int dp :: .ref (g.ad d) :: .int sp :: .ref (g.ad o) :: st) σ := by
  subst hq
  intro H locs ls hP hS hl
  have hk : (nativeFrameWords "java/lang/System" "arraycopy" 5 + 11) ≤ 32 := by decide
  refine va_copyi hX.1.1 hX.1.2.1 (hX.1.2.2.1.trans hl.1.symm) hX.1.2.2.2.1 (hX.1.2.2.2.2 _ hlk) (hX.1.2.2.2.2 _ j4_118) (hX.1.2.2.2.2 _ k4_117) (hX.1.2.2.2.2 _ k1_18) hX.2.2.2.2.2.1 hP (wsM_D hX.2.2.2.2.1 σ) hS o d 0 0 (c0 := g.cA 10) (c1 := g.cA 10) (n0 := len) (n1 := len') (f := σ.1 o) (g := σ.1 d) (ty := .int) (by rw [wsM_get (Nat.lt_of_lt_of_le ho.2.2 hn), cell_ar ho.1 ho.2.1]) (by rw [wsM_get (Nat.lt_of_lt_of_le hd.2.2 hn), cell_ar hd.1 hd.2.1]) rfl rfl rfl h1 h2 h3 h4 h5 (fun _ _ => rfl) (room_math hX hr).1 (by have h5 := hX.2.2.2.1.2.1; have h6 := Nat.le_of_ble_eq_true hr; omega) hdg (fun H1 locs1 hP1 _ hS1 => ?_)
  rw [set_row hd hn] at hP1
  exact kk H1 locs1 ls hP1 hS1 hl
end SPEC
