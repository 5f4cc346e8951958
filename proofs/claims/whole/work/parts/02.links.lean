def gtbl : List Cond := lw_tbl.filter goodWord
theorem mem_g {w : Cond} (h : w ∈ lw_tbl) (hg : goodWord w = true) : w ∈ gtbl := List.mem_filter.mpr ⟨h, hg⟩
theorem gtbl_good : GoodIn gtbl gtbl := fun w h => ⟨h, good_of_word (List.mem_filter.mp h).2⟩
theorem mem_tq {w : Cond} (h : w ∈ tables_1) : w ∈ lw_tbl := List.mem_append_right _ h
theorem mem_t1 {w : Cond} (h : w ∈ tables_1_1) : w ∈ lw_tbl := mem_tq (List.mem_append_left _ h)
theorem mem_t2 {w : Cond} (h : w ∈ tables_1_2) : w ∈ lw_tbl := mem_tq (List.mem_append_right _ (List.mem_append_left _ h))
theorem mem_t3 {w : Cond} (h : w ∈ tables_1_3) : w ∈ lw_tbl := mem_tq (List.mem_append_right _ (List.mem_append_right _ (List.mem_append_left _ h)))
theorem mem_t4 {w : Cond} (h : w ∈ tables_1_4) : w ∈ lw_tbl := mem_tq (List.mem_append_right _ (List.mem_append_right _ (List.mem_append_right _ (List.mem_append_left _ h))))
theorem mem_t5 {w : Cond} (h : w ∈ tables_1_5) : w ∈ lw_tbl := mem_tq (List.mem_append_right _ (List.mem_append_right _ (List.mem_append_right _ (List.mem_append_right _ (List.mem_append_left _ h)))))
theorem mem_t6 {w : Cond} (h : w ∈ tables_1_6) : w ∈ lw_tbl := mem_tq (List.mem_append_right _ (List.mem_append_right _ (List.mem_append_right _ (List.mem_append_right _ (List.mem_append_right _ h)))))
theorem mem_ps {w : Cond} (h : w ∈ k2_sels lw_privs) : w ∈ lw_tbl := List.mem_append_left _ h
theorem k1_0 : (Cond.initialized RL : Cond) ∈ gtbl := mem_g (mem_t1 (List.mem_of_getElem? (i := 0) (by decide +kernel))) rfl
theorem k1_1 : (Cond.initialized RX8 : Cond) ∈ gtbl := mem_g (mem_t1 (List.mem_of_getElem? (i := 1) (by decide +kernel))) rfl
theorem k1_2 : (Cond.initialized RX5 : Cond) ∈ gtbl := mem_g (mem_t1 (List.mem_of_getElem? (i := 2) (by decide +kernel))) rfl
theorem k1_3 : (Cond.initialized RX7 : Cond) ∈ gtbl := mem_g (mem_t1 (List.mem_of_getElem? (i := 3) (by decide +kernel))) rfl
theorem k1_4 : (Cond.initialized RX1 : Cond) ∈ gtbl := mem_g (mem_t1 (List.mem_of_getElem? (i := 4) (by decide +kernel))) rfl
theorem k1_5 : (Cond.initialized RX6 : Cond) ∈ gtbl := mem_g (mem_t1 (List.mem_of_getElem? (i := 5) (by decide +kernel))) rfl
theorem k1_6 : (Cond.initialized RX2 : Cond) ∈ gtbl := mem_g (mem_t1 (List.mem_of_getElem? (i := 6) (by decide +kernel))) rfl
theorem k1_7 : (Cond.initialized RX0 : Cond) ∈ gtbl := mem_g (mem_t1 (List.mem_of_getElem? (i := 7) (by decide +kernel))) rfl
theorem k1_8 : (Cond.initialized RX4 : Cond) ∈ gtbl := mem_g (mem_t1 (List.mem_of_getElem? (i := 8) (by decide +kernel))) rfl
theorem k1_9 : (Cond.initialized RX3 : Cond) ∈ gtbl := mem_g (mem_t1 (List.mem_of_getElem? (i := 9) (by decide +kernel))) rfl
theorem k1_10 : (Cond.initialized "java/lang/String" : Cond) ∈ gtbl := mem_g (mem_t1 (List.mem_of_getElem? (i := 10) (by decide +kernel))) rfl
theorem k1_11 : (Cond.initialized "java/lang/StringLatin1" : Cond) ∈ gtbl := mem_g (mem_t1 (List.mem_of_getElem? (i := 11) (by decide +kernel))) rfl
theorem k1_12 : (Cond.initialized "jdk/internal/util/Preconditions" : Cond) ∈ gtbl := mem_g (mem_t1 (List.mem_of_getElem? (i := 12) (by decide +kernel))) rfl
theorem k1_13 : (Cond.initialized "java/lang/StringUTF16" : Cond) ∈ gtbl := mem_g (mem_t1 (List.mem_of_getElem? (i := 13) (by decide +kernel))) rfl
theorem k1_14 : (Cond.initialized "java/lang/Math" : Cond) ∈ gtbl := mem_g (mem_t1 (List.mem_of_getElem? (i := 14) (by decide +kernel))) rfl
theorem k1_15 : (Cond.initialized "java/lang/Character" : Cond) ∈ gtbl := mem_g (mem_t1 (List.mem_of_getElem? (i := 15) (by decide +kernel))) rfl
theorem k1_16 : (Cond.initialized RX9 : Cond) ∈ gtbl := mem_g (mem_t1 (List.mem_of_getElem? (i := 16) (by decide +kernel))) rfl
theorem k1_17 : (Cond.initialized "java/util/Arrays" : Cond) ∈ gtbl := mem_g (mem_t1 (List.mem_of_getElem? (i := 17) (by decide +kernel))) rfl
theorem k1_18 : (Cond.initialized "java/lang/System" : Cond) ∈ gtbl := mem_g (mem_t1 (List.mem_of_getElem? (i := 18) (by decide +kernel))) rfl
theorem k1_19 : (Cond.classLink RL 7 RX8 : Cond) ∈ gtbl := mem_g (mem_t1 (List.mem_of_getElem? (i := 19) (by decide +kernel))) rfl
theorem k1_20 : (Cond.instantiable RX8 11 : Cond) ∈ gtbl := mem_g (mem_t1 (List.mem_of_getElem? (i := 20) (by decide +kernel))) rfl
theorem k1_21 : (Cond.methodLink RL 9 yX8_init : Cond) ∈ gtbl := mem_g (mem_t1 (List.mem_of_getElem? (i := 21) (by decide +kernel))) rfl
theorem k1_22 : (Cond.instanceMethod yX8_init : Cond) ∈ gtbl := mem_g (mem_t1 (List.mem_of_getElem? (i := 22) (by decide +kernel))) rfl
theorem k1_23 : (Cond.code yX8_init cX8_init 2 none : Cond) ∈ gtbl := mem_g (mem_t1 (List.mem_of_getElem? (i := 23) rfl)) rfl
theorem k1_24 : (Cond.methodLink RX8 1 ⟨"java/lang/Object", "<init>", "()V"⟩ : Cond) ∈ gtbl := mem_g (mem_t1 (List.mem_of_getElem? (i := 24) (by decide +kernel))) rfl
theorem k1_25 : (Cond.instanceMethod ⟨"java/lang/Object", "<init>", "()V"⟩ : Cond) ∈ gtbl := mem_g (mem_t1 (List.mem_of_getElem? (i := 25) (by decide +kernel))) rfl
theorem k1_26 : (Cond.code objectInit ⟨#[0xb1]⟩ 1 none : Cond) ∈ gtbl := mem_g (mem_t1 (List.mem_of_getElem? (i := 26) rfl)) rfl
theorem k1_27 : (Cond.classLink RX8 7 RX5 : Cond) ∈ gtbl := mem_g (mem_t1 (List.mem_of_getElem? (i := 27) (by decide +kernel))) rfl
theorem k1_28 : (Cond.instantiable RX5 4 : Cond) ∈ gtbl := mem_g (mem_t1 (List.mem_of_getElem? (i := 28) (by decide +kernel))) rfl
theorem k1_29 : (Cond.methodLink RX8 9 yX5_init : Cond) ∈ gtbl := mem_g (mem_t1 (List.mem_of_getElem? (i := 29) (by decide +kernel))) rfl
theorem k1_30 : (Cond.instanceMethod yX5_init : Cond) ∈ gtbl := mem_g (mem_t1 (List.mem_of_getElem? (i := 30) (by decide +kernel))) rfl
theorem k1_31 : (Cond.code yX5_init cX5_init 2 none : Cond) ∈ gtbl := mem_g (mem_t1 (List.mem_of_getElem? (i := 31) rfl)) rfl
theorem k1_32 : (Cond.methodLink RX5 3 ⟨"java/lang/Object", "<init>", "()V"⟩ : Cond) ∈ gtbl := mem_g (mem_t1 (List.mem_of_getElem? (i := 32) (by decide +kernel))) rfl
theorem k1_33 : (Cond.classLink RX5 9 RX7 : Cond) ∈ gtbl := mem_g (mem_t1 (List.mem_of_getElem? (i := 33) (by decide +kernel))) rfl
theorem k1_35 : (Cond.instantiable RX7 7 : Cond) ∈ gtbl := mem_g (mem_t1 (List.mem_of_getElem? (i := 35) (by decide +kernel))) rfl
theorem k1_37 : (Cond.instanceMethod yX7_init : Cond) ∈ gtbl := mem_g (mem_t1 (List.mem_of_getElem? (i := 37) (by decide +kernel))) rfl
theorem k1_38 : (Cond.code yX7_init cX7_init 1 none : Cond) ∈ gtbl := mem_g (mem_t1 (List.mem_of_getElem? (i := 38) rfl)) rfl
theorem k1_39 : (Cond.methodLink RX7 3 ⟨"java/lang/Object", "<init>", "()V"⟩ : Cond) ∈ gtbl := mem_g (mem_t1 (List.mem_of_getElem? (i := 39) (by decide +kernel))) rfl
theorem k1_40 : (Cond.fieldLink RX7 9 "RingOfStraw$Wrestler" "kind" "I" : Cond) ∈ gtbl := mem_g (mem_t1 (List.mem_of_getElem? (i := 40) (by decide +kernel))) rfl
theorem k1_41 : (Cond.fieldLink RX7 15 "RingOfStraw$Wrestler" "more" "I" : Cond) ∈ gtbl := mem_g (mem_t1 (List.mem_of_getElem? (i := 41) (by decide +kernel))) rfl
theorem k1_42 : (Cond.fieldLink RX7 18 "RingOfStraw$Wrestler" "weight" "I" : Cond) ∈ gtbl := mem_g (mem_t1 (List.mem_of_getElem? (i := 42) (by decide +kernel))) rfl
theorem k1_43 : (Cond.fieldLink RX2 56 "RingOfStraw$Wrestler" "weight" "I" : Cond) ∈ gtbl := mem_g (mem_t1 (List.mem_of_getElem? (i := 43) (by decide +kernel))) rfl
theorem k1_44 : (Cond.fieldLink RX7 21 "RingOfStraw$Wrestler" "pace" "I" : Cond) ∈ gtbl := mem_g (mem_t1 (List.mem_of_getElem? (i := 44) (by decide +kernel))) rfl
theorem k1_45 : (Cond.fieldLink RX2 62 "RingOfStraw$Wrestler" "pace" "I" : Cond) ∈ gtbl := mem_g (mem_t1 (List.mem_of_getElem? (i := 45) (by decide +kernel))) rfl
theorem k1_46 : (Cond.fieldLink RX7 24 "RingOfStraw$Wrestler" "knee" "I" : Cond) ∈ gtbl := mem_g (mem_t1 (List.mem_of_getElem? (i := 46) (by decide +kernel))) rfl
theorem k1_47 : (Cond.fieldLink RX2 65 "RingOfStraw$Wrestler" "knee" "I" : Cond) ∈ gtbl := mem_g (mem_t1 (List.mem_of_getElem? (i := 47) (by decide +kernel))) rfl
theorem k1_48 : (Cond.fieldLink RX4 62 "RingOfStraw$Wrestler" "knee" "I" : Cond) ∈ gtbl := mem_g (mem_t1 (List.mem_of_getElem? (i := 48) (by decide +kernel))) rfl
theorem k1_49 : (Cond.fieldLink RX8 204 "RingOfStraw$Wrestler" "knee" "I" : Cond) ∈ gtbl := mem_g (mem_t1 (List.mem_of_getElem? (i := 49) (by decide +kernel))) rfl
theorem k1_50 : (Cond.fieldLink RX7 27 "RingOfStraw$Wrestler" "wins" "I" : Cond) ∈ gtbl := mem_g (mem_t1 (List.mem_of_getElem? (i := 50) (by decide +kernel))) rfl
theorem k1_51 : (Cond.fieldLink RX5 36 "RingOfStraw$Wrestler" "wins" "I" : Cond) ∈ gtbl := mem_g (mem_t1 (List.mem_of_getElem? (i := 51) (by decide +kernel))) rfl
theorem k1_52 : (Cond.fieldLink RX8 227 "RingOfStraw$Wrestler" "wins" "I" : Cond) ∈ gtbl := mem_g (mem_t1 (List.mem_of_getElem? (i := 52) (by decide +kernel))) rfl
theorem k1_53 : (Cond.fieldLink RX7 30 "RingOfStraw$Wrestler" "losses" "I" : Cond) ∈ gtbl := mem_g (mem_t1 (List.mem_of_getElem? (i := 53) (by decide +kernel))) rfl
theorem k1_54 : (Cond.fieldLink RX8 295 "RingOfStraw$Wrestler" "losses" "I" : Cond) ∈ gtbl := mem_g (mem_t1 (List.mem_of_getElem? (i := 54) (by decide +kernel))) rfl
theorem k1_70 : (Cond.fieldLink RX5 11 "RingOfStraw$Stable" "men" "[LRingOfStraw$Wrestler;" : Cond) ∈ gtbl := mem_g (mem_t1 (List.mem_of_getElem? (i := 70) (by decide +kernel))) rfl
theorem k1_71 : (Cond.fieldLink RX5 17 "RingOfStraw$Stable" "size" "I" : Cond) ∈ gtbl := mem_g (mem_t1 (List.mem_of_getElem? (i := 71) (by decide +kernel))) rfl
theorem k1_72 : (Cond.fieldLink RX8 97 "RingOfStraw$Stable" "size" "I" : Cond) ∈ gtbl := mem_g (mem_t1 (List.mem_of_getElem? (i := 72) (by decide +kernel))) rfl
theorem k1_73 : (Cond.fieldLink RX5 21 "RingOfStraw$Stable" "days" "I" : Cond) ∈ gtbl := mem_g (mem_t1 (List.mem_of_getElem? (i := 73) (by decide +kernel))) rfl
theorem k1_74 : (Cond.fieldLink RX8 100 "RingOfStraw$Stable" "days" "I" : Cond) ∈ gtbl := mem_g (mem_t1 (List.mem_of_getElem? (i := 74) (by decide +kernel))) rfl
theorem k1_75 : (Cond.fieldLink RX5 24 "RingOfStraw$Stable" "law" "I" : Cond) ∈ gtbl := mem_g (mem_t1 (List.mem_of_getElem? (i := 75) (by decide +kernel))) rfl
theorem k1_76 : (Cond.fieldLink RX8 103 "RingOfStraw$Stable" "law" "I" : Cond) ∈ gtbl := mem_g (mem_t1 (List.mem_of_getElem? (i := 76) (by decide +kernel))) rfl
theorem k1_86 : (Cond.classLink RX8 22 RX7 : Cond) ∈ gtbl := mem_g (mem_t1 (List.mem_of_getElem? (i := 86) (by decide +kernel))) rfl
theorem k1_88 : (Cond.classLink RX8 29 RX1 : Cond) ∈ gtbl := mem_g (mem_t1 (List.mem_of_getElem? (i := 88) (by decide +kernel))) rfl
theorem k1_89 : (Cond.instantiable RX1 7 : Cond) ∈ gtbl := mem_g (mem_t1 (List.mem_of_getElem? (i := 89) (by decide +kernel))) rfl
theorem k1_91 : (Cond.instanceMethod yX1_init : Cond) ∈ gtbl := mem_g (mem_t1 (List.mem_of_getElem? (i := 91) (by decide +kernel))) rfl
theorem k1_92 : (Cond.code yX1_init cX1_init 1 none : Cond) ∈ gtbl := mem_g (mem_t1 (List.mem_of_getElem? (i := 92) rfl)) rfl
theorem k1_93 : (Cond.methodLink RX1 3 ⟨"java/lang/Object", "<init>", "()V"⟩ : Cond) ∈ gtbl := mem_g (mem_t1 (List.mem_of_getElem? (i := 93) (by decide +kernel))) rfl
theorem k1_94 : (Cond.classLink RX1 31 RX6 : Cond) ∈ gtbl := mem_g (mem_t1 (List.mem_of_getElem? (i := 94) (by decide +kernel))) rfl
theorem k1_95 : (Cond.instantiable RX6 3 : Cond) ∈ gtbl := mem_g (mem_t1 (List.mem_of_getElem? (i := 95) (by decide +kernel))) rfl
theorem k1_97 : (Cond.instanceMethod yX6_init : Cond) ∈ gtbl := mem_g (mem_t1 (List.mem_of_getElem? (i := 97) (by decide +kernel))) rfl
theorem k1_98 : (Cond.code yX6_init cX6_init 1 none : Cond) ∈ gtbl := mem_g (mem_t1 (List.mem_of_getElem? (i := 98) rfl)) rfl
theorem k1_99 : (Cond.methodLink RX6 3 ⟨"java/lang/Object", "<init>", "()V"⟩ : Cond) ∈ gtbl := mem_g (mem_t1 (List.mem_of_getElem? (i := 99) (by decide +kernel))) rfl
theorem k1_100 : (Cond.fieldLink RX6 9 "RingOfStraw$Text" "steps" "[I" : Cond) ∈ gtbl := mem_g (mem_t1 (List.mem_of_getElem? (i := 100) (by decide +kernel))) rfl
theorem k1_101 : (Cond.fieldLink RX2 27 "RingOfStraw$Text" "steps" "[I" : Cond) ∈ gtbl := mem_g (mem_t1 (List.mem_of_getElem? (i := 101) (by decide +kernel))) rfl
theorem k1_102 : (Cond.fieldLink RX6 15 "RingOfStraw$Text" "ends" "[I" : Cond) ∈ gtbl := mem_g (mem_t1 (List.mem_of_getElem? (i := 102) (by decide +kernel))) rfl
theorem k1_103 : (Cond.fieldLink RX6 18 "RingOfStraw$Text" "size" "I" : Cond) ∈ gtbl := mem_g (mem_t1 (List.mem_of_getElem? (i := 103) (by decide +kernel))) rfl
theorem k1_104 : (Cond.fieldLink RX1 38 "RingOfStraw$Text" "size" "I" : Cond) ∈ gtbl := mem_g (mem_t1 (List.mem_of_getElem? (i := 104) (by decide +kernel))) rfl
theorem k1_113 : (Cond.fieldLink RX1 9 "RingOfStraw$Reader" "tape" "[I" : Cond) ∈ gtbl := mem_g (mem_t1 (List.mem_of_getElem? (i := 113) (by decide +kernel))) rfl
theorem k1_114 : (Cond.fieldLink RX1 15 "RingOfStraw$Reader" "size" "I" : Cond) ∈ gtbl := mem_g (mem_t1 (List.mem_of_getElem? (i := 114) (by decide +kernel))) rfl
theorem k1_115 : (Cond.fieldLink RX8 106 "RingOfStraw$Reader" "size" "I" : Cond) ∈ gtbl := mem_g (mem_t1 (List.mem_of_getElem? (i := 115) (by decide +kernel))) rfl
theorem k1_116 : (Cond.fieldLink RX1 19 "RingOfStraw$Reader" "place" "I" : Cond) ∈ gtbl := mem_g (mem_t1 (List.mem_of_getElem? (i := 116) (by decide +kernel))) rfl
theorem k1_117 : (Cond.fieldLink RX1 22 "RingOfStraw$Reader" "next" "I" : Cond) ∈ gtbl := mem_g (mem_t1 (List.mem_of_getElem? (i := 117) (by decide +kernel))) rfl
theorem k1_118 : (Cond.fieldLink RX1 25 "RingOfStraw$Reader" "token" "I" : Cond) ∈ gtbl := mem_g (mem_t1 (List.mem_of_getElem? (i := 118) (by decide +kernel))) rfl
theorem k1_119 : (Cond.fieldLink RX1 28 "RingOfStraw$Reader" "number" "I" : Cond) ∈ gtbl := mem_g (mem_t1 (List.mem_of_getElem? (i := 119) (by decide +kernel))) rfl
theorem k1_120 : (Cond.fieldLink RX1 34 "RingOfStraw$Reader" "into" "LRingOfStraw$Text;" : Cond) ∈ gtbl := mem_g (mem_t1 (List.mem_of_getElem? (i := 120) (by decide +kernel))) rfl
theorem k1_136 : (Cond.classLink RX8 36 RX6 : Cond) ∈ gtbl := mem_g (mem_t1 (List.mem_of_getElem? (i := 136) (by decide +kernel))) rfl
theorem k1_138 : (Cond.classLink RX8 42 RX3 : Cond) ∈ gtbl := mem_g (mem_t1 (List.mem_of_getElem? (i := 138) (by decide +kernel))) rfl
theorem k1_140 : (Cond.classLink RX8 48 RX2 : Cond) ∈ gtbl := mem_g (mem_t1 (List.mem_of_getElem? (i := 140) (by decide +kernel))) rfl
theorem k1_141 : (Cond.instantiable RX2 1 : Cond) ∈ gtbl := mem_g (mem_t1 (List.mem_of_getElem? (i := 141) (by decide +kernel))) rfl
theorem k1_143 : (Cond.instanceMethod yX2_init : Cond) ∈ gtbl := mem_g (mem_t1 (List.mem_of_getElem? (i := 143) (by decide +kernel))) rfl
theorem k1_144 : (Cond.code yX2_init cX2_init 1 none : Cond) ∈ gtbl := mem_g (mem_t1 (List.mem_of_getElem? (i := 144) rfl)) rfl
theorem k1_145 : (Cond.methodLink RX2 3 ⟨"java/lang/Object", "<init>", "()V"⟩ : Cond) ∈ gtbl := mem_g (mem_t1 (List.mem_of_getElem? (i := 145) (by decide +kernel))) rfl
theorem k1_146 : (Cond.fieldLink RX2 9 "RingOfStraw$Scale" "stack" "[I" : Cond) ∈ gtbl := mem_g (mem_t1 (List.mem_of_getElem? (i := 146) (by decide +kernel))) rfl
theorem k1_150 : (Cond.classLink RX8 55 RX0 : Cond) ∈ gtbl := mem_g (mem_t1 (List.mem_of_getElem? (i := 150) (by decide +kernel))) rfl
theorem k1_151 : (Cond.instantiable RX0 6 : Cond) ∈ gtbl := mem_g (mem_t1 (List.mem_of_getElem? (i := 151) (by decide +kernel))) rfl
theorem k1_152 : (Cond.methodLink RX8 57 yX0_init : Cond) ∈ gtbl := mem_g (mem_t1 (List.mem_of_getElem? (i := 152) (by decide +kernel))) rfl
theorem k1_153 : (Cond.instanceMethod yX0_init : Cond) ∈ gtbl := mem_g (mem_t1 (List.mem_of_getElem? (i := 153) (by decide +kernel))) rfl
theorem k1_154 : (Cond.code yX0_init cX0_init 2 none : Cond) ∈ gtbl := mem_g (mem_t1 (List.mem_of_getElem? (i := 154) rfl)) rfl
theorem k1_155 : (Cond.methodLink RX0 3 ⟨"java/lang/Object", "<init>", "()V"⟩ : Cond) ∈ gtbl := mem_g (mem_t1 (List.mem_of_getElem? (i := 155) (by decide +kernel))) rfl
theorem k1_156 : (Cond.classLink RX0 25 RX4 : Cond) ∈ gtbl := mem_g (mem_t1 (List.mem_of_getElem? (i := 156) (by decide +kernel))) rfl
theorem k1_157 : (Cond.instantiable RX4 6 : Cond) ∈ gtbl := mem_g (mem_t1 (List.mem_of_getElem? (i := 157) (by decide +kernel))) rfl
theorem k1_158 : (Cond.methodLink RX0 27 yX4_init : Cond) ∈ gtbl := mem_g (mem_t1 (List.mem_of_getElem? (i := 158) (by decide +kernel))) rfl
theorem k1_159 : (Cond.instanceMethod yX4_init : Cond) ∈ gtbl := mem_g (mem_t1 (List.mem_of_getElem? (i := 159) (by decide +kernel))) rfl
theorem k1_160 : (Cond.code yX4_init cX4_init 2 none : Cond) ∈ gtbl := mem_g (mem_t1 (List.mem_of_getElem? (i := 160) rfl)) rfl
theorem k1_161 : (Cond.methodLink RX4 3 ⟨"java/lang/Object", "<init>", "()V"⟩ : Cond) ∈ gtbl := mem_g (mem_t1 (List.mem_of_getElem? (i := 161) (by decide +kernel))) rfl
theorem k1_162 : (Cond.classLink RX4 15 RX7 : Cond) ∈ gtbl := mem_g (mem_t1 (List.mem_of_getElem? (i := 162) (by decide +kernel))) rfl
theorem k1_164 : (Cond.classLink RX4 22 RX6 : Cond) ∈ gtbl := mem_g (mem_t1 (List.mem_of_getElem? (i := 164) (by decide +kernel))) rfl
theorem k1_166 : (Cond.fieldLink RX4 36 "RingOfStraw$Side" "scale" "LRingOfStraw$Scale;" : Cond) ∈ gtbl := mem_g (mem_t1 (List.mem_of_getElem? (i := 166) (by decide +kernel))) rfl
theorem k1_167 : (Cond.fieldLink RX4 9 "RingOfStraw$Side" "strengths" "[I" : Cond) ∈ gtbl := mem_g (mem_t1 (List.mem_of_getElem? (i := 167) (by decide +kernel))) rfl
theorem k1_168 : (Cond.fieldLink RX4 18 "RingOfStraw$Side" "who" "LRingOfStraw$Wrestler;" : Cond) ∈ gtbl := mem_g (mem_t1 (List.mem_of_getElem? (i := 168) (by decide +kernel))) rfl
theorem k1_169 : (Cond.fieldLink RX4 25 "RingOfStraw$Side" "law" "LRingOfStraw$Text;" : Cond) ∈ gtbl := mem_g (mem_t1 (List.mem_of_getElem? (i := 169) (by decide +kernel))) rfl
theorem k1_170 : (Cond.fieldLink RX4 29 "RingOfStraw$Side" "standing" "I" : Cond) ∈ gtbl := mem_g (mem_t1 (List.mem_of_getElem? (i := 170) (by decide +kernel))) rfl
theorem k1_171 : (Cond.fieldLink RX4 33 "RingOfStraw$Side" "stood" "I" : Cond) ∈ gtbl := mem_g (mem_t1 (List.mem_of_getElem? (i := 171) (by decide +kernel))) rfl
theorem k1_185 : (Cond.fieldLink RX0 30 "RingOfStraw$Match" "west" "LRingOfStraw$Side;" : Cond) ∈ gtbl := mem_g (mem_t1 (List.mem_of_getElem? (i := 185) (by decide +kernel))) rfl
theorem k1_186 : (Cond.fieldLink RX0 34 "RingOfStraw$Match" "east" "LRingOfStraw$Side;" : Cond) ∈ gtbl := mem_g (mem_t1 (List.mem_of_getElem? (i := 186) (by decide +kernel))) rfl
theorem k1_187 : (Cond.fieldLink RX0 9 "RingOfStraw$Match" "cells" "[I" : Cond) ∈ gtbl := mem_g (mem_t1 (List.mem_of_getElem? (i := 187) (by decide +kernel))) rfl
theorem k1_188 : (Cond.fieldLink RX0 15 "RingOfStraw$Match" "start" "I" : Cond) ∈ gtbl := mem_g (mem_t1 (List.mem_of_getElem? (i := 188) (by decide +kernel))) rfl
theorem k1_189 : (Cond.fieldLink RX0 19 "RingOfStraw$Match" "seconds" "I" : Cond) ∈ gtbl := mem_g (mem_t1 (List.mem_of_getElem? (i := 189) (by decide +kernel))) rfl
theorem k1_190 : (Cond.fieldLink RX8 169 "RingOfStraw$Match" "seconds" "I" : Cond) ∈ gtbl := mem_g (mem_t1 (List.mem_of_getElem? (i := 190) (by decide +kernel))) rfl
theorem k1_191 : (Cond.fieldLink RX0 22 "RingOfStraw$Match" "lead" "I" : Cond) ∈ gtbl := mem_g (mem_t1 (List.mem_of_getElem? (i := 191) (by decide +kernel))) rfl
theorem k1_192 : (Cond.fieldLink RX8 188 "RingOfStraw$Match" "lead" "I" : Cond) ∈ gtbl := mem_g (mem_t1 (List.mem_of_getElem? (i := 192) (by decide +kernel))) rfl
theorem k1_207 : (Cond.instantiable RX3 3 : Cond) ∈ gtbl := mem_g (mem_t1 (List.mem_of_getElem? (i := 207) (by decide +kernel))) rfl
theorem k1_209 : (Cond.instanceMethod yX3_init : Cond) ∈ gtbl := mem_g (mem_t1 (List.mem_of_getElem? (i := 209) (by decide +kernel))) rfl
theorem k1_210 : (Cond.code yX3_init cX3_init 1 none : Cond) ∈ gtbl := mem_g (mem_t1 (List.mem_of_getElem? (i := 210) rfl)) rfl
theorem k1_211 : (Cond.methodLink RX3 3 ⟨"java/lang/Object", "<init>", "()V"⟩ : Cond) ∈ gtbl := mem_g (mem_t1 (List.mem_of_getElem? (i := 211) (by decide +kernel))) rfl
theorem k1_212 : (Cond.fieldLink RX3 9 "RingOfStraw$Sheet" "row" "[I" : Cond) ∈ gtbl := mem_g (mem_t1 (List.mem_of_getElem? (i := 212) (by decide +kernel))) rfl
theorem k1_213 : (Cond.fieldLink RX8 269 "RingOfStraw$Sheet" "row" "[I" : Cond) ∈ gtbl := mem_g (mem_t1 (List.mem_of_getElem? (i := 213) (by decide +kernel))) rfl
theorem k1_214 : (Cond.fieldLink RX3 15 "RingOfStraw$Sheet" "sort" "I" : Cond) ∈ gtbl := mem_g (mem_t1 (List.mem_of_getElem? (i := 214) (by decide +kernel))) rfl
theorem k1_215 : (Cond.fieldLink RX8 266 "RingOfStraw$Sheet" "sort" "I" : Cond) ∈ gtbl := mem_g (mem_t1 (List.mem_of_getElem? (i := 215) (by decide +kernel))) rfl
theorem k1_216 : (Cond.fieldLink RX3 19 "RingOfStraw$Sheet" "size" "I" : Cond) ∈ gtbl := mem_g (mem_t1 (List.mem_of_getElem? (i := 216) (by decide +kernel))) rfl
theorem k1_217 : (Cond.fieldLink RX0 71 "RingOfStraw$Sheet" "size" "I" : Cond) ∈ gtbl := mem_g (mem_t1 (List.mem_of_getElem? (i := 217) (by decide +kernel))) rfl
theorem k1_218 : (Cond.fieldLink RX8 289 "RingOfStraw$Sheet" "size" "I" : Cond) ∈ gtbl := mem_g (mem_t1 (List.mem_of_getElem? (i := 218) (by decide +kernel))) rfl
theorem k1_227 : (Cond.methodLink RX8 76 yJ0_length_8abf5 : Cond) ∈ gtbl := mem_g (mem_t1 (List.mem_of_getElem? (i := 227) (by decide +kernel))) rfl
theorem k1_228 : (Cond.instanceMethod yJ0_length_8abf5 : Cond) ∈ gtbl := mem_g (mem_t1 (List.mem_of_getElem? (i := 228) (by decide +kernel))) rfl
theorem k1_229 : (Cond.selects "java/lang/String" yJ0_length_8abf5 yJ0_length_8abf5 : Cond) ∈ gtbl := mem_g (mem_t1 (List.mem_of_getElem? (i := 229) (by decide +kernel))) rfl
theorem k1_230 : (Cond.code yJ0_length_8abf5 cJ0_length_8abf5 1 (some FieldType.int) : Cond) ∈ gtbl := mem_g (mem_t1 (List.mem_of_getElem? (i := 230) rfl)) rfl
theorem k1_232 : (Cond.instanceMethod yJ0_coder_7d493 : Cond) ∈ gtbl := mem_g (mem_t1 (List.mem_of_getElem? (i := 232) (by decide +kernel))) rfl
theorem k1_233 : (Cond.selects "java/lang/String" yJ0_coder_7d493 yJ0_coder_7d493 : Cond) ∈ gtbl := mem_g (mem_t1 (List.mem_of_getElem? (i := 233) (by decide +kernel))) rfl
theorem k1_234 : (Cond.code yJ0_coder_7d493 cJ0_coder_7d493 1 (some FieldType.byte) : Cond) ∈ gtbl := mem_g (mem_t1 (List.mem_of_getElem? (i := 234) rfl)) rfl
theorem k1_237 : (Cond.methodLink RX8 82 yJ0_charAt_5068e : Cond) ∈ gtbl := mem_g (mem_t1 (List.mem_of_getElem? (i := 237) (by decide +kernel))) rfl
theorem k1_238 : (Cond.instanceMethod yJ0_charAt_5068e : Cond) ∈ gtbl := mem_g (mem_t1 (List.mem_of_getElem? (i := 238) (by decide +kernel))) rfl
theorem k1_239 : (Cond.selects "java/lang/String" yJ0_charAt_5068e yJ0_charAt_5068e : Cond) ∈ gtbl := mem_g (mem_t1 (List.mem_of_getElem? (i := 239) (by decide +kernel))) rfl
theorem k2_0 : (Cond.code yJ0_charAt_5068e cJ0_charAt_5068e 2 (some FieldType.char) : Cond) ∈ gtbl := mem_g (mem_t2 (List.mem_of_getElem? (i := 0) rfl)) rfl
theorem k2_2 : (Cond.instanceMethod yJ0_isLatin1_aae02 : Cond) ∈ gtbl := mem_g (mem_t2 (List.mem_of_getElem? (i := 2) (by decide +kernel))) rfl
theorem k2_3 : (Cond.selects "java/lang/String" yJ0_isLatin1_aae02 yJ0_isLatin1_aae02 : Cond) ∈ gtbl := mem_g (mem_t2 (List.mem_of_getElem? (i := 3) (by decide +kernel))) rfl
theorem k2_4 : (Cond.code yJ0_isLatin1_aae02 cJ0_isLatin1_aae02 1 (some FieldType.boolean) : Cond) ∈ gtbl := mem_g (mem_t2 (List.mem_of_getElem? (i := 4) rfl)) rfl
theorem k2_6 : (Cond.static yJ1_charAt_3b067 : Cond) ∈ gtbl := mem_g (mem_t2 (List.mem_of_getElem? (i := 6) (by decide +kernel))) rfl
theorem k2_7 : (Cond.code yJ1_charAt_3b067 cJ1_charAt_3b067 2 (some FieldType.char) : Cond) ∈ gtbl := mem_g (mem_t2 (List.mem_of_getElem? (i := 7) rfl)) rfl
theorem k2_9 : (Cond.static yJ0_checkIndex_df160 : Cond) ∈ gtbl := mem_g (mem_t2 (List.mem_of_getElem? (i := 9) (by decide +kernel))) rfl
theorem k2_10 : (Cond.code yJ0_checkIndex_df160 cJ0_checkIndex_df160 2 none : Cond) ∈ gtbl := mem_g (mem_t2 (List.mem_of_getElem? (i := 10) rfl)) rfl
theorem k2_14 : (Cond.static yJ3_checkIndex_8e157 : Cond) ∈ gtbl := mem_g (mem_t2 (List.mem_of_getElem? (i := 14) (by decide +kernel))) rfl
theorem k2_15 : (Cond.code yJ3_checkIndex_8e157 cJ3_checkIndex_8e157 3 (some FieldType.int) : Cond) ∈ gtbl := mem_g (mem_t2 (List.mem_of_getElem? (i := 15) rfl)) rfl
theorem k2_17 : (Cond.static yJ2_charAt_3b067 : Cond) ∈ gtbl := mem_g (mem_t2 (List.mem_of_getElem? (i := 17) (by decide +kernel))) rfl
theorem k2_18 : (Cond.code yJ2_charAt_3b067 cJ2_charAt_3b067 2 (some FieldType.char) : Cond) ∈ gtbl := mem_g (mem_t2 (List.mem_of_getElem? (i := 18) rfl)) rfl
theorem k2_20 : (Cond.static yJ2_checkIndex_2214a : Cond) ∈ gtbl := mem_g (mem_t2 (List.mem_of_getElem? (i := 20) (by decide +kernel))) rfl
theorem k2_21 : (Cond.code yJ2_checkIndex_2214a cJ2_checkIndex_2214a 2 none : Cond) ∈ gtbl := mem_g (mem_t2 (List.mem_of_getElem? (i := 21) rfl)) rfl
theorem k2_23 : (Cond.static yJ2_length_9d52b : Cond) ∈ gtbl := mem_g (mem_t2 (List.mem_of_getElem? (i := 23) (by decide +kernel))) rfl
theorem k2_24 : (Cond.code yJ2_length_9d52b cJ2_length_9d52b 1 (some FieldType.int) : Cond) ∈ gtbl := mem_g (mem_t2 (List.mem_of_getElem? (i := 24) rfl)) rfl
theorem k2_27 : (Cond.static yJ2_getChar_3b067 : Cond) ∈ gtbl := mem_g (mem_t2 (List.mem_of_getElem? (i := 27) (by decide +kernel))) rfl
theorem k2_28 : (Cond.code yJ2_getChar_3b067 cJ2_getChar_3b067 2 (some FieldType.char) : Cond) ∈ gtbl := mem_g (mem_t2 (List.mem_of_getElem? (i := 28) rfl)) rfl
theorem k2_35 : (Cond.methodLink RX8 86 yX1_add : Cond) ∈ gtbl := mem_g (mem_t2 (List.mem_of_getElem? (i := 35) (by decide +kernel))) rfl
theorem k2_36 : (Cond.instanceMethod yX1_add : Cond) ∈ gtbl := mem_g (mem_t2 (List.mem_of_getElem? (i := 36) (by decide +kernel))) rfl
theorem k2_37 : (Cond.selects RX1 yX1_add yX1_add : Cond) ∈ gtbl := mem_g (mem_t2 (List.mem_of_getElem? (i := 37) (by decide +kernel))) rfl
theorem k2_38 : (Cond.code yX1_add cX1_add 2 none : Cond) ∈ gtbl := mem_g (mem_t2 (List.mem_of_getElem? (i := 38) rfl)) rfl
theorem k2_39 : (Cond.methodLink RX8 90 yX1_readInto : Cond) ∈ gtbl := mem_g (mem_t2 (List.mem_of_getElem? (i := 39) (by decide +kernel))) rfl
theorem k2_40 : (Cond.instanceMethod yX1_readInto : Cond) ∈ gtbl := mem_g (mem_t2 (List.mem_of_getElem? (i := 40) (by decide +kernel))) rfl
theorem k2_41 : (Cond.selects RX1 yX1_readInto yX1_readInto : Cond) ∈ gtbl := mem_g (mem_t2 (List.mem_of_getElem? (i := 41) (by decide +kernel))) rfl
theorem k2_42 : (Cond.code yX1_readInto cX1_readInto 3 (some FieldType.int) : Cond) ∈ gtbl := mem_g (mem_t2 (List.mem_of_getElem? (i := 42) rfl)) rfl
theorem k2_43 : (Cond.methodLink RX1 39 yX1_step : Cond) ∈ gtbl := mem_g (mem_t2 (List.mem_of_getElem? (i := 43) (by decide +kernel))) rfl
theorem k2_45 : (Cond.instanceMethod yX1_step : Cond) ∈ gtbl := mem_g (mem_t2 (List.mem_of_getElem? (i := 45) (by decide +kernel))) rfl
theorem k2_46 : (Cond.code yX1_step cX1_step 2 none : Cond) ∈ gtbl := mem_g (mem_t2 (List.mem_of_getElem? (i := 46) rfl)) rfl
theorem k2_47 : (Cond.methodLink RX1 74 yX1_byteAt : Cond) ∈ gtbl := mem_g (mem_t2 (List.mem_of_getElem? (i := 47) (by decide +kernel))) rfl
theorem k2_49 : (Cond.instanceMethod yX1_byteAt : Cond) ∈ gtbl := mem_g (mem_t2 (List.mem_of_getElem? (i := 49) (by decide +kernel))) rfl
theorem k2_50 : (Cond.code yX1_byteAt cX1_byteAt 2 (some FieldType.int) : Cond) ∈ gtbl := mem_g (mem_t2 (List.mem_of_getElem? (i := 50) rfl)) rfl
theorem k2_51 : (Cond.methodLink RX1 78 yX1_isBlank : Cond) ∈ gtbl := mem_g (mem_t2 (List.mem_of_getElem? (i := 51) (by decide +kernel))) rfl
theorem k2_52 : (Cond.static yX1_isBlank : Cond) ∈ gtbl := mem_g (mem_t2 (List.mem_of_getElem? (i := 52) (by decide +kernel))) rfl
theorem k2_53 : (Cond.code yX1_isBlank cX1_isBlank 1 (some FieldType.boolean) : Cond) ∈ gtbl := mem_g (mem_t2 (List.mem_of_getElem? (i := 53) rfl)) rfl
theorem k2_54 : (Cond.methodLink RX1 81 yX1_isLetter : Cond) ∈ gtbl := mem_g (mem_t2 (List.mem_of_getElem? (i := 54) (by decide +kernel))) rfl
theorem k2_55 : (Cond.static yX1_isLetter : Cond) ∈ gtbl := mem_g (mem_t2 (List.mem_of_getElem? (i := 55) (by decide +kernel))) rfl
theorem k2_56 : (Cond.code yX1_isLetter cX1_isLetter 1 (some FieldType.boolean) : Cond) ∈ gtbl := mem_g (mem_t2 (List.mem_of_getElem? (i := 56) rfl)) rfl
theorem k2_57 : (Cond.methodLink RX1 84 yX1_stepOverWord : Cond) ∈ gtbl := mem_g (mem_t2 (List.mem_of_getElem? (i := 57) (by decide +kernel))) rfl
theorem k2_59 : (Cond.instanceMethod yX1_stepOverWord : Cond) ∈ gtbl := mem_g (mem_t2 (List.mem_of_getElem? (i := 59) (by decide +kernel))) rfl
theorem k2_60 : (Cond.code yX1_stepOverWord cX1_stepOverWord 6 none : Cond) ∈ gtbl := mem_g (mem_t2 (List.mem_of_getElem? (i := 60) rfl)) rfl
theorem k2_62 : (Cond.methodLink RX1 102 yJ0_length_8abf5 : Cond) ∈ gtbl := mem_g (mem_t2 (List.mem_of_getElem? (i := 62) (by decide +kernel))) rfl
theorem k2_63 : (Cond.methodLink RX1 106 yJ0_charAt_5068e : Cond) ∈ gtbl := mem_g (mem_t2 (List.mem_of_getElem? (i := 63) (by decide +kernel))) rfl
theorem k2_64 : (Cond.methodLink RX1 87 yX1_isDigit : Cond) ∈ gtbl := mem_g (mem_t2 (List.mem_of_getElem? (i := 64) (by decide +kernel))) rfl
theorem k2_65 : (Cond.static yX1_isDigit : Cond) ∈ gtbl := mem_g (mem_t2 (List.mem_of_getElem? (i := 65) (by decide +kernel))) rfl
theorem k2_66 : (Cond.code yX1_isDigit cX1_isDigit 1 (some FieldType.boolean) : Cond) ∈ gtbl := mem_g (mem_t2 (List.mem_of_getElem? (i := 66) rfl)) rfl
theorem k2_67 : (Cond.methodLink RX1 90 yX1_stepOverNumber : Cond) ∈ gtbl := mem_g (mem_t2 (List.mem_of_getElem? (i := 67) (by decide +kernel))) rfl
theorem k2_69 : (Cond.instanceMethod yX1_stepOverNumber : Cond) ∈ gtbl := mem_g (mem_t2 (List.mem_of_getElem? (i := 69) (by decide +kernel))) rfl
theorem k2_70 : (Cond.code yX1_stepOverNumber cX1_stepOverNumber 2 none : Cond) ∈ gtbl := mem_g (mem_t2 (List.mem_of_getElem? (i := 70) rfl)) rfl
theorem k2_72 : (Cond.methodLink RX1 95 yJ0_indexOf_0f7a4 : Cond) ∈ gtbl := mem_g (mem_t2 (List.mem_of_getElem? (i := 72) (by decide +kernel))) rfl
theorem k2_73 : (Cond.instanceMethod yJ0_indexOf_0f7a4 : Cond) ∈ gtbl := mem_g (mem_t2 (List.mem_of_getElem? (i := 73) (by decide +kernel))) rfl
theorem k2_74 : (Cond.selects "java/lang/String" yJ0_indexOf_0f7a4 yJ0_indexOf_0f7a4 : Cond) ∈ gtbl := mem_g (mem_t2 (List.mem_of_getElem? (i := 74) (by decide +kernel))) rfl
theorem k2_75 : (Cond.code yJ0_indexOf_0f7a4 cJ0_indexOf_0f7a4 2 (some FieldType.int) : Cond) ∈ gtbl := mem_g (mem_t2 (List.mem_of_getElem? (i := 75) rfl)) rfl
theorem k2_77 : (Cond.instanceMethod yJ0_indexOf_7cf53 : Cond) ∈ gtbl := mem_g (mem_t2 (List.mem_of_getElem? (i := 77) (by decide +kernel))) rfl
theorem k2_78 : (Cond.selects "java/lang/String" yJ0_indexOf_7cf53 yJ0_indexOf_7cf53 : Cond) ∈ gtbl := mem_g (mem_t2 (List.mem_of_getElem? (i := 78) (by decide +kernel))) rfl
theorem k2_79 : (Cond.code yJ0_indexOf_7cf53 cJ0_indexOf_7cf53 3 (some FieldType.int) : Cond) ∈ gtbl := mem_g (mem_t2 (List.mem_of_getElem? (i := 79) rfl)) rfl
theorem k2_82 : (Cond.static yJ1_indexOf_4cfef : Cond) ∈ gtbl := mem_g (mem_t2 (List.mem_of_getElem? (i := 82) (by decide +kernel))) rfl
theorem k2_83 : (Cond.code yJ1_indexOf_4cfef cJ1_indexOf_4cfef 4 (some FieldType.int) : Cond) ∈ gtbl := mem_g (mem_t2 (List.mem_of_getElem? (i := 83) rfl)) rfl
theorem k2_85 : (Cond.static yJ1_canEncode_9a6ad : Cond) ∈ gtbl := mem_g (mem_t2 (List.mem_of_getElem? (i := 85) (by decide +kernel))) rfl
theorem k2_86 : (Cond.code yJ1_canEncode_9a6ad cJ1_canEncode_9a6ad 1 (some FieldType.boolean) : Cond) ∈ gtbl := mem_g (mem_t2 (List.mem_of_getElem? (i := 86) rfl)) rfl
theorem k2_88 : (Cond.static yJ9_max_7cf53 : Cond) ∈ gtbl := mem_g (mem_t2 (List.mem_of_getElem? (i := 88) (by decide +kernel))) rfl
theorem k2_89 : (Cond.code yJ9_max_7cf53 cJ9_max_7cf53 2 (some FieldType.int) : Cond) ∈ gtbl := mem_g (mem_t2 (List.mem_of_getElem? (i := 89) rfl)) rfl
theorem k2_91 : (Cond.static yJ9_min_7cf53 : Cond) ∈ gtbl := mem_g (mem_t2 (List.mem_of_getElem? (i := 91) (by decide +kernel))) rfl
theorem k2_92 : (Cond.code yJ9_min_7cf53 cJ9_min_7cf53 2 (some FieldType.int) : Cond) ∈ gtbl := mem_g (mem_t2 (List.mem_of_getElem? (i := 92) rfl)) rfl
theorem k2_94 : (Cond.static yJ1_indexOfChar_4cfef : Cond) ∈ gtbl := mem_g (mem_t2 (List.mem_of_getElem? (i := 94) (by decide +kernel))) rfl
theorem k2_95 : (Cond.code yJ1_indexOfChar_4cfef cJ1_indexOfChar_4cfef 6 (some FieldType.int) : Cond) ∈ gtbl := mem_g (mem_t2 (List.mem_of_getElem? (i := 95) rfl)) rfl
theorem k2_97 : (Cond.static yJ2_indexOf_4cfef : Cond) ∈ gtbl := mem_g (mem_t2 (List.mem_of_getElem? (i := 97) (by decide +kernel))) rfl
theorem k2_98 : (Cond.code yJ2_indexOf_4cfef cJ2_indexOf_4cfef 4 (some FieldType.int) : Cond) ∈ gtbl := mem_g (mem_t2 (List.mem_of_getElem? (i := 98) rfl)) rfl
theorem k2_101 : (Cond.constant "java/lang/StringUTF16" 227 (65536 : Int32) : Cond) ∈ gtbl := mem_g (mem_t2 (List.mem_of_getElem? (i := 101) (by decide +kernel))) rfl
theorem k2_103 : (Cond.static yJ2_indexOfChar_4cfef : Cond) ∈ gtbl := mem_g (mem_t2 (List.mem_of_getElem? (i := 103) (by decide +kernel))) rfl
theorem k2_104 : (Cond.code yJ2_indexOfChar_4cfef cJ2_indexOfChar_4cfef 4 (some FieldType.int) : Cond) ∈ gtbl := mem_g (mem_t2 (List.mem_of_getElem? (i := 104) rfl)) rfl
theorem k2_106 : (Cond.static yJ2_checkBoundsBeginEnd_d044e : Cond) ∈ gtbl := mem_g (mem_t2 (List.mem_of_getElem? (i := 106) (by decide +kernel))) rfl
theorem k2_107 : (Cond.code yJ2_checkBoundsBeginEnd_d044e cJ2_checkBoundsBeginEnd_d044e 3 none : Cond) ∈ gtbl := mem_g (mem_t2 (List.mem_of_getElem? (i := 107) rfl)) rfl
theorem k2_109 : (Cond.static yJ0_checkBoundsBeginEnd_23922 : Cond) ∈ gtbl := mem_g (mem_t2 (List.mem_of_getElem? (i := 109) (by decide +kernel))) rfl
theorem k2_110 : (Cond.code yJ0_checkBoundsBeginEnd_23922 cJ0_checkBoundsBeginEnd_23922 3 none : Cond) ∈ gtbl := mem_g (mem_t2 (List.mem_of_getElem? (i := 110) rfl)) rfl
theorem k2_112 : (Cond.static yJ3_checkFromToIndex_8c36e : Cond) ∈ gtbl := mem_g (mem_t2 (List.mem_of_getElem? (i := 112) (by decide +kernel))) rfl
theorem k2_113 : (Cond.code yJ3_checkFromToIndex_8c36e cJ3_checkFromToIndex_8c36e 4 (some FieldType.int) : Cond) ∈ gtbl := mem_g (mem_t2 (List.mem_of_getElem? (i := 113) rfl)) rfl
theorem k2_115 : (Cond.static yJ2_indexOfCharUnsafe_4cfef : Cond) ∈ gtbl := mem_g (mem_t2 (List.mem_of_getElem? (i := 115) (by decide +kernel))) rfl
theorem k2_116 : (Cond.code yJ2_indexOfCharUnsafe_4cfef cJ2_indexOfCharUnsafe_4cfef 5 (some FieldType.int) : Cond) ∈ gtbl := mem_g (mem_t2 (List.mem_of_getElem? (i := 116) rfl)) rfl
theorem k2_118 : (Cond.static yJ2_indexOfSupplementary_4cfef : Cond) ∈ gtbl := mem_g (mem_t2 (List.mem_of_getElem? (i := 118) (by decide +kernel))) rfl
theorem k2_119 : (Cond.code yJ2_indexOfSupplementary_4cfef cJ2_indexOfSupplementary_4cfef 7 (some FieldType.int) : Cond) ∈ gtbl := mem_g (mem_t2 (List.mem_of_getElem? (i := 119) rfl)) rfl
theorem k2_121 : (Cond.static yJ11_isValidCodePoint_9a6ad : Cond) ∈ gtbl := mem_g (mem_t2 (List.mem_of_getElem? (i := 121) (by decide +kernel))) rfl
theorem k2_122 : (Cond.code yJ11_isValidCodePoint_9a6ad cJ11_isValidCodePoint_9a6ad 2 (some FieldType.boolean) : Cond) ∈ gtbl := mem_g (mem_t2 (List.mem_of_getElem? (i := 122) rfl)) rfl
theorem k2_124 : (Cond.static yJ11_highSurrogate_5068e : Cond) ∈ gtbl := mem_g (mem_t2 (List.mem_of_getElem? (i := 124) (by decide +kernel))) rfl
theorem k2_125 : (Cond.code yJ11_highSurrogate_5068e cJ11_highSurrogate_5068e 1 (some FieldType.char) : Cond) ∈ gtbl := mem_g (mem_t2 (List.mem_of_getElem? (i := 125) rfl)) rfl
theorem k2_126 : (Cond.constant "java/lang/Character" 110 (55232 : Int32) : Cond) ∈ gtbl := mem_g (mem_t2 (List.mem_of_getElem? (i := 126) (by decide +kernel))) rfl
theorem k2_128 : (Cond.static yJ11_lowSurrogate_5068e : Cond) ∈ gtbl := mem_g (mem_t2 (List.mem_of_getElem? (i := 128) (by decide +kernel))) rfl
theorem k2_129 : (Cond.code yJ11_lowSurrogate_5068e cJ11_lowSurrogate_5068e 1 (some FieldType.char) : Cond) ∈ gtbl := mem_g (mem_t2 (List.mem_of_getElem? (i := 129) rfl)) rfl
theorem k2_130 : (Cond.constant "java/lang/Character" 76 (56320 : Int32) : Cond) ∈ gtbl := mem_g (mem_t2 (List.mem_of_getElem? (i := 130) (by decide +kernel))) rfl
theorem k2_131 : (Cond.methodLink RX1 42 yX1_takes : Cond) ∈ gtbl := mem_g (mem_t2 (List.mem_of_getElem? (i := 131) (by decide +kernel))) rfl
theorem k2_133 : (Cond.instanceMethod yX1_takes : Cond) ∈ gtbl := mem_g (mem_t2 (List.mem_of_getElem? (i := 133) (by decide +kernel))) rfl
theorem k2_134 : (Cond.code yX1_takes cX1_takes 2 (some FieldType.boolean) : Cond) ∈ gtbl := mem_g (mem_t2 (List.mem_of_getElem? (i := 134) rfl)) rfl
theorem k2_135 : (Cond.methodLink RX1 46 yX1_any : Cond) ∈ gtbl := mem_g (mem_t2 (List.mem_of_getElem? (i := 135) (by decide +kernel))) rfl
theorem k2_137 : (Cond.instanceMethod yX1_any : Cond) ∈ gtbl := mem_g (mem_t2 (List.mem_of_getElem? (i := 137) (by decide +kernel))) rfl
theorem k2_138 : (Cond.code yX1_any cX1_any 3 (some FieldType.boolean) : Cond) ∈ gtbl := mem_g (mem_t2 (List.mem_of_getElem? (i := 138) rfl)) rfl
theorem k2_139 : (Cond.methodLink RX1 53 yX1_all : Cond) ∈ gtbl := mem_g (mem_t2 (List.mem_of_getElem? (i := 139) (by decide +kernel))) rfl
theorem k2_141 : (Cond.instanceMethod yX1_all : Cond) ∈ gtbl := mem_g (mem_t2 (List.mem_of_getElem? (i := 141) (by decide +kernel))) rfl
theorem k2_142 : (Cond.code yX1_all cX1_all 3 (some FieldType.boolean) : Cond) ∈ gtbl := mem_g (mem_t2 (List.mem_of_getElem? (i := 142) rfl)) rfl
theorem k2_143 : (Cond.methodLink RX1 59 yX1_truth : Cond) ∈ gtbl := mem_g (mem_t2 (List.mem_of_getElem? (i := 143) (by decide +kernel))) rfl
theorem k2_145 : (Cond.instanceMethod yX1_truth : Cond) ∈ gtbl := mem_g (mem_t2 (List.mem_of_getElem? (i := 145) (by decide +kernel))) rfl
theorem k2_146 : (Cond.code yX1_truth cX1_truth 3 (some FieldType.boolean) : Cond) ∈ gtbl := mem_g (mem_t2 (List.mem_of_getElem? (i := 146) rfl)) rfl
theorem k2_147 : (Cond.methodLink RX1 62 yX1_opens : Cond) ∈ gtbl := mem_g (mem_t2 (List.mem_of_getElem? (i := 147) (by decide +kernel))) rfl
theorem k2_149 : (Cond.instanceMethod yX1_opens : Cond) ∈ gtbl := mem_g (mem_t2 (List.mem_of_getElem? (i := 149) (by decide +kernel))) rfl
theorem k2_150 : (Cond.code yX1_opens cX1_opens 2 (some FieldType.boolean) : Cond) ∈ gtbl := mem_g (mem_t2 (List.mem_of_getElem? (i := 150) rfl)) rfl
theorem k2_151 : (Cond.methodLink RX1 56 yX6_add : Cond) ∈ gtbl := mem_g (mem_t2 (List.mem_of_getElem? (i := 151) (by decide +kernel))) rfl
theorem k2_152 : (Cond.instanceMethod yX6_add : Cond) ∈ gtbl := mem_g (mem_t2 (List.mem_of_getElem? (i := 152) (by decide +kernel))) rfl
theorem k2_153 : (Cond.selects RX6 yX6_add yX6_add : Cond) ∈ gtbl := mem_g (mem_t2 (List.mem_of_getElem? (i := 153) (by decide +kernel))) rfl
theorem k2_154 : (Cond.code yX6_add cX6_add 2 none : Cond) ∈ gtbl := mem_g (mem_t2 (List.mem_of_getElem? (i := 154) rfl)) rfl
theorem k2_155 : (Cond.methodLink RX1 65 yX1_sum : Cond) ∈ gtbl := mem_g (mem_t2 (List.mem_of_getElem? (i := 155) (by decide +kernel))) rfl
theorem k2_157 : (Cond.instanceMethod yX1_sum : Cond) ∈ gtbl := mem_g (mem_t2 (List.mem_of_getElem? (i := 157) (by decide +kernel))) rfl
theorem k2_158 : (Cond.code yX1_sum cX1_sum 4 (some FieldType.boolean) : Cond) ∈ gtbl := mem_g (mem_t2 (List.mem_of_getElem? (i := 158) rfl)) rfl
theorem k2_159 : (Cond.methodLink RX1 68 yX1_term : Cond) ∈ gtbl := mem_g (mem_t2 (List.mem_of_getElem? (i := 159) (by decide +kernel))) rfl
theorem k2_161 : (Cond.instanceMethod yX1_term : Cond) ∈ gtbl := mem_g (mem_t2 (List.mem_of_getElem? (i := 161) (by decide +kernel))) rfl
theorem k2_162 : (Cond.code yX1_term cX1_term 3 (some FieldType.boolean) : Cond) ∈ gtbl := mem_g (mem_t2 (List.mem_of_getElem? (i := 162) rfl)) rfl
theorem k2_163 : (Cond.methodLink RX1 71 yX1_one : Cond) ∈ gtbl := mem_g (mem_t2 (List.mem_of_getElem? (i := 163) (by decide +kernel))) rfl
theorem k2_165 : (Cond.instanceMethod yX1_one : Cond) ∈ gtbl := mem_g (mem_t2 (List.mem_of_getElem? (i := 165) (by decide +kernel))) rfl
theorem k2_166 : (Cond.code yX1_one cX1_one 2 (some FieldType.boolean) : Cond) ∈ gtbl := mem_g (mem_t2 (List.mem_of_getElem? (i := 166) rfl)) rfl
theorem k2_167 : (Cond.methodLink RX1 49 yX6_endPart : Cond) ∈ gtbl := mem_g (mem_t2 (List.mem_of_getElem? (i := 167) (by decide +kernel))) rfl
theorem k2_168 : (Cond.instanceMethod yX6_endPart : Cond) ∈ gtbl := mem_g (mem_t2 (List.mem_of_getElem? (i := 168) (by decide +kernel))) rfl
theorem k2_169 : (Cond.selects RX6 yX6_endPart yX6_endPart : Cond) ∈ gtbl := mem_g (mem_t2 (List.mem_of_getElem? (i := 169) (by decide +kernel))) rfl
theorem k2_170 : (Cond.code yX6_endPart cX6_endPart 2 none : Cond) ∈ gtbl := mem_g (mem_t2 (List.mem_of_getElem? (i := 170) rfl)) rfl
theorem k2_171 : (Cond.methodLink RX8 94 yX1_clear : Cond) ∈ gtbl := mem_g (mem_t2 (List.mem_of_getElem? (i := 171) (by decide +kernel))) rfl
theorem k2_172 : (Cond.instanceMethod yX1_clear : Cond) ∈ gtbl := mem_g (mem_t2 (List.mem_of_getElem? (i := 172) (by decide +kernel))) rfl
theorem k2_173 : (Cond.selects RX1 yX1_clear yX1_clear : Cond) ∈ gtbl := mem_g (mem_t2 (List.mem_of_getElem? (i := 173) (by decide +kernel))) rfl
theorem k2_174 : (Cond.code yX1_clear cX1_clear 1 none : Cond) ∈ gtbl := mem_g (mem_t2 (List.mem_of_getElem? (i := 174) rfl)) rfl
theorem k2_175 : (Cond.fieldLink RX8 10 "RingOfStraw" "ring" "LRingOfStraw$Stable;" : Cond) ∈ gtbl := mem_g (mem_t2 (List.mem_of_getElem? (i := 175) (by decide +kernel))) rfl
theorem k2_176 : (Cond.fieldLink RX8 16 "RingOfStraw" "thought" "LRingOfStraw$Stable;" : Cond) ∈ gtbl := mem_g (mem_t2 (List.mem_of_getElem? (i := 176) (by decide +kernel))) rfl
theorem k2_177 : (Cond.fieldLink RX8 19 "RingOfStraw" "kept" "LRingOfStraw$Stable;" : Cond) ∈ gtbl := mem_g (mem_t2 (List.mem_of_getElem? (i := 177) (by decide +kernel))) rfl
theorem k2_178 : (Cond.fieldLink RX8 25 "RingOfStraw" "guess" "LRingOfStraw$Wrestler;" : Cond) ∈ gtbl := mem_g (mem_t2 (List.mem_of_getElem? (i := 178) (by decide +kernel))) rfl
theorem k2_179 : (Cond.fieldLink RX8 32 "RingOfStraw" "reader" "LRingOfStraw$Reader;" : Cond) ∈ gtbl := mem_g (mem_t2 (List.mem_of_getElem? (i := 179) (by decide +kernel))) rfl
theorem k2_180 : (Cond.fieldLink RX8 38 "RingOfStraw" "texts" "[LRingOfStraw$Text;" : Cond) ∈ gtbl := mem_g (mem_t2 (List.mem_of_getElem? (i := 180) (by decide +kernel))) rfl
theorem k2_181 : (Cond.fieldLink RX8 44 "RingOfStraw" "sheets" "[LRingOfStraw$Sheet;" : Cond) ∈ gtbl := mem_g (mem_t2 (List.mem_of_getElem? (i := 181) (by decide +kernel))) rfl
theorem k2_182 : (Cond.fieldLink RX8 51 "RingOfStraw" "scale" "LRingOfStraw$Scale;" : Cond) ∈ gtbl := mem_g (mem_t2 (List.mem_of_getElem? (i := 182) (by decide +kernel))) rfl
theorem k2_183 : (Cond.fieldLink RX8 60 "RingOfStraw" "match" "LRingOfStraw$Match;" : Cond) ∈ gtbl := mem_g (mem_t2 (List.mem_of_getElem? (i := 183) (by decide +kernel))) rfl
theorem k2_184 : (Cond.fieldLink RX8 64 "RingOfStraw" "textCount" "I" : Cond) ∈ gtbl := mem_g (mem_t2 (List.mem_of_getElem? (i := 184) (by decide +kernel))) rfl
theorem k2_185 : (Cond.fieldLink RX8 68 "RingOfStraw" "isKept" "Z" : Cond) ∈ gtbl := mem_g (mem_t2 (List.mem_of_getElem? (i := 185) (by decide +kernel))) rfl
theorem k2_210 : (Cond.methodLink RL 13 yX8_count : Cond) ∈ gtbl := mem_g (mem_t2 (List.mem_of_getElem? (i := 210) (by decide +kernel))) rfl
theorem k2_211 : (Cond.instanceMethod yX8_count : Cond) ∈ gtbl := mem_g (mem_t2 (List.mem_of_getElem? (i := 211) (by decide +kernel))) rfl
theorem k2_212 : (Cond.selects RX8 yX8_count yX8_count : Cond) ∈ gtbl := mem_g (mem_t2 (List.mem_of_getElem? (i := 212) (by decide +kernel))) rfl
theorem k2_213 : (Cond.code yX8_count cX8_count 2 (some FieldType.int) : Cond) ∈ gtbl := mem_g (mem_t2 (List.mem_of_getElem? (i := 213) rfl)) rfl
theorem k2_214 : (Cond.methodLink RL 18 yX8_feed : Cond) ∈ gtbl := mem_g (mem_t2 (List.mem_of_getElem? (i := 214) (by decide +kernel))) rfl
theorem k2_215 : (Cond.instanceMethod yX8_feed : Cond) ∈ gtbl := mem_g (mem_t2 (List.mem_of_getElem? (i := 215) (by decide +kernel))) rfl
theorem k2_216 : (Cond.selects RX8 yX8_feed yX8_feed : Cond) ∈ gtbl := mem_g (mem_t2 (List.mem_of_getElem? (i := 216) (by decide +kernel))) rfl
theorem k2_217 : (Cond.code yX8_feed cX8_feed 8 (some FieldType.int) : Cond) ∈ gtbl := mem_g (mem_t2 (List.mem_of_getElem? (i := 217) rfl)) rfl
theorem k2_218 : (Cond.methodLink RX8 107 yX8_isByte : Cond) ∈ gtbl := mem_g (mem_t2 (List.mem_of_getElem? (i := 218) (by decide +kernel))) rfl
theorem k2_219 : (Cond.static yX8_isByte : Cond) ∈ gtbl := mem_g (mem_t2 (List.mem_of_getElem? (i := 219) (by decide +kernel))) rfl
theorem k2_220 : (Cond.code yX8_isByte cX8_isByte 1 (some FieldType.boolean) : Cond) ∈ gtbl := mem_g (mem_t2 (List.mem_of_getElem? (i := 220) rfl)) rfl
theorem k2_221 : (Cond.methodLink RL 23 yX8_text : Cond) ∈ gtbl := mem_g (mem_t2 (List.mem_of_getElem? (i := 221) (by decide +kernel))) rfl
theorem k2_222 : (Cond.instanceMethod yX8_text : Cond) ∈ gtbl := mem_g (mem_t2 (List.mem_of_getElem? (i := 222) (by decide +kernel))) rfl
theorem k2_223 : (Cond.selects RX8 yX8_text yX8_text : Cond) ∈ gtbl := mem_g (mem_t2 (List.mem_of_getElem? (i := 223) (by decide +kernel))) rfl
theorem k2_224 : (Cond.code yX8_text cX8_text 2 (some FieldType.int) : Cond) ∈ gtbl := mem_g (mem_t2 (List.mem_of_getElem? (i := 224) rfl)) rfl
theorem k2_225 : (Cond.methodLink RX8 111 yX8_textAt : Cond) ∈ gtbl := mem_g (mem_t2 (List.mem_of_getElem? (i := 225) (by decide +kernel))) rfl
theorem k2_227 : (Cond.instanceMethod yX8_textAt : Cond) ∈ gtbl := mem_g (mem_t2 (List.mem_of_getElem? (i := 227) (by decide +kernel))) rfl
theorem k2_228 : (Cond.code yX8_textAt cX8_textAt 2 (some (FieldType.object "RingOfStraw$Text")) : Cond) ∈ gtbl := mem_g (mem_t2 (List.mem_of_getElem? (i := 228) rfl)) rfl
theorem k2_229 : (Cond.methodLink RL 28 yX8_force : Cond) ∈ gtbl := mem_g (mem_t2 (List.mem_of_getElem? (i := 229) (by decide +kernel))) rfl
theorem k2_230 : (Cond.instanceMethod yX8_force : Cond) ∈ gtbl := mem_g (mem_t2 (List.mem_of_getElem? (i := 230) (by decide +kernel))) rfl
theorem k2_231 : (Cond.selects RX8 yX8_force yX8_force : Cond) ∈ gtbl := mem_g (mem_t2 (List.mem_of_getElem? (i := 231) (by decide +kernel))) rfl
theorem k2_232 : (Cond.code yX8_force cX8_force 3 (some FieldType.int) : Cond) ∈ gtbl := mem_g (mem_t2 (List.mem_of_getElem? (i := 232) rfl)) rfl
theorem k2_233 : (Cond.methodLink RL 32 yX8_asks : Cond) ∈ gtbl := mem_g (mem_t2 (List.mem_of_getElem? (i := 233) (by decide +kernel))) rfl
theorem k2_234 : (Cond.instanceMethod yX8_asks : Cond) ∈ gtbl := mem_g (mem_t2 (List.mem_of_getElem? (i := 234) (by decide +kernel))) rfl
theorem k2_235 : (Cond.selects RX8 yX8_asks yX8_asks : Cond) ∈ gtbl := mem_g (mem_t2 (List.mem_of_getElem? (i := 235) (by decide +kernel))) rfl
theorem k2_236 : (Cond.code yX8_asks cX8_asks 7 (some FieldType.int) : Cond) ∈ gtbl := mem_g (mem_t2 (List.mem_of_getElem? (i := 236) rfl)) rfl
theorem k2_237 : (Cond.methodLink RX8 115 yX5_has : Cond) ∈ gtbl := mem_g (mem_t2 (List.mem_of_getElem? (i := 237) (by decide +kernel))) rfl
theorem k2_238 : (Cond.instanceMethod yX5_has : Cond) ∈ gtbl := mem_g (mem_t2 (List.mem_of_getElem? (i := 238) (by decide +kernel))) rfl
theorem k2_239 : (Cond.selects RX5 yX5_has yX5_has : Cond) ∈ gtbl := mem_g (mem_t2 (List.mem_of_getElem? (i := 239) (by decide +kernel))) rfl
theorem k3_0 : (Cond.code yX5_has cX5_has 2 (some FieldType.boolean) : Cond) ∈ gtbl := mem_g (mem_t3 (List.mem_of_getElem? (i := 0) rfl)) rfl
theorem k3_1 : (Cond.methodLink RX8 118 yX8_theLaw : Cond) ∈ gtbl := mem_g (mem_t3 (List.mem_of_getElem? (i := 1) (by decide +kernel))) rfl
theorem k3_3 : (Cond.instanceMethod yX8_theLaw : Cond) ∈ gtbl := mem_g (mem_t3 (List.mem_of_getElem? (i := 3) (by decide +kernel))) rfl
theorem k3_4 : (Cond.code yX8_theLaw cX8_theLaw 1 (some (FieldType.object "RingOfStraw$Text")) : Cond) ∈ gtbl := mem_g (mem_t3 (List.mem_of_getElem? (i := 4) rfl)) rfl
theorem k3_5 : (Cond.methodLink RX8 122 yX5_at : Cond) ∈ gtbl := mem_g (mem_t3 (List.mem_of_getElem? (i := 5) (by decide +kernel))) rfl
theorem k3_6 : (Cond.instanceMethod yX5_at : Cond) ∈ gtbl := mem_g (mem_t3 (List.mem_of_getElem? (i := 6) (by decide +kernel))) rfl
theorem k3_7 : (Cond.selects RX5 yX5_at yX5_at : Cond) ∈ gtbl := mem_g (mem_t3 (List.mem_of_getElem? (i := 7) (by decide +kernel))) rfl
theorem k3_8 : (Cond.code yX5_at cX5_at 2 (some (FieldType.object "RingOfStraw$Wrestler")) : Cond) ∈ gtbl := mem_g (mem_t3 (List.mem_of_getElem? (i := 8) rfl)) rfl
theorem k3_9 : (Cond.methodLink RX8 126 yX2_says : Cond) ∈ gtbl := mem_g (mem_t3 (List.mem_of_getElem? (i := 9) (by decide +kernel))) rfl
theorem k3_10 : (Cond.instanceMethod yX2_says : Cond) ∈ gtbl := mem_g (mem_t3 (List.mem_of_getElem? (i := 10) (by decide +kernel))) rfl
theorem k3_11 : (Cond.selects RX2 yX2_says yX2_says : Cond) ∈ gtbl := mem_g (mem_t3 (List.mem_of_getElem? (i := 11) (by decide +kernel))) rfl
theorem k3_12 : (Cond.code yX2_says cX2_says 11 (some FieldType.int) : Cond) ∈ gtbl := mem_g (mem_t3 (List.mem_of_getElem? (i := 12) rfl)) rfl
theorem k3_13 : (Cond.fieldLink RX2 15 "RingOfStraw$Scale" "LEAST" "[I" : Cond) ∈ gtbl := mem_g (mem_t3 (List.mem_of_getElem? (i := 13) (by decide +kernel))) rfl
theorem k3_15 : (Cond.fieldLink RX2 18 "RingOfStraw$Scale" "MOST" "[I" : Cond) ∈ gtbl := mem_g (mem_t3 (List.mem_of_getElem? (i := 15) (by decide +kernel))) rfl
theorem k3_17 : (Cond.methodLink RX2 21 yX6_endOf : Cond) ∈ gtbl := mem_g (mem_t3 (List.mem_of_getElem? (i := 17) (by decide +kernel))) rfl
theorem k3_18 : (Cond.instanceMethod yX6_endOf : Cond) ∈ gtbl := mem_g (mem_t3 (List.mem_of_getElem? (i := 18) (by decide +kernel))) rfl
theorem k3_19 : (Cond.selects RX6 yX6_endOf yX6_endOf : Cond) ∈ gtbl := mem_g (mem_t3 (List.mem_of_getElem? (i := 19) (by decide +kernel))) rfl
theorem k3_20 : (Cond.code yX6_endOf cX6_endOf 2 (some FieldType.int) : Cond) ∈ gtbl := mem_g (mem_t3 (List.mem_of_getElem? (i := 20) rfl)) rfl
theorem k3_21 : (Cond.methodLink RX2 30 yJ9_min_7cf53 : Cond) ∈ gtbl := mem_g (mem_t3 (List.mem_of_getElem? (i := 21) (by decide +kernel))) rfl
theorem k3_22 : (Cond.methodLink RX2 36 yX2_isName : Cond) ∈ gtbl := mem_g (mem_t3 (List.mem_of_getElem? (i := 22) (by decide +kernel))) rfl
theorem k3_23 : (Cond.static yX2_isName : Cond) ∈ gtbl := mem_g (mem_t3 (List.mem_of_getElem? (i := 23) (by decide +kernel))) rfl
theorem k3_24 : (Cond.code yX2_isName cX2_isName 1 (some FieldType.boolean) : Cond) ∈ gtbl := mem_g (mem_t3 (List.mem_of_getElem? (i := 24) rfl)) rfl
theorem k3_25 : (Cond.methodLink RX2 40 yX2_named : Cond) ∈ gtbl := mem_g (mem_t3 (List.mem_of_getElem? (i := 25) (by decide +kernel))) rfl
theorem k3_26 : (Cond.static yX2_named : Cond) ∈ gtbl := mem_g (mem_t3 (List.mem_of_getElem? (i := 26) (by decide +kernel))) rfl
theorem k3_27 : (Cond.code yX2_named cX2_named 5 (some FieldType.int) : Cond) ∈ gtbl := mem_g (mem_t3 (List.mem_of_getElem? (i := 27) rfl)) rfl
theorem k3_28 : (Cond.methodLink RX2 46 yX2_turned : Cond) ∈ gtbl := mem_g (mem_t3 (List.mem_of_getElem? (i := 28) (by decide +kernel))) rfl
theorem k3_29 : (Cond.static yX2_turned : Cond) ∈ gtbl := mem_g (mem_t3 (List.mem_of_getElem? (i := 29) (by decide +kernel))) rfl
theorem k3_30 : (Cond.code yX2_turned cX2_turned 2 (some FieldType.int) : Cond) ∈ gtbl := mem_g (mem_t3 (List.mem_of_getElem? (i := 30) rfl)) rfl
theorem k3_31 : (Cond.methodLink RX2 49 yX2_joined : Cond) ∈ gtbl := mem_g (mem_t3 (List.mem_of_getElem? (i := 31) (by decide +kernel))) rfl
theorem k3_32 : (Cond.static yX2_joined : Cond) ∈ gtbl := mem_g (mem_t3 (List.mem_of_getElem? (i := 32) (by decide +kernel))) rfl
theorem k3_33 : (Cond.code yX2_joined cX2_joined 3 (some FieldType.int) : Cond) ∈ gtbl := mem_g (mem_t3 (List.mem_of_getElem? (i := 33) rfl)) rfl
theorem k3_35 : (Cond.static yX8_within : Cond) ∈ gtbl := mem_g (mem_t3 (List.mem_of_getElem? (i := 35) (by decide +kernel))) rfl
theorem k3_36 : (Cond.code yX8_within cX8_within 3 (some FieldType.int) : Cond) ∈ gtbl := mem_g (mem_t3 (List.mem_of_getElem? (i := 36) rfl)) rfl
theorem k3_37 : (Cond.methodLink RX8 290 yJ9_min_7cf53 : Cond) ∈ gtbl := mem_g (mem_t3 (List.mem_of_getElem? (i := 37) (by decide +kernel))) rfl
theorem k3_38 : (Cond.methodLink RX8 307 yJ9_max_7cf53 : Cond) ∈ gtbl := mem_g (mem_t3 (List.mem_of_getElem? (i := 38) (by decide +kernel))) rfl
theorem k3_39 : (Cond.methodLink RL 37 yX8_man : Cond) ∈ gtbl := mem_g (mem_t3 (List.mem_of_getElem? (i := 39) (by decide +kernel))) rfl
theorem k3_40 : (Cond.instanceMethod yX8_man : Cond) ∈ gtbl := mem_g (mem_t3 (List.mem_of_getElem? (i := 40) (by decide +kernel))) rfl
theorem k3_41 : (Cond.selects RX8 yX8_man yX8_man : Cond) ∈ gtbl := mem_g (mem_t3 (List.mem_of_getElem? (i := 41) (by decide +kernel))) rfl
theorem k3_42 : (Cond.code yX8_man cX8_man 4 (some FieldType.int) : Cond) ∈ gtbl := mem_g (mem_t3 (List.mem_of_getElem? (i := 42) rfl)) rfl
theorem k3_43 : (Cond.methodLink RX8 130 yX7_comes : Cond) ∈ gtbl := mem_g (mem_t3 (List.mem_of_getElem? (i := 43) (by decide +kernel))) rfl
theorem k3_44 : (Cond.instanceMethod yX7_comes : Cond) ∈ gtbl := mem_g (mem_t3 (List.mem_of_getElem? (i := 44) (by decide +kernel))) rfl
theorem k3_45 : (Cond.selects RX7 yX7_comes yX7_comes : Cond) ∈ gtbl := mem_g (mem_t3 (List.mem_of_getElem? (i := 45) (by decide +kernel))) rfl
theorem k3_46 : (Cond.code yX7_comes cX7_comes 5 none : Cond) ∈ gtbl := mem_g (mem_t3 (List.mem_of_getElem? (i := 46) rfl)) rfl
theorem k3_47 : (Cond.methodLink RL 42 yX8_put : Cond) ∈ gtbl := mem_g (mem_t3 (List.mem_of_getElem? (i := 47) (by decide +kernel))) rfl
theorem k3_48 : (Cond.instanceMethod yX8_put : Cond) ∈ gtbl := mem_g (mem_t3 (List.mem_of_getElem? (i := 48) (by decide +kernel))) rfl
theorem k3_49 : (Cond.selects RX8 yX8_put yX8_put : Cond) ∈ gtbl := mem_g (mem_t3 (List.mem_of_getElem? (i := 49) (by decide +kernel))) rfl
theorem k3_50 : (Cond.code yX8_put cX8_put 6 (some FieldType.int) : Cond) ∈ gtbl := mem_g (mem_t3 (List.mem_of_getElem? (i := 50) rfl)) rfl
theorem k3_51 : (Cond.methodLink RX8 134 yX7_tells : Cond) ∈ gtbl := mem_g (mem_t3 (List.mem_of_getElem? (i := 51) (by decide +kernel))) rfl
theorem k3_52 : (Cond.instanceMethod yX7_tells : Cond) ∈ gtbl := mem_g (mem_t3 (List.mem_of_getElem? (i := 52) (by decide +kernel))) rfl
theorem k3_53 : (Cond.selects RX7 yX7_tells yX7_tells : Cond) ∈ gtbl := mem_g (mem_t3 (List.mem_of_getElem? (i := 53) (by decide +kernel))) rfl
theorem k3_54 : (Cond.code yX7_tells cX7_tells 2 (some FieldType.int) : Cond) ∈ gtbl := mem_g (mem_t3 (List.mem_of_getElem? (i := 54) rfl)) rfl
theorem k3_55 : (Cond.methodLink RX8 138 yX7_becomes : Cond) ∈ gtbl := mem_g (mem_t3 (List.mem_of_getElem? (i := 55) (by decide +kernel))) rfl
theorem k3_56 : (Cond.instanceMethod yX7_becomes : Cond) ∈ gtbl := mem_g (mem_t3 (List.mem_of_getElem? (i := 56) (by decide +kernel))) rfl
theorem k3_57 : (Cond.selects RX7 yX7_becomes yX7_becomes : Cond) ∈ gtbl := mem_g (mem_t3 (List.mem_of_getElem? (i := 57) (by decide +kernel))) rfl
theorem k3_58 : (Cond.code yX7_becomes cX7_becomes 3 none : Cond) ∈ gtbl := mem_g (mem_t3 (List.mem_of_getElem? (i := 58) rfl)) rfl
theorem k3_59 : (Cond.methodLink RL 47 yX8_told : Cond) ∈ gtbl := mem_g (mem_t3 (List.mem_of_getElem? (i := 59) (by decide +kernel))) rfl
theorem k3_60 : (Cond.instanceMethod yX8_told : Cond) ∈ gtbl := mem_g (mem_t3 (List.mem_of_getElem? (i := 60) (by decide +kernel))) rfl
theorem k3_61 : (Cond.selects RX8 yX8_told yX8_told : Cond) ∈ gtbl := mem_g (mem_t3 (List.mem_of_getElem? (i := 61) (by decide +kernel))) rfl
theorem k3_62 : (Cond.code yX8_told cX8_told 3 (some FieldType.int) : Cond) ∈ gtbl := mem_g (mem_t3 (List.mem_of_getElem? (i := 62) rfl)) rfl
theorem k3_63 : (Cond.methodLink RL 51 yX8_bout : Cond) ∈ gtbl := mem_g (mem_t3 (List.mem_of_getElem? (i := 63) (by decide +kernel))) rfl
theorem k3_64 : (Cond.instanceMethod yX8_bout : Cond) ∈ gtbl := mem_g (mem_t3 (List.mem_of_getElem? (i := 64) (by decide +kernel))) rfl
theorem k3_65 : (Cond.selects RX8 yX8_bout yX8_bout : Cond) ∈ gtbl := mem_g (mem_t3 (List.mem_of_getElem? (i := 65) (by decide +kernel))) rfl
theorem k3_66 : (Cond.code yX8_bout cX8_bout 6 (some FieldType.int) : Cond) ∈ gtbl := mem_g (mem_t3 (List.mem_of_getElem? (i := 66) rfl)) rfl
theorem k3_67 : (Cond.methodLink RX8 142 yX8_isPair : Cond) ∈ gtbl := mem_g (mem_t3 (List.mem_of_getElem? (i := 67) (by decide +kernel))) rfl
theorem k3_69 : (Cond.instanceMethod yX8_isPair : Cond) ∈ gtbl := mem_g (mem_t3 (List.mem_of_getElem? (i := 69) (by decide +kernel))) rfl
theorem k3_70 : (Cond.code yX8_isPair cX8_isPair 2 (some FieldType.boolean) : Cond) ∈ gtbl := mem_g (mem_t3 (List.mem_of_getElem? (i := 70) rfl)) rfl
theorem k3_71 : (Cond.methodLink RX8 172 yX8_areTwo : Cond) ∈ gtbl := mem_g (mem_t3 (List.mem_of_getElem? (i := 71) (by decide +kernel))) rfl
theorem k3_73 : (Cond.instanceMethod yX8_areTwo : Cond) ∈ gtbl := mem_g (mem_t3 (List.mem_of_getElem? (i := 73) (by decide +kernel))) rfl
theorem k3_74 : (Cond.code yX8_areTwo cX8_areTwo 3 (some FieldType.boolean) : Cond) ∈ gtbl := mem_g (mem_t3 (List.mem_of_getElem? (i := 74) rfl)) rfl
theorem k3_75 : (Cond.methodLink RX8 145 yX8_arePlans : Cond) ∈ gtbl := mem_g (mem_t3 (List.mem_of_getElem? (i := 75) (by decide +kernel))) rfl
theorem k3_76 : (Cond.static yX8_arePlans : Cond) ∈ gtbl := mem_g (mem_t3 (List.mem_of_getElem? (i := 76) (by decide +kernel))) rfl
theorem k3_77 : (Cond.code yX8_arePlans cX8_arePlans 2 (some FieldType.boolean) : Cond) ∈ gtbl := mem_g (mem_t3 (List.mem_of_getElem? (i := 77) rfl)) rfl
theorem k3_78 : (Cond.methodLink RX8 179 yX8_isPlan : Cond) ∈ gtbl := mem_g (mem_t3 (List.mem_of_getElem? (i := 78) (by decide +kernel))) rfl
theorem k3_79 : (Cond.static yX8_isPlan : Cond) ∈ gtbl := mem_g (mem_t3 (List.mem_of_getElem? (i := 79) (by decide +kernel))) rfl
theorem k3_80 : (Cond.code yX8_isPlan cX8_isPlan 1 (some FieldType.boolean) : Cond) ∈ gtbl := mem_g (mem_t3 (List.mem_of_getElem? (i := 80) rfl)) rfl
theorem k3_81 : (Cond.constant RX8 287 (262143 : Int32) : Cond) ∈ gtbl := mem_g (mem_t3 (List.mem_of_getElem? (i := 81) (by decide +kernel))) rfl
theorem k3_82 : (Cond.methodLink RX8 149 yX8_theOne : Cond) ∈ gtbl := mem_g (mem_t3 (List.mem_of_getElem? (i := 82) (by decide +kernel))) rfl
theorem k3_84 : (Cond.instanceMethod yX8_theOne : Cond) ∈ gtbl := mem_g (mem_t3 (List.mem_of_getElem? (i := 84) (by decide +kernel))) rfl
theorem k3_85 : (Cond.code yX8_theOne cX8_theOne 2 (some (FieldType.object "RingOfStraw$Wrestler")) : Cond) ∈ gtbl := mem_g (mem_t3 (List.mem_of_getElem? (i := 85) rfl)) rfl
theorem k3_86 : (Cond.methodLink RX8 152 yX8_theOther : Cond) ∈ gtbl := mem_g (mem_t3 (List.mem_of_getElem? (i := 86) (by decide +kernel))) rfl
theorem k3_88 : (Cond.instanceMethod yX8_theOther : Cond) ∈ gtbl := mem_g (mem_t3 (List.mem_of_getElem? (i := 88) (by decide +kernel))) rfl
theorem k3_89 : (Cond.code yX8_theOther cX8_theOther 2 (some (FieldType.object "RingOfStraw$Wrestler")) : Cond) ∈ gtbl := mem_g (mem_t3 (List.mem_of_getElem? (i := 89) rfl)) rfl
theorem k3_90 : (Cond.methodLink RX8 155 yX0_pair : Cond) ∈ gtbl := mem_g (mem_t3 (List.mem_of_getElem? (i := 90) (by decide +kernel))) rfl
theorem k3_91 : (Cond.instanceMethod yX0_pair : Cond) ∈ gtbl := mem_g (mem_t3 (List.mem_of_getElem? (i := 91) (by decide +kernel))) rfl
theorem k3_92 : (Cond.selects RX0 yX0_pair yX0_pair : Cond) ∈ gtbl := mem_g (mem_t3 (List.mem_of_getElem? (i := 92) (by decide +kernel))) rfl
theorem k3_93 : (Cond.code yX0_pair cX0_pair 5 none : Cond) ∈ gtbl := mem_g (mem_t3 (List.mem_of_getElem? (i := 93) rfl)) rfl
theorem k3_94 : (Cond.methodLink RX0 37 yX4_enters : Cond) ∈ gtbl := mem_g (mem_t3 (List.mem_of_getElem? (i := 94) (by decide +kernel))) rfl
theorem k3_95 : (Cond.instanceMethod yX4_enters : Cond) ∈ gtbl := mem_g (mem_t3 (List.mem_of_getElem? (i := 95) (by decide +kernel))) rfl
theorem k3_96 : (Cond.selects RX4 yX4_enters yX4_enters : Cond) ∈ gtbl := mem_g (mem_t3 (List.mem_of_getElem? (i := 96) (by decide +kernel))) rfl
theorem k3_97 : (Cond.code yX4_enters cX4_enters 3 (some FieldType.int) : Cond) ∈ gtbl := mem_g (mem_t3 (List.mem_of_getElem? (i := 97) rfl)) rfl
theorem k3_98 : (Cond.methodLink RX4 40 yJ7_fill_53178 : Cond) ∈ gtbl := mem_g (mem_t3 (List.mem_of_getElem? (i := 98) (by decide +kernel))) rfl
theorem k3_99 : (Cond.static yJ7_fill_53178 : Cond) ∈ gtbl := mem_g (mem_t3 (List.mem_of_getElem? (i := 99) (by decide +kernel))) rfl
theorem k3_100 : (Cond.code yJ7_fill_53178 cJ7_fill_53178 4 none : Cond) ∈ gtbl := mem_g (mem_t3 (List.mem_of_getElem? (i := 100) rfl)) rfl
theorem k3_101 : (Cond.methodLink RX4 46 yX2_says : Cond) ∈ gtbl := mem_g (mem_t3 (List.mem_of_getElem? (i := 101) (by decide +kernel))) rfl
theorem k3_102 : (Cond.methodLink RX4 52 yX7_standing : Cond) ∈ gtbl := mem_g (mem_t3 (List.mem_of_getElem? (i := 102) (by decide +kernel))) rfl
theorem k3_103 : (Cond.instanceMethod yX7_standing : Cond) ∈ gtbl := mem_g (mem_t3 (List.mem_of_getElem? (i := 103) (by decide +kernel))) rfl
theorem k3_104 : (Cond.selects RX7 yX7_standing yX7_standing : Cond) ∈ gtbl := mem_g (mem_t3 (List.mem_of_getElem? (i := 104) (by decide +kernel))) rfl
theorem k3_105 : (Cond.code yX7_standing cX7_standing 3 (some FieldType.int) : Cond) ∈ gtbl := mem_g (mem_t3 (List.mem_of_getElem? (i := 105) rfl)) rfl
theorem k3_106 : (Cond.methodLink RX7 41 yX7_isOf : Cond) ∈ gtbl := mem_g (mem_t3 (List.mem_of_getElem? (i := 106) (by decide +kernel))) rfl
theorem k3_107 : (Cond.instanceMethod yX7_isOf : Cond) ∈ gtbl := mem_g (mem_t3 (List.mem_of_getElem? (i := 107) (by decide +kernel))) rfl
theorem k3_108 : (Cond.selects RX7 yX7_isOf yX7_isOf : Cond) ∈ gtbl := mem_g (mem_t3 (List.mem_of_getElem? (i := 108) (by decide +kernel))) rfl
theorem k3_109 : (Cond.code yX7_isOf cX7_isOf 2 (some FieldType.boolean) : Cond) ∈ gtbl := mem_g (mem_t3 (List.mem_of_getElem? (i := 109) rfl)) rfl
theorem k3_111 : (Cond.methodLink RX4 55 yX7_starts : Cond) ∈ gtbl := mem_g (mem_t3 (List.mem_of_getElem? (i := 111) (by decide +kernel))) rfl
theorem k3_112 : (Cond.instanceMethod yX7_starts : Cond) ∈ gtbl := mem_g (mem_t3 (List.mem_of_getElem? (i := 112) (by decide +kernel))) rfl
theorem k3_113 : (Cond.selects RX7 yX7_starts yX7_starts : Cond) ∈ gtbl := mem_g (mem_t3 (List.mem_of_getElem? (i := 113) (by decide +kernel))) rfl
theorem k3_114 : (Cond.code yX7_starts cX7_starts 2 (some FieldType.int) : Cond) ∈ gtbl := mem_g (mem_t3 (List.mem_of_getElem? (i := 114) rfl)) rfl
theorem k3_115 : (Cond.methodLink RX7 49 yJ9_min_7cf53 : Cond) ∈ gtbl := mem_g (mem_t3 (List.mem_of_getElem? (i := 115) (by decide +kernel))) rfl
theorem k3_117 : (Cond.methodLink RX8 159 yX0_goThrough : Cond) ∈ gtbl := mem_g (mem_t3 (List.mem_of_getElem? (i := 117) (by decide +kernel))) rfl
theorem k3_118 : (Cond.instanceMethod yX0_goThrough : Cond) ∈ gtbl := mem_g (mem_t3 (List.mem_of_getElem? (i := 118) (by decide +kernel))) rfl
theorem k3_119 : (Cond.selects RX0 yX0_goThrough yX0_goThrough : Cond) ∈ gtbl := mem_g (mem_t3 (List.mem_of_getElem? (i := 119) (by decide +kernel))) rfl
theorem k3_120 : (Cond.code yX0_goThrough cX0_goThrough 9 none : Cond) ∈ gtbl := mem_g (mem_t3 (List.mem_of_getElem? (i := 120) rfl)) rfl
theorem k3_121 : (Cond.methodLink RX0 45 yX4_begins : Cond) ∈ gtbl := mem_g (mem_t3 (List.mem_of_getElem? (i := 121) (by decide +kernel))) rfl
theorem k3_122 : (Cond.instanceMethod yX4_begins : Cond) ∈ gtbl := mem_g (mem_t3 (List.mem_of_getElem? (i := 122) (by decide +kernel))) rfl
theorem k3_123 : (Cond.selects RX4 yX4_begins yX4_begins : Cond) ∈ gtbl := mem_g (mem_t3 (List.mem_of_getElem? (i := 123) (by decide +kernel))) rfl
theorem k3_124 : (Cond.code yX4_begins cX4_begins 1 none : Cond) ∈ gtbl := mem_g (mem_t3 (List.mem_of_getElem? (i := 124) rfl)) rfl
theorem k3_126 : (Cond.static yX8_actIn : Cond) ∈ gtbl := mem_g (mem_t3 (List.mem_of_getElem? (i := 126) (by decide +kernel))) rfl
theorem k3_127 : (Cond.code yX8_actIn cX8_actIn 2 (some FieldType.int) : Cond) ∈ gtbl := mem_g (mem_t3 (List.mem_of_getElem? (i := 127) rfl)) rfl
theorem k3_128 : (Cond.methodLink RX0 52 yX4_strength : Cond) ∈ gtbl := mem_g (mem_t3 (List.mem_of_getElem? (i := 128) (by decide +kernel))) rfl
theorem k3_129 : (Cond.instanceMethod yX4_strength : Cond) ∈ gtbl := mem_g (mem_t3 (List.mem_of_getElem? (i := 129) (by decide +kernel))) rfl
theorem k3_130 : (Cond.selects RX4 yX4_strength yX4_strength : Cond) ∈ gtbl := mem_g (mem_t3 (List.mem_of_getElem? (i := 130) (by decide +kernel))) rfl
theorem k3_131 : (Cond.code yX4_strength cX4_strength 6 (some FieldType.int) : Cond) ∈ gtbl := mem_g (mem_t3 (List.mem_of_getElem? (i := 131) rfl)) rfl
theorem k3_132 : (Cond.methodLink RX4 58 yX7_forces : Cond) ∈ gtbl := mem_g (mem_t3 (List.mem_of_getElem? (i := 132) (by decide +kernel))) rfl
theorem k3_133 : (Cond.instanceMethod yX7_forces : Cond) ∈ gtbl := mem_g (mem_t3 (List.mem_of_getElem? (i := 133) (by decide +kernel))) rfl
theorem k3_134 : (Cond.selects RX7 yX7_forces yX7_forces : Cond) ∈ gtbl := mem_g (mem_t3 (List.mem_of_getElem? (i := 134) (by decide +kernel))) rfl
theorem k3_135 : (Cond.code yX7_forces cX7_forces 5 (some FieldType.int) : Cond) ∈ gtbl := mem_g (mem_t3 (List.mem_of_getElem? (i := 135) rfl)) rfl
theorem k3_136 : (Cond.methodLink RX7 37 yX7_pushes : Cond) ∈ gtbl := mem_g (mem_t3 (List.mem_of_getElem? (i := 136) (by decide +kernel))) rfl
theorem k3_138 : (Cond.instanceMethod yX7_pushes : Cond) ∈ gtbl := mem_g (mem_t3 (List.mem_of_getElem? (i := 138) (by decide +kernel))) rfl
theorem k3_139 : (Cond.code yX7_pushes cX7_pushes 3 (some FieldType.int) : Cond) ∈ gtbl := mem_g (mem_t3 (List.mem_of_getElem? (i := 139) rfl)) rfl
theorem k3_140 : (Cond.methodLink RX4 65 yJ9_max_7cf53 : Cond) ∈ gtbl := mem_g (mem_t3 (List.mem_of_getElem? (i := 140) (by decide +kernel))) rfl
theorem k3_141 : (Cond.methodLink RX0 55 yX0_stepsFor : Cond) ∈ gtbl := mem_g (mem_t3 (List.mem_of_getElem? (i := 141) (by decide +kernel))) rfl
theorem k3_142 : (Cond.static yX0_stepsFor : Cond) ∈ gtbl := mem_g (mem_t3 (List.mem_of_getElem? (i := 142) (by decide +kernel))) rfl
theorem k3_143 : (Cond.code yX0_stepsFor cX0_stepsFor 2 (some FieldType.int) : Cond) ∈ gtbl := mem_g (mem_t3 (List.mem_of_getElem? (i := 143) rfl)) rfl
theorem k3_144 : (Cond.methodLink RX0 62 yJ9_abs_0f7a4 : Cond) ∈ gtbl := mem_g (mem_t3 (List.mem_of_getElem? (i := 144) (by decide +kernel))) rfl
theorem k3_145 : (Cond.static yJ9_abs_0f7a4 : Cond) ∈ gtbl := mem_g (mem_t3 (List.mem_of_getElem? (i := 145) (by decide +kernel))) rfl
theorem k3_146 : (Cond.code yJ9_abs_0f7a4 cJ9_abs_0f7a4 1 (some FieldType.int) : Cond) ∈ gtbl := mem_g (mem_t3 (List.mem_of_getElem? (i := 146) rfl)) rfl
theorem k3_147 : (Cond.methodLink RX0 59 yX0_cellAtLast : Cond) ∈ gtbl := mem_g (mem_t3 (List.mem_of_getElem? (i := 147) (by decide +kernel))) rfl
theorem k3_149 : (Cond.instanceMethod yX0_cellAtLast : Cond) ∈ gtbl := mem_g (mem_t3 (List.mem_of_getElem? (i := 149) (by decide +kernel))) rfl
theorem k3_150 : (Cond.code yX0_cellAtLast cX0_cellAtLast 2 (some FieldType.int) : Cond) ∈ gtbl := mem_g (mem_t3 (List.mem_of_getElem? (i := 150) rfl)) rfl
theorem k3_151 : (Cond.methodLink RX0 67 yX4_stands : Cond) ∈ gtbl := mem_g (mem_t3 (List.mem_of_getElem? (i := 151) (by decide +kernel))) rfl
theorem k3_152 : (Cond.instanceMethod yX4_stands : Cond) ∈ gtbl := mem_g (mem_t3 (List.mem_of_getElem? (i := 152) (by decide +kernel))) rfl
theorem k3_153 : (Cond.selects RX4 yX4_stands yX4_stands : Cond) ∈ gtbl := mem_g (mem_t3 (List.mem_of_getElem? (i := 153) (by decide +kernel))) rfl
theorem k3_154 : (Cond.code yX4_stands cX4_stands 1 (some FieldType.boolean) : Cond) ∈ gtbl := mem_g (mem_t3 (List.mem_of_getElem? (i := 154) rfl)) rfl
theorem k3_155 : (Cond.methodLink RX8 162 yX0_cellBehind : Cond) ∈ gtbl := mem_g (mem_t3 (List.mem_of_getElem? (i := 155) (by decide +kernel))) rfl
theorem k3_156 : (Cond.instanceMethod yX0_cellBehind : Cond) ∈ gtbl := mem_g (mem_t3 (List.mem_of_getElem? (i := 156) (by decide +kernel))) rfl
theorem k3_157 : (Cond.selects RX0 yX0_cellBehind yX0_cellBehind : Cond) ∈ gtbl := mem_g (mem_t3 (List.mem_of_getElem? (i := 157) (by decide +kernel))) rfl
theorem k3_158 : (Cond.code yX0_cellBehind cX0_cellBehind 2 (some FieldType.int) : Cond) ∈ gtbl := mem_g (mem_t3 (List.mem_of_getElem? (i := 158) rfl)) rfl
theorem k3_159 : (Cond.methodLink RX8 165 yX8_winnerOf : Cond) ∈ gtbl := mem_g (mem_t3 (List.mem_of_getElem? (i := 159) (by decide +kernel))) rfl
theorem k3_161 : (Cond.instanceMethod yX8_winnerOf : Cond) ∈ gtbl := mem_g (mem_t3 (List.mem_of_getElem? (i := 161) (by decide +kernel))) rfl
theorem k3_162 : (Cond.code yX8_winnerOf cX8_winnerOf 3 (some FieldType.int) : Cond) ∈ gtbl := mem_g (mem_t3 (List.mem_of_getElem? (i := 162) rfl)) rfl
theorem k3_163 : (Cond.methodLink RL 55 yX8_fight : Cond) ∈ gtbl := mem_g (mem_t3 (List.mem_of_getElem? (i := 163) (by decide +kernel))) rfl
theorem k3_164 : (Cond.instanceMethod yX8_fight : Cond) ∈ gtbl := mem_g (mem_t3 (List.mem_of_getElem? (i := 164) (by decide +kernel))) rfl
theorem k3_165 : (Cond.selects RX8 yX8_fight yX8_fight : Cond) ∈ gtbl := mem_g (mem_t3 (List.mem_of_getElem? (i := 165) (by decide +kernel))) rfl
theorem k3_166 : (Cond.code yX8_fight cX8_fight 5 (some FieldType.int) : Cond) ∈ gtbl := mem_g (mem_t3 (List.mem_of_getElem? (i := 166) rfl)) rfl
theorem k3_167 : (Cond.methodLink RX8 175 yX8_clash : Cond) ∈ gtbl := mem_g (mem_t3 (List.mem_of_getElem? (i := 167) (by decide +kernel))) rfl
theorem k3_169 : (Cond.instanceMethod yX8_clash : Cond) ∈ gtbl := mem_g (mem_t3 (List.mem_of_getElem? (i := 169) (by decide +kernel))) rfl
theorem k3_170 : (Cond.code yX8_clash cX8_clash 7 none : Cond) ∈ gtbl := mem_g (mem_t3 (List.mem_of_getElem? (i := 170) rfl)) rfl
theorem k3_171 : (Cond.methodLink RL 59 yX8_best : Cond) ∈ gtbl := mem_g (mem_t3 (List.mem_of_getElem? (i := 171) (by decide +kernel))) rfl
theorem k3_172 : (Cond.instanceMethod yX8_best : Cond) ∈ gtbl := mem_g (mem_t3 (List.mem_of_getElem? (i := 172) (by decide +kernel))) rfl
theorem k3_173 : (Cond.selects RX8 yX8_best yX8_best : Cond) ∈ gtbl := mem_g (mem_t3 (List.mem_of_getElem? (i := 173) (by decide +kernel))) rfl
theorem k3_174 : (Cond.code yX8_best cX8_best 8 (some FieldType.int) : Cond) ∈ gtbl := mem_g (mem_t3 (List.mem_of_getElem? (i := 174) rfl)) rfl
theorem k3_175 : (Cond.methodLink RX8 182 yX8_shortPlans : Cond) ∈ gtbl := mem_g (mem_t3 (List.mem_of_getElem? (i := 175) (by decide +kernel))) rfl
theorem k3_176 : (Cond.static yX8_shortPlans : Cond) ∈ gtbl := mem_g (mem_t3 (List.mem_of_getElem? (i := 176) (by decide +kernel))) rfl
theorem k3_177 : (Cond.code yX8_shortPlans cX8_shortPlans 1 (some FieldType.int) : Cond) ∈ gtbl := mem_g (mem_t3 (List.mem_of_getElem? (i := 177) rfl)) rfl
theorem k3_178 : (Cond.methodLink RX8 185 yX8_wholePlan : Cond) ∈ gtbl := mem_g (mem_t3 (List.mem_of_getElem? (i := 178) (by decide +kernel))) rfl
theorem k3_179 : (Cond.static yX8_wholePlan : Cond) ∈ gtbl := mem_g (mem_t3 (List.mem_of_getElem? (i := 179) (by decide +kernel))) rfl
theorem k3_180 : (Cond.code yX8_wholePlan cX8_wholePlan 4 (some FieldType.int) : Cond) ∈ gtbl := mem_g (mem_t3 (List.mem_of_getElem? (i := 180) rfl)) rfl
theorem k3_181 : (Cond.methodLink RX8 298 yX8_actIn : Cond) ∈ gtbl := mem_g (mem_t3 (List.mem_of_getElem? (i := 181) (by decide +kernel))) rfl
theorem k3_182 : (Cond.methodLink RL 63 yX8_sure : Cond) ∈ gtbl := mem_g (mem_t3 (List.mem_of_getElem? (i := 182) (by decide +kernel))) rfl
theorem k3_183 : (Cond.instanceMethod yX8_sure : Cond) ∈ gtbl := mem_g (mem_t3 (List.mem_of_getElem? (i := 183) (by decide +kernel))) rfl
theorem k3_184 : (Cond.selects RX8 yX8_sure yX8_sure : Cond) ∈ gtbl := mem_g (mem_t3 (List.mem_of_getElem? (i := 184) (by decide +kernel))) rfl
theorem k3_185 : (Cond.code yX8_sure cX8_sure 8 (some FieldType.int) : Cond) ∈ gtbl := mem_g (mem_t3 (List.mem_of_getElem? (i := 185) rfl)) rfl
theorem k3_186 : (Cond.methodLink RX8 191 yX8_winsAgainstAll : Cond) ∈ gtbl := mem_g (mem_t3 (List.mem_of_getElem? (i := 186) (by decide +kernel))) rfl
theorem k3_188 : (Cond.instanceMethod yX8_winsAgainstAll : Cond) ∈ gtbl := mem_g (mem_t3 (List.mem_of_getElem? (i := 188) (by decide +kernel))) rfl
theorem k3_189 : (Cond.code yX8_winsAgainstAll cX8_winsAgainstAll 6 (some FieldType.int) : Cond) ∈ gtbl := mem_g (mem_t3 (List.mem_of_getElem? (i := 189) rfl)) rfl
theorem k3_190 : (Cond.methodLink RL 67 yX8_chance : Cond) ∈ gtbl := mem_g (mem_t3 (List.mem_of_getElem? (i := 190) (by decide +kernel))) rfl
theorem k3_191 : (Cond.instanceMethod yX8_chance : Cond) ∈ gtbl := mem_g (mem_t3 (List.mem_of_getElem? (i := 191) (by decide +kernel))) rfl
theorem k3_192 : (Cond.selects RX8 yX8_chance yX8_chance : Cond) ∈ gtbl := mem_g (mem_t3 (List.mem_of_getElem? (i := 192) (by decide +kernel))) rfl
theorem k3_193 : (Cond.code yX8_chance cX8_chance 6 (some FieldType.long) : Cond) ∈ gtbl := mem_g (mem_t3 (List.mem_of_getElem? (i := 193) rfl)) rfl
theorem k3_194 : (Cond.constantLong RX8 194 (-4611686018427387904 : Int64) : Cond) ∈ gtbl := mem_g (mem_t3 (List.mem_of_getElem? (i := 194) (by decide +kernel))) rfl
theorem k3_195 : (Cond.methodLink RX8 196 yX8_inLowestTerms : Cond) ∈ gtbl := mem_g (mem_t3 (List.mem_of_getElem? (i := 195) (by decide +kernel))) rfl
theorem k3_196 : (Cond.static yX8_inLowestTerms : Cond) ∈ gtbl := mem_g (mem_t3 (List.mem_of_getElem? (i := 196) (by decide +kernel))) rfl
theorem k3_197 : (Cond.code yX8_inLowestTerms cX8_inLowestTerms 7 (some FieldType.long) : Cond) ∈ gtbl := mem_g (mem_t3 (List.mem_of_getElem? (i := 197) rfl)) rfl
theorem k3_198 : (Cond.methodLink RL 72 yX8_knees : Cond) ∈ gtbl := mem_g (mem_t3 (List.mem_of_getElem? (i := 198) (by decide +kernel))) rfl
theorem k3_199 : (Cond.instanceMethod yX8_knees : Cond) ∈ gtbl := mem_g (mem_t3 (List.mem_of_getElem? (i := 199) (by decide +kernel))) rfl
theorem k3_200 : (Cond.selects RX8 yX8_knees yX8_knees : Cond) ∈ gtbl := mem_g (mem_t3 (List.mem_of_getElem? (i := 200) (by decide +kernel))) rfl
theorem k3_201 : (Cond.code yX8_knees cX8_knees 5 (some FieldType.int) : Cond) ∈ gtbl := mem_g (mem_t3 (List.mem_of_getElem? (i := 201) rfl)) rfl
theorem k3_202 : (Cond.methodLink RX8 200 yX7_becomesLike : Cond) ∈ gtbl := mem_g (mem_t3 (List.mem_of_getElem? (i := 202) (by decide +kernel))) rfl
theorem k3_203 : (Cond.instanceMethod yX7_becomesLike : Cond) ∈ gtbl := mem_g (mem_t3 (List.mem_of_getElem? (i := 203) (by decide +kernel))) rfl
theorem k3_204 : (Cond.selects RX7 yX7_becomesLike yX7_becomesLike : Cond) ∈ gtbl := mem_g (mem_t3 (List.mem_of_getElem? (i := 204) (by decide +kernel))) rfl
theorem k3_205 : (Cond.code yX7_becomesLike cX7_becomesLike 2 none : Cond) ∈ gtbl := mem_g (mem_t3 (List.mem_of_getElem? (i := 205) rfl)) rfl
theorem k3_206 : (Cond.methodLink RX7 33 yX7_comes : Cond) ∈ gtbl := mem_g (mem_t3 (List.mem_of_getElem? (i := 206) (by decide +kernel))) rfl
theorem k3_207 : (Cond.methodLink RL 76 yX8_beats : Cond) ∈ gtbl := mem_g (mem_t3 (List.mem_of_getElem? (i := 207) (by decide +kernel))) rfl
theorem k3_208 : (Cond.instanceMethod yX8_beats : Cond) ∈ gtbl := mem_g (mem_t3 (List.mem_of_getElem? (i := 208) (by decide +kernel))) rfl
theorem k3_209 : (Cond.selects RX8 yX8_beats yX8_beats : Cond) ∈ gtbl := mem_g (mem_t3 (List.mem_of_getElem? (i := 209) (by decide +kernel))) rfl
theorem k3_210 : (Cond.code yX8_beats cX8_beats 6 (some FieldType.int) : Cond) ∈ gtbl := mem_g (mem_t3 (List.mem_of_getElem? (i := 210) rfl)) rfl
theorem k3_211 : (Cond.methodLink RX8 207 yX8_pairUp : Cond) ∈ gtbl := mem_g (mem_t3 (List.mem_of_getElem? (i := 211) (by decide +kernel))) rfl
theorem k3_213 : (Cond.instanceMethod yX8_pairUp : Cond) ∈ gtbl := mem_g (mem_t3 (List.mem_of_getElem? (i := 213) (by decide +kernel))) rfl
theorem k3_214 : (Cond.code yX8_pairUp cX8_pairUp 3 none : Cond) ∈ gtbl := mem_g (mem_t3 (List.mem_of_getElem? (i := 214) rfl)) rfl
theorem k3_215 : (Cond.methodLink RL 80 yX8_meet : Cond) ∈ gtbl := mem_g (mem_t3 (List.mem_of_getElem? (i := 215) (by decide +kernel))) rfl
theorem k3_216 : (Cond.instanceMethod yX8_meet : Cond) ∈ gtbl := mem_g (mem_t3 (List.mem_of_getElem? (i := 216) (by decide +kernel))) rfl
theorem k3_217 : (Cond.selects RX8 yX8_meet yX8_meet : Cond) ∈ gtbl := mem_g (mem_t3 (List.mem_of_getElem? (i := 217) (by decide +kernel))) rfl
theorem k3_218 : (Cond.code yX8_meet cX8_meet 4 (some FieldType.int) : Cond) ∈ gtbl := mem_g (mem_t3 (List.mem_of_getElem? (i := 218) rfl)) rfl
theorem k3_219 : (Cond.methodLink RX8 210 yX8_plansFault : Cond) ∈ gtbl := mem_g (mem_t3 (List.mem_of_getElem? (i := 219) (by decide +kernel))) rfl
theorem k3_221 : (Cond.instanceMethod yX8_plansFault : Cond) ∈ gtbl := mem_g (mem_t3 (List.mem_of_getElem? (i := 221) (by decide +kernel))) rfl
theorem k3_222 : (Cond.code yX8_plansFault cX8_plansFault 5 (some FieldType.int) : Cond) ∈ gtbl := mem_g (mem_t3 (List.mem_of_getElem? (i := 222) rfl)) rfl
theorem k3_223 : (Cond.methodLink RX8 260 yX8_sheetFault : Cond) ∈ gtbl := mem_g (mem_t3 (List.mem_of_getElem? (i := 223) (by decide +kernel))) rfl
theorem k3_225 : (Cond.instanceMethod yX8_sheetFault : Cond) ∈ gtbl := mem_g (mem_t3 (List.mem_of_getElem? (i := 225) (by decide +kernel))) rfl
theorem k3_226 : (Cond.code yX8_sheetFault cX8_sheetFault 2 (some FieldType.int) : Cond) ∈ gtbl := mem_g (mem_t3 (List.mem_of_getElem? (i := 226) rfl)) rfl
theorem k3_227 : (Cond.methodLink RX8 245 yX8_isSheet : Cond) ∈ gtbl := mem_g (mem_t3 (List.mem_of_getElem? (i := 227) (by decide +kernel))) rfl
theorem k3_229 : (Cond.instanceMethod yX8_isSheet : Cond) ∈ gtbl := mem_g (mem_t3 (List.mem_of_getElem? (i := 229) (by decide +kernel))) rfl
theorem k3_230 : (Cond.code yX8_isSheet cX8_isSheet 2 (some FieldType.boolean) : Cond) ∈ gtbl := mem_g (mem_t3 (List.mem_of_getElem? (i := 230) rfl)) rfl
theorem k3_231 : (Cond.methodLink RX8 213 yX8_sheetAt : Cond) ∈ gtbl := mem_g (mem_t3 (List.mem_of_getElem? (i := 231) (by decide +kernel))) rfl
theorem k3_233 : (Cond.instanceMethod yX8_sheetAt : Cond) ∈ gtbl := mem_g (mem_t3 (List.mem_of_getElem? (i := 233) (by decide +kernel))) rfl
theorem k3_234 : (Cond.code yX8_sheetAt cX8_sheetAt 2 (some (FieldType.object "RingOfStraw$Sheet")) : Cond) ∈ gtbl := mem_g (mem_t3 (List.mem_of_getElem? (i := 234) rfl)) rfl
theorem k3_235 : (Cond.methodLink RX8 279 yX3_at : Cond) ∈ gtbl := mem_g (mem_t3 (List.mem_of_getElem? (i := 235) (by decide +kernel))) rfl
theorem k3_236 : (Cond.instanceMethod yX3_at : Cond) ∈ gtbl := mem_g (mem_t3 (List.mem_of_getElem? (i := 236) (by decide +kernel))) rfl
theorem k3_237 : (Cond.selects RX3 yX3_at yX3_at : Cond) ∈ gtbl := mem_g (mem_t3 (List.mem_of_getElem? (i := 237) (by decide +kernel))) rfl
theorem k3_238 : (Cond.code yX3_at cX3_at 2 (some FieldType.int) : Cond) ∈ gtbl := mem_g (mem_t3 (List.mem_of_getElem? (i := 238) rfl)) rfl
theorem k3_239 : (Cond.methodLink RX8 217 yX8_passDays : Cond) ∈ gtbl := mem_g (mem_t3 (List.mem_of_getElem? (i := 239) (by decide +kernel))) rfl
theorem k4_1 : (Cond.instanceMethod yX8_passDays : Cond) ∈ gtbl := mem_g (mem_t4 (List.mem_of_getElem? (i := 1) (by decide +kernel))) rfl
theorem k4_2 : (Cond.code yX8_passDays cX8_passDays 7 none : Cond) ∈ gtbl := mem_g (mem_t4 (List.mem_of_getElem? (i := 2) rfl)) rfl
theorem k4_3 : (Cond.methodLink RX8 221 yX5_leader : Cond) ∈ gtbl := mem_g (mem_t4 (List.mem_of_getElem? (i := 3) (by decide +kernel))) rfl
theorem k4_4 : (Cond.instanceMethod yX5_leader : Cond) ∈ gtbl := mem_g (mem_t4 (List.mem_of_getElem? (i := 4) (by decide +kernel))) rfl
theorem k4_5 : (Cond.selects RX5 yX5_leader yX5_leader : Cond) ∈ gtbl := mem_g (mem_t4 (List.mem_of_getElem? (i := 5) (by decide +kernel))) rfl
theorem k4_6 : (Cond.code yX5_leader cX5_leader 3 (some FieldType.int) : Cond) ∈ gtbl := mem_g (mem_t4 (List.mem_of_getElem? (i := 6) rfl)) rfl
theorem k4_7 : (Cond.methodLink RX5 28 yX5_at : Cond) ∈ gtbl := mem_g (mem_t4 (List.mem_of_getElem? (i := 7) (by decide +kernel))) rfl
theorem k4_8 : (Cond.methodLink RL 84 yX8_run : Cond) ∈ gtbl := mem_g (mem_t4 (List.mem_of_getElem? (i := 8) (by decide +kernel))) rfl
theorem k4_9 : (Cond.instanceMethod yX8_run : Cond) ∈ gtbl := mem_g (mem_t4 (List.mem_of_getElem? (i := 9) (by decide +kernel))) rfl
theorem k4_10 : (Cond.selects RX8 yX8_run yX8_run : Cond) ∈ gtbl := mem_g (mem_t4 (List.mem_of_getElem? (i := 10) (by decide +kernel))) rfl
theorem k4_11 : (Cond.code yX8_run cX8_run 6 (some FieldType.int) : Cond) ∈ gtbl := mem_g (mem_t4 (List.mem_of_getElem? (i := 11) rfl)) rfl
theorem k4_12 : (Cond.methodLink RX8 224 yX5_becomesLike : Cond) ∈ gtbl := mem_g (mem_t4 (List.mem_of_getElem? (i := 12) (by decide +kernel))) rfl
theorem k4_13 : (Cond.instanceMethod yX5_becomesLike : Cond) ∈ gtbl := mem_g (mem_t4 (List.mem_of_getElem? (i := 13) (by decide +kernel))) rfl
theorem k4_14 : (Cond.selects RX5 yX5_becomesLike yX5_becomesLike : Cond) ∈ gtbl := mem_g (mem_t4 (List.mem_of_getElem? (i := 14) (by decide +kernel))) rfl
theorem k4_15 : (Cond.code yX5_becomesLike cX5_becomesLike 3 none : Cond) ∈ gtbl := mem_g (mem_t4 (List.mem_of_getElem? (i := 15) rfl)) rfl
theorem k4_16 : (Cond.methodLink RX5 32 yX7_becomesLike : Cond) ∈ gtbl := mem_g (mem_t4 (List.mem_of_getElem? (i := 16) (by decide +kernel))) rfl
theorem k4_17 : (Cond.methodLink RL 88 yX8_judge : Cond) ∈ gtbl := mem_g (mem_t4 (List.mem_of_getElem? (i := 17) (by decide +kernel))) rfl
theorem k4_18 : (Cond.instanceMethod yX8_judge : Cond) ∈ gtbl := mem_g (mem_t4 (List.mem_of_getElem? (i := 18) (by decide +kernel))) rfl
theorem k4_19 : (Cond.selects RX8 yX8_judge yX8_judge : Cond) ∈ gtbl := mem_g (mem_t4 (List.mem_of_getElem? (i := 19) (by decide +kernel))) rfl
theorem k4_20 : (Cond.code yX8_judge cX8_judge 6 (some FieldType.int) : Cond) ∈ gtbl := mem_g (mem_t4 (List.mem_of_getElem? (i := 20) rfl)) rfl
theorem k4_21 : (Cond.methodLink RX8 230 yX8_toldFault : Cond) ∈ gtbl := mem_g (mem_t4 (List.mem_of_getElem? (i := 21) (by decide +kernel))) rfl
theorem k4_23 : (Cond.instanceMethod yX8_toldFault : Cond) ∈ gtbl := mem_g (mem_t4 (List.mem_of_getElem? (i := 23) (by decide +kernel))) rfl
theorem k4_24 : (Cond.code yX8_toldFault cX8_toldFault 6 (some FieldType.int) : Cond) ∈ gtbl := mem_g (mem_t4 (List.mem_of_getElem? (i := 24) rfl)) rfl
theorem k4_25 : (Cond.methodLink RX8 242 yX8_cellsFault : Cond) ∈ gtbl := mem_g (mem_t4 (List.mem_of_getElem? (i := 25) (by decide +kernel))) rfl
theorem k4_27 : (Cond.instanceMethod yX8_cellsFault : Cond) ∈ gtbl := mem_g (mem_t4 (List.mem_of_getElem? (i := 27) (by decide +kernel))) rfl
theorem k4_28 : (Cond.code yX8_cellsFault cX8_cellsFault 3 (some FieldType.int) : Cond) ∈ gtbl := mem_g (mem_t4 (List.mem_of_getElem? (i := 28) rfl)) rfl
theorem k4_29 : (Cond.methodLink RX8 234 yX0_firstOtherwise : Cond) ∈ gtbl := mem_g (mem_t4 (List.mem_of_getElem? (i := 29) (by decide +kernel))) rfl
theorem k4_30 : (Cond.instanceMethod yX0_firstOtherwise : Cond) ∈ gtbl := mem_g (mem_t4 (List.mem_of_getElem? (i := 30) (by decide +kernel))) rfl
theorem k4_31 : (Cond.selects RX0 yX0_firstOtherwise yX0_firstOtherwise : Cond) ∈ gtbl := mem_g (mem_t4 (List.mem_of_getElem? (i := 31) (by decide +kernel))) rfl
theorem k4_32 : (Cond.code yX0_firstOtherwise cX0_firstOtherwise 3 (some FieldType.int) : Cond) ∈ gtbl := mem_g (mem_t4 (List.mem_of_getElem? (i := 32) rfl)) rfl
theorem k4_33 : (Cond.methodLink RX0 76 yX3_at : Cond) ∈ gtbl := mem_g (mem_t4 (List.mem_of_getElem? (i := 33) (by decide +kernel))) rfl
theorem k4_34 : (Cond.methodLink RX0 79 yX0_cellBehind : Cond) ∈ gtbl := mem_g (mem_t4 (List.mem_of_getElem? (i := 34) (by decide +kernel))) rfl
theorem k4_35 : (Cond.methodLink RL 92 yX8_kinds : Cond) ∈ gtbl := mem_g (mem_t4 (List.mem_of_getElem? (i := 35) (by decide +kernel))) rfl
theorem k4_36 : (Cond.instanceMethod yX8_kinds : Cond) ∈ gtbl := mem_g (mem_t4 (List.mem_of_getElem? (i := 36) (by decide +kernel))) rfl
theorem k4_37 : (Cond.selects RX8 yX8_kinds yX8_kinds : Cond) ∈ gtbl := mem_g (mem_t4 (List.mem_of_getElem? (i := 37) (by decide +kernel))) rfl
theorem k4_38 : (Cond.code yX8_kinds cX8_kinds 10 (some FieldType.int) : Cond) ∈ gtbl := mem_g (mem_t4 (List.mem_of_getElem? (i := 38) rfl)) rfl
theorem k4_39 : (Cond.methodLink RX8 238 yX8_wouldBeSo : Cond) ∈ gtbl := mem_g (mem_t4 (List.mem_of_getElem? (i := 39) (by decide +kernel))) rfl
theorem k4_41 : (Cond.instanceMethod yX8_wouldBeSo : Cond) ∈ gtbl := mem_g (mem_t4 (List.mem_of_getElem? (i := 41) (by decide +kernel))) rfl
theorem k4_42 : (Cond.code yX8_wouldBeSo cX8_wouldBeSo 7 (some FieldType.boolean) : Cond) ∈ gtbl := mem_g (mem_t4 (List.mem_of_getElem? (i := 42) rfl)) rfl
theorem k4_43 : (Cond.methodLink RL 97 yX8_acts : Cond) ∈ gtbl := mem_g (mem_t4 (List.mem_of_getElem? (i := 43) (by decide +kernel))) rfl
theorem k4_44 : (Cond.instanceMethod yX8_acts : Cond) ∈ gtbl := mem_g (mem_t4 (List.mem_of_getElem? (i := 44) (by decide +kernel))) rfl
theorem k4_45 : (Cond.selects RX8 yX8_acts yX8_acts : Cond) ∈ gtbl := mem_g (mem_t4 (List.mem_of_getElem? (i := 45) (by decide +kernel))) rfl
theorem k4_46 : (Cond.code yX8_acts cX8_acts 10 (some FieldType.int) : Cond) ∈ gtbl := mem_g (mem_t4 (List.mem_of_getElem? (i := 46) rfl)) rfl
theorem k4_47 : (Cond.methodLink RL 101 yX8_heavy : Cond) ∈ gtbl := mem_g (mem_t4 (List.mem_of_getElem? (i := 47) (by decide +kernel))) rfl
theorem k4_48 : (Cond.instanceMethod yX8_heavy : Cond) ∈ gtbl := mem_g (mem_t4 (List.mem_of_getElem? (i := 48) (by decide +kernel))) rfl
theorem k4_49 : (Cond.selects RX8 yX8_heavy yX8_heavy : Cond) ∈ gtbl := mem_g (mem_t4 (List.mem_of_getElem? (i := 49) (by decide +kernel))) rfl
theorem k4_50 : (Cond.code yX8_heavy cX8_heavy 11 (some FieldType.int) : Cond) ∈ gtbl := mem_g (mem_t4 (List.mem_of_getElem? (i := 50) rfl)) rfl
theorem k4_51 : (Cond.methodLink RL 105 yX8_laws : Cond) ∈ gtbl := mem_g (mem_t4 (List.mem_of_getElem? (i := 51) (by decide +kernel))) rfl
theorem k4_52 : (Cond.instanceMethod yX8_laws : Cond) ∈ gtbl := mem_g (mem_t4 (List.mem_of_getElem? (i := 52) (by decide +kernel))) rfl
theorem k4_53 : (Cond.selects RX8 yX8_laws yX8_laws : Cond) ∈ gtbl := mem_g (mem_t4 (List.mem_of_getElem? (i := 53) (by decide +kernel))) rfl
theorem k4_54 : (Cond.code yX8_laws cX8_laws 8 (some FieldType.int) : Cond) ∈ gtbl := mem_g (mem_t4 (List.mem_of_getElem? (i := 54) rfl)) rfl
theorem k4_55 : (Cond.methodLink RL 109 yX8_whose : Cond) ∈ gtbl := mem_g (mem_t4 (List.mem_of_getElem? (i := 55) (by decide +kernel))) rfl
theorem k4_56 : (Cond.instanceMethod yX8_whose : Cond) ∈ gtbl := mem_g (mem_t4 (List.mem_of_getElem? (i := 56) (by decide +kernel))) rfl
theorem k4_57 : (Cond.selects RX8 yX8_whose yX8_whose : Cond) ∈ gtbl := mem_g (mem_t4 (List.mem_of_getElem? (i := 57) (by decide +kernel))) rfl
theorem k4_58 : (Cond.code yX8_whose cX8_whose 8 (some FieldType.int) : Cond) ∈ gtbl := mem_g (mem_t4 (List.mem_of_getElem? (i := 58) rfl)) rfl
theorem k4_59 : (Cond.methodLink RL 113 yX8_film : Cond) ∈ gtbl := mem_g (mem_t4 (List.mem_of_getElem? (i := 59) (by decide +kernel))) rfl
theorem k4_60 : (Cond.instanceMethod yX8_film : Cond) ∈ gtbl := mem_g (mem_t4 (List.mem_of_getElem? (i := 60) (by decide +kernel))) rfl
theorem k4_61 : (Cond.selects RX8 yX8_film yX8_film : Cond) ∈ gtbl := mem_g (mem_t4 (List.mem_of_getElem? (i := 61) (by decide +kernel))) rfl
theorem k4_62 : (Cond.code yX8_film cX8_film 6 (some FieldType.int) : Cond) ∈ gtbl := mem_g (mem_t4 (List.mem_of_getElem? (i := 62) rfl)) rfl
theorem k4_63 : (Cond.methodLink RX8 248 yX3_becomesRow : Cond) ∈ gtbl := mem_g (mem_t4 (List.mem_of_getElem? (i := 63) (by decide +kernel))) rfl
theorem k4_64 : (Cond.instanceMethod yX3_becomesRow : Cond) ∈ gtbl := mem_g (mem_t4 (List.mem_of_getElem? (i := 64) (by decide +kernel))) rfl
theorem k4_65 : (Cond.selects RX3 yX3_becomesRow yX3_becomesRow : Cond) ∈ gtbl := mem_g (mem_t4 (List.mem_of_getElem? (i := 65) (by decide +kernel))) rfl
theorem k4_66 : (Cond.code yX3_becomesRow cX3_becomesRow 3 none : Cond) ∈ gtbl := mem_g (mem_t4 (List.mem_of_getElem? (i := 66) rfl)) rfl
theorem k4_68 : (Cond.methodLink RX3 26 yJ7_fill_53178 : Cond) ∈ gtbl := mem_g (mem_t4 (List.mem_of_getElem? (i := 68) (by decide +kernel))) rfl
theorem k4_69 : (Cond.methodLink RX8 251 yX3_write : Cond) ∈ gtbl := mem_g (mem_t4 (List.mem_of_getElem? (i := 69) (by decide +kernel))) rfl
theorem k4_70 : (Cond.instanceMethod yX3_write : Cond) ∈ gtbl := mem_g (mem_t4 (List.mem_of_getElem? (i := 70) (by decide +kernel))) rfl
theorem k4_71 : (Cond.selects RX3 yX3_write yX3_write : Cond) ∈ gtbl := mem_g (mem_t4 (List.mem_of_getElem? (i := 71) (by decide +kernel))) rfl
theorem k4_72 : (Cond.code yX3_write cX3_write 3 none : Cond) ∈ gtbl := mem_g (mem_t4 (List.mem_of_getElem? (i := 72) rfl)) rfl
theorem k4_73 : (Cond.methodLink RL 117 yX8_drawn : Cond) ∈ gtbl := mem_g (mem_t4 (List.mem_of_getElem? (i := 73) (by decide +kernel))) rfl
theorem k4_74 : (Cond.instanceMethod yX8_drawn : Cond) ∈ gtbl := mem_g (mem_t4 (List.mem_of_getElem? (i := 74) (by decide +kernel))) rfl
theorem k4_75 : (Cond.selects RX8 yX8_drawn yX8_drawn : Cond) ∈ gtbl := mem_g (mem_t4 (List.mem_of_getElem? (i := 75) (by decide +kernel))) rfl
theorem k4_76 : (Cond.code yX8_drawn cX8_drawn 5 (some FieldType.int) : Cond) ∈ gtbl := mem_g (mem_t4 (List.mem_of_getElem? (i := 76) rfl)) rfl
theorem k4_77 : (Cond.methodLink RX8 254 yX8_isSeed : Cond) ∈ gtbl := mem_g (mem_t4 (List.mem_of_getElem? (i := 77) (by decide +kernel))) rfl
theorem k4_78 : (Cond.static yX8_isSeed : Cond) ∈ gtbl := mem_g (mem_t4 (List.mem_of_getElem? (i := 78) (by decide +kernel))) rfl
theorem k4_79 : (Cond.code yX8_isSeed cX8_isSeed 1 (some FieldType.boolean) : Cond) ∈ gtbl := mem_g (mem_t4 (List.mem_of_getElem? (i := 79) rfl)) rfl
theorem k4_80 : (Cond.constant RX8 288 (99999 : Int32) : Cond) ∈ gtbl := mem_g (mem_t4 (List.mem_of_getElem? (i := 80) (by decide +kernel))) rfl
theorem k4_81 : (Cond.methodLink RX8 257 yX8_goThroughByLots : Cond) ∈ gtbl := mem_g (mem_t4 (List.mem_of_getElem? (i := 81) (by decide +kernel))) rfl
theorem k4_83 : (Cond.instanceMethod yX8_goThroughByLots : Cond) ∈ gtbl := mem_g (mem_t4 (List.mem_of_getElem? (i := 83) (by decide +kernel))) rfl
theorem k4_84 : (Cond.code yX8_goThroughByLots cX8_goThroughByLots 6 none : Cond) ∈ gtbl := mem_g (mem_t4 (List.mem_of_getElem? (i := 84) rfl)) rfl
theorem k4_85 : (Cond.constantLong RX8 301 (48271 : Int64) : Cond) ∈ gtbl := mem_g (mem_t4 (List.mem_of_getElem? (i := 85) (by decide +kernel))) rfl
theorem k4_86 : (Cond.constantLong RX8 303 (2147483647 : Int64) : Cond) ∈ gtbl := mem_g (mem_t4 (List.mem_of_getElem? (i := 86) (by decide +kernel))) rfl
theorem k4_87 : (Cond.constantLong RX8 305 (262144 : Int64) : Cond) ∈ gtbl := mem_g (mem_t4 (List.mem_of_getElem? (i := 87) (by decide +kernel))) rfl
theorem k4_88 : (Cond.methodLink RL 121 yX8_odds : Cond) ∈ gtbl := mem_g (mem_t4 (List.mem_of_getElem? (i := 88) (by decide +kernel))) rfl
theorem k4_89 : (Cond.instanceMethod yX8_odds : Cond) ∈ gtbl := mem_g (mem_t4 (List.mem_of_getElem? (i := 89) (by decide +kernel))) rfl
theorem k4_90 : (Cond.selects RX8 yX8_odds yX8_odds : Cond) ∈ gtbl := mem_g (mem_t4 (List.mem_of_getElem? (i := 90) (by decide +kernel))) rfl
theorem k4_91 : (Cond.code yX8_odds cX8_odds 9 (some FieldType.long) : Cond) ∈ gtbl := mem_g (mem_t4 (List.mem_of_getElem? (i := 91) rfl)) rfl
theorem k4_92 : (Cond.methodLink RL 126 yX8_image : Cond) ∈ gtbl := mem_g (mem_t4 (List.mem_of_getElem? (i := 92) (by decide +kernel))) rfl
theorem k4_93 : (Cond.instanceMethod yX8_image : Cond) ∈ gtbl := mem_g (mem_t4 (List.mem_of_getElem? (i := 93) (by decide +kernel))) rfl
theorem k4_94 : (Cond.selects RX8 yX8_image yX8_image : Cond) ∈ gtbl := mem_g (mem_t4 (List.mem_of_getElem? (i := 94) (by decide +kernel))) rfl
theorem k4_95 : (Cond.code yX8_image cX8_image 1 (some FieldType.int) : Cond) ∈ gtbl := mem_g (mem_t4 (List.mem_of_getElem? (i := 95) rfl)) rfl
theorem k4_96 : (Cond.methodLink RL 130 yX8_back : Cond) ∈ gtbl := mem_g (mem_t4 (List.mem_of_getElem? (i := 96) (by decide +kernel))) rfl
theorem k4_97 : (Cond.instanceMethod yX8_back : Cond) ∈ gtbl := mem_g (mem_t4 (List.mem_of_getElem? (i := 97) (by decide +kernel))) rfl
theorem k4_98 : (Cond.selects RX8 yX8_back yX8_back : Cond) ∈ gtbl := mem_g (mem_t4 (List.mem_of_getElem? (i := 98) (by decide +kernel))) rfl
theorem k4_99 : (Cond.code yX8_back cX8_back 1 (some FieldType.int) : Cond) ∈ gtbl := mem_g (mem_t4 (List.mem_of_getElem? (i := 99) rfl)) rfl
theorem k4_100 : (Cond.methodLink RL 134 yX8_sheet : Cond) ∈ gtbl := mem_g (mem_t4 (List.mem_of_getElem? (i := 100) (by decide +kernel))) rfl
theorem k4_101 : (Cond.instanceMethod yX8_sheet : Cond) ∈ gtbl := mem_g (mem_t4 (List.mem_of_getElem? (i := 101) (by decide +kernel))) rfl
theorem k4_102 : (Cond.selects RX8 yX8_sheet yX8_sheet : Cond) ∈ gtbl := mem_g (mem_t4 (List.mem_of_getElem? (i := 102) (by decide +kernel))) rfl
theorem k4_103 : (Cond.code yX8_sheet cX8_sheet 4 (some FieldType.int) : Cond) ∈ gtbl := mem_g (mem_t4 (List.mem_of_getElem? (i := 103) rfl)) rfl
theorem k4_104 : (Cond.methodLink RL 138 yX8_cell : Cond) ∈ gtbl := mem_g (mem_t4 (List.mem_of_getElem? (i := 104) (by decide +kernel))) rfl
theorem k4_105 : (Cond.instanceMethod yX8_cell : Cond) ∈ gtbl := mem_g (mem_t4 (List.mem_of_getElem? (i := 105) (by decide +kernel))) rfl
theorem k4_106 : (Cond.selects RX8 yX8_cell yX8_cell : Cond) ∈ gtbl := mem_g (mem_t4 (List.mem_of_getElem? (i := 106) (by decide +kernel))) rfl
theorem k4_107 : (Cond.code yX8_cell cX8_cell 5 (some FieldType.int) : Cond) ∈ gtbl := mem_g (mem_t4 (List.mem_of_getElem? (i := 107) rfl)) rfl
theorem k4_108 : (Cond.methodLink RX8 263 yX3_hasFrom : Cond) ∈ gtbl := mem_g (mem_t4 (List.mem_of_getElem? (i := 108) (by decide +kernel))) rfl
theorem k4_109 : (Cond.instanceMethod yX3_hasFrom : Cond) ∈ gtbl := mem_g (mem_t4 (List.mem_of_getElem? (i := 109) (by decide +kernel))) rfl
theorem k4_110 : (Cond.selects RX3 yX3_hasFrom yX3_hasFrom : Cond) ∈ gtbl := mem_g (mem_t4 (List.mem_of_getElem? (i := 110) (by decide +kernel))) rfl
theorem k4_111 : (Cond.code yX3_hasFrom cX3_hasFrom 3 (some FieldType.boolean) : Cond) ∈ gtbl := mem_g (mem_t4 (List.mem_of_getElem? (i := 111) rfl)) rfl
theorem k4_112 : (Cond.methodLink RL 142 yX8_copy : Cond) ∈ gtbl := mem_g (mem_t4 (List.mem_of_getElem? (i := 112) (by decide +kernel))) rfl
theorem k4_113 : (Cond.instanceMethod yX8_copy : Cond) ∈ gtbl := mem_g (mem_t4 (List.mem_of_getElem? (i := 113) (by decide +kernel))) rfl
theorem k4_114 : (Cond.selects RX8 yX8_copy yX8_copy : Cond) ∈ gtbl := mem_g (mem_t4 (List.mem_of_getElem? (i := 114) (by decide +kernel))) rfl
theorem k4_115 : (Cond.code yX8_copy cX8_copy 8 (some FieldType.int) : Cond) ∈ gtbl := mem_g (mem_t4 (List.mem_of_getElem? (i := 115) rfl)) rfl
theorem k4_116 : (Cond.methodLink RX8 273 ⟨"java/lang/System", "arraycopy", "(Ljava/lang/Object;ILjava/lang/Object;II)V"⟩ : Cond) ∈ gtbl := mem_g (mem_t4 (List.mem_of_getElem? (i := 116) (by decide +kernel))) rfl
theorem k4_117 : (Cond.static ⟨"java/lang/System", "arraycopy", "(Ljava/lang/Object;ILjava/lang/Object;II)V"⟩ : Cond) ∈ gtbl := mem_g (mem_t4 (List.mem_of_getElem? (i := 117) (by decide +kernel))) rfl
theorem k4_119 : (Cond.methodLink RL 146 yX8_menBy : Cond) ∈ gtbl := mem_g (mem_t4 (List.mem_of_getElem? (i := 119) (by decide +kernel))) rfl
theorem k4_120 : (Cond.instanceMethod yX8_menBy : Cond) ∈ gtbl := mem_g (mem_t4 (List.mem_of_getElem? (i := 120) (by decide +kernel))) rfl
theorem k4_121 : (Cond.selects RX8 yX8_menBy yX8_menBy : Cond) ∈ gtbl := mem_g (mem_t4 (List.mem_of_getElem? (i := 121) (by decide +kernel))) rfl
theorem k4_122 : (Cond.code yX8_menBy cX8_menBy 10 (some FieldType.int) : Cond) ∈ gtbl := mem_g (mem_t4 (List.mem_of_getElem? (i := 122) rfl)) rfl
theorem k4_123 : (Cond.methodLink RX8 281 yX8_man : Cond) ∈ gtbl := mem_g (mem_t4 (List.mem_of_getElem? (i := 123) (by decide +kernel))) rfl
theorem k4_124 : (Cond.methodLink RL 150 yX8_taken : Cond) ∈ gtbl := mem_g (mem_t4 (List.mem_of_getElem? (i := 124) (by decide +kernel))) rfl
theorem k4_125 : (Cond.instanceMethod yX8_taken : Cond) ∈ gtbl := mem_g (mem_t4 (List.mem_of_getElem? (i := 125) (by decide +kernel))) rfl
theorem k4_126 : (Cond.selects RX8 yX8_taken yX8_taken : Cond) ∈ gtbl := mem_g (mem_t4 (List.mem_of_getElem? (i := 126) (by decide +kernel))) rfl
theorem k4_127 : (Cond.code yX8_taken cX8_taken 5 (some FieldType.int) : Cond) ∈ gtbl := mem_g (mem_t4 (List.mem_of_getElem? (i := 127) rfl)) rfl
theorem k4_128 : (Cond.methodLink RX8 284 yX7_isOf : Cond) ∈ gtbl := mem_g (mem_t4 (List.mem_of_getElem? (i := 128) (by decide +kernel))) rfl
theorem k4_129 : (Cond.classLink RL 10 RX9 : Cond) ∈ gtbl := mem_g (mem_t4 (List.mem_of_getElem? (i := 129) (by decide +kernel))) rfl
theorem k4_130 : (Cond.instantiable RX9 39 : Cond) ∈ gtbl := mem_g (mem_t4 (List.mem_of_getElem? (i := 130) (by decide +kernel))) rfl
theorem k4_131 : (Cond.methodLink RL 12 yX9_init : Cond) ∈ gtbl := mem_g (mem_t4 (List.mem_of_getElem? (i := 131) (by decide +kernel))) rfl
theorem k4_132 : (Cond.instanceMethod yX9_init : Cond) ∈ gtbl := mem_g (mem_t4 (List.mem_of_getElem? (i := 132) (by decide +kernel))) rfl
theorem k4_133 : (Cond.code yX9_init cX9_init 2 none : Cond) ∈ gtbl := mem_g (mem_t4 (List.mem_of_getElem? (i := 133) rfl)) rfl
theorem k4_134 : (Cond.methodLink RX9 1 ⟨"java/lang/Object", "<init>", "()V"⟩ : Cond) ∈ gtbl := mem_g (mem_t4 (List.mem_of_getElem? (i := 134) (by decide +kernel))) rfl
theorem k4_135 : (Cond.methodLink RX9 71 yX9_text : Cond) ∈ gtbl := mem_g (mem_t4 (List.mem_of_getElem? (i := 135) (by decide +kernel))) rfl
theorem k4_136 : (Cond.instanceMethod yX9_text : Cond) ∈ gtbl := mem_g (mem_t4 (List.mem_of_getElem? (i := 136) (by decide +kernel))) rfl
theorem k4_137 : (Cond.selects RX9 yX9_text yX9_text : Cond) ∈ gtbl := mem_g (mem_t4 (List.mem_of_getElem? (i := 137) (by decide +kernel))) rfl
theorem k4_138 : (Cond.code yX9_text cX9_text 3 (some FieldType.int) : Cond) ∈ gtbl := mem_g (mem_t4 (List.mem_of_getElem? (i := 138) rfl)) rfl
theorem k4_139 : (Cond.methodLink RX9 142 yX9_next : Cond) ∈ gtbl := mem_g (mem_t4 (List.mem_of_getElem? (i := 139) (by decide +kernel))) rfl
theorem k4_141 : (Cond.instanceMethod yX9_next : Cond) ∈ gtbl := mem_g (mem_t4 (List.mem_of_getElem? (i := 141) (by decide +kernel))) rfl
theorem k4_142 : (Cond.code yX9_next cX9_next 3 none : Cond) ∈ gtbl := mem_g (mem_t4 (List.mem_of_getElem? (i := 142) rfl)) rfl
theorem k4_143 : (Cond.methodLink RX9 78 yX9_in : Cond) ∈ gtbl := mem_g (mem_t4 (List.mem_of_getElem? (i := 143) (by decide +kernel))) rfl
theorem k4_144 : (Cond.static yX9_in : Cond) ∈ gtbl := mem_g (mem_t4 (List.mem_of_getElem? (i := 144) (by decide +kernel))) rfl
theorem k4_145 : (Cond.code yX9_in cX9_in 3 (some FieldType.boolean) : Cond) ∈ gtbl := mem_g (mem_t4 (List.mem_of_getElem? (i := 145) rfl)) rfl
theorem k4_146 : (Cond.methodLink RX9 115 yX9_wordFrom : Cond) ∈ gtbl := mem_g (mem_t4 (List.mem_of_getElem? (i := 146) (by decide +kernel))) rfl
theorem k4_148 : (Cond.instanceMethod yX9_wordFrom : Cond) ∈ gtbl := mem_g (mem_t4 (List.mem_of_getElem? (i := 148) (by decide +kernel))) rfl
theorem k4_149 : (Cond.code yX9_wordFrom cX9_wordFrom 6 (some FieldType.int) : Cond) ∈ gtbl := mem_g (mem_t4 (List.mem_of_getElem? (i := 149) rfl)) rfl
theorem k4_150 : (Cond.methodLink RX9 155 yX9_eRead : Cond) ∈ gtbl := mem_g (mem_t4 (List.mem_of_getElem? (i := 150) (by decide +kernel))) rfl
theorem k4_152 : (Cond.instanceMethod yX9_eRead : Cond) ∈ gtbl := mem_g (mem_t4 (List.mem_of_getElem? (i := 152) (by decide +kernel))) rfl
theorem k4_153 : (Cond.code yX9_eRead cX9_eRead 4 (some FieldType.boolean) : Cond) ∈ gtbl := mem_g (mem_t4 (List.mem_of_getElem? (i := 153) rfl)) rfl
theorem k4_154 : (Cond.constant RX9 145 (100000 : Int32) : Cond) ∈ gtbl := mem_g (mem_t4 (List.mem_of_getElem? (i := 154) (by decide +kernel))) rfl
theorem k4_155 : (Cond.methodLink RX9 132 yX9_puts : Cond) ∈ gtbl := mem_g (mem_t4 (List.mem_of_getElem? (i := 155) (by decide +kernel))) rfl
theorem k4_157 : (Cond.instanceMethod yX9_puts : Cond) ∈ gtbl := mem_g (mem_t4 (List.mem_of_getElem? (i := 157) (by decide +kernel))) rfl
theorem k4_158 : (Cond.code yX9_puts cX9_puts 2 none : Cond) ∈ gtbl := mem_g (mem_t4 (List.mem_of_getElem? (i := 158) rfl)) rfl
theorem k4_159 : (Cond.methodLink RX9 139 yX9_unwinds : Cond) ∈ gtbl := mem_g (mem_t4 (List.mem_of_getElem? (i := 159) (by decide +kernel))) rfl
theorem k4_161 : (Cond.instanceMethod yX9_unwinds : Cond) ∈ gtbl := mem_g (mem_t4 (List.mem_of_getElem? (i := 161) (by decide +kernel))) rfl
theorem k4_162 : (Cond.code yX9_unwinds cX9_unwinds 3 none : Cond) ∈ gtbl := mem_g (mem_t4 (List.mem_of_getElem? (i := 162) rfl)) rfl
theorem k4_163 : (Cond.methodLink RX9 125 yX9_rank : Cond) ∈ gtbl := mem_g (mem_t4 (List.mem_of_getElem? (i := 163) (by decide +kernel))) rfl
theorem k4_164 : (Cond.static yX9_rank : Cond) ∈ gtbl := mem_g (mem_t4 (List.mem_of_getElem? (i := 164) (by decide +kernel))) rfl
theorem k4_165 : (Cond.code yX9_rank cX9_rank 1 (some FieldType.int) : Cond) ∈ gtbl := mem_g (mem_t4 (List.mem_of_getElem? (i := 165) rfl)) rfl
theorem k4_166 : (Cond.methodLink RX9 146 yX9_opensOne : Cond) ∈ gtbl := mem_g (mem_t4 (List.mem_of_getElem? (i := 166) (by decide +kernel))) rfl
theorem k4_168 : (Cond.instanceMethod yX9_opensOne : Cond) ∈ gtbl := mem_g (mem_t4 (List.mem_of_getElem? (i := 168) (by decide +kernel))) rfl
theorem k4_169 : (Cond.code yX9_opensOne cX9_opensOne 2 (some FieldType.boolean) : Cond) ∈ gtbl := mem_g (mem_t4 (List.mem_of_getElem? (i := 169) rfl)) rfl
theorem k4_170 : (Cond.methodLink RX9 136 yX9_holds : Cond) ∈ gtbl := mem_g (mem_t4 (List.mem_of_getElem? (i := 170) (by decide +kernel))) rfl
theorem k4_172 : (Cond.instanceMethod yX9_holds : Cond) ∈ gtbl := mem_g (mem_t4 (List.mem_of_getElem? (i := 172) (by decide +kernel))) rfl
theorem k4_173 : (Cond.code yX9_holds cX9_holds 2 none : Cond) ∈ gtbl := mem_g (mem_t4 (List.mem_of_getElem? (i := 173) rfl)) rfl
theorem k4_174 : (Cond.methodLink RX9 149 yX9_signOf : Cond) ∈ gtbl := mem_g (mem_t4 (List.mem_of_getElem? (i := 174) (by decide +kernel))) rfl
theorem k4_176 : (Cond.instanceMethod yX9_signOf : Cond) ∈ gtbl := mem_g (mem_t4 (List.mem_of_getElem? (i := 176) (by decide +kernel))) rfl
theorem k4_177 : (Cond.code yX9_signOf cX9_signOf 1 (some FieldType.int) : Cond) ∈ gtbl := mem_g (mem_t4 (List.mem_of_getElem? (i := 177) rfl)) rfl
theorem k4_178 : (Cond.methodLink RX9 152 yX9_between : Cond) ∈ gtbl := mem_g (mem_t4 (List.mem_of_getElem? (i := 178) (by decide +kernel))) rfl
theorem k4_180 : (Cond.instanceMethod yX9_between : Cond) ∈ gtbl := mem_g (mem_t4 (List.mem_of_getElem? (i := 180) (by decide +kernel))) rfl
theorem k4_181 : (Cond.code yX9_between cX9_between 2 (some FieldType.boolean) : Cond) ∈ gtbl := mem_g (mem_t4 (List.mem_of_getElem? (i := 181) rfl)) rfl
theorem k4_182 : (Cond.fieldLink RX9 75 "RingOfStrawModel" "men" "I" : Cond) ∈ gtbl := mem_g (mem_t4 (List.mem_of_getElem? (i := 182) (by decide +kernel))) rfl
theorem k4_183 : (Cond.fieldLink RX9 7 "RingOfStrawModel" "kind" "[I" : Cond) ∈ gtbl := mem_g (mem_t4 (List.mem_of_getElem? (i := 183) (by decide +kernel))) rfl
theorem k4_184 : (Cond.fieldLink RX9 13 "RingOfStrawModel" "moreOf" "[I" : Cond) ∈ gtbl := mem_g (mem_t4 (List.mem_of_getElem? (i := 184) (by decide +kernel))) rfl
theorem k4_185 : (Cond.fieldLink RX9 16 "RingOfStrawModel" "rows" "[I" : Cond) ∈ gtbl := mem_g (mem_t4 (List.mem_of_getElem? (i := 185) (by decide +kernel))) rfl
theorem k4_186 : (Cond.fieldLink RX9 91 "RingOfStrawModel" "days" "I" : Cond) ∈ gtbl := mem_g (mem_t4 (List.mem_of_getElem? (i := 186) (by decide +kernel))) rfl
theorem k4_187 : (Cond.fieldLink RX9 19 "RingOfStrawModel" "tape" "[I" : Cond) ∈ gtbl := mem_g (mem_t4 (List.mem_of_getElem? (i := 187) (by decide +kernel))) rfl
theorem k4_188 : (Cond.fieldLink RX9 67 "RingOfStrawModel" "taped" "I" : Cond) ∈ gtbl := mem_g (mem_t4 (List.mem_of_getElem? (i := 188) (by decide +kernel))) rfl
theorem k4_189 : (Cond.fieldLink RX9 22 "RingOfStrawModel" "codes" "[I" : Cond) ∈ gtbl := mem_g (mem_t4 (List.mem_of_getElem? (i := 189) (by decide +kernel))) rfl
theorem k4_190 : (Cond.fieldLink RX9 25 "RingOfStrawModel" "starts" "[I" : Cond) ∈ gtbl := mem_g (mem_t4 (List.mem_of_getElem? (i := 190) (by decide +kernel))) rfl
theorem k4_191 : (Cond.fieldLink RX9 94 "RingOfStrawModel" "texts" "I" : Cond) ∈ gtbl := mem_g (mem_t4 (List.mem_of_getElem? (i := 191) (by decide +kernel))) rfl
theorem k4_192 : (Cond.fieldLink RX9 97 "RingOfStrawModel" "rule" "I" : Cond) ∈ gtbl := mem_g (mem_t4 (List.mem_of_getElem? (i := 192) (by decide +kernel))) rfl
theorem k4_193 : (Cond.fieldLink RX9 270 "RingOfStrawModel" "hasImage" "Z" : Cond) ∈ gtbl := mem_g (mem_t4 (List.mem_of_getElem? (i := 193) (by decide +kernel))) rfl
theorem k4_194 : (Cond.fieldLink RX9 28 "RingOfStrawModel" "imageRows" "[I" : Cond) ∈ gtbl := mem_g (mem_t4 (List.mem_of_getElem? (i := 194) (by decide +kernel))) rfl
theorem k4_195 : (Cond.fieldLink RX9 31 "RingOfStrawModel" "imageHeld" "[I" : Cond) ∈ gtbl := mem_g (mem_t4 (List.mem_of_getElem? (i := 195) (by decide +kernel))) rfl
theorem k4_196 : (Cond.fieldLink RX9 34 "RingOfStrawModel" "sheetSort" "[I" : Cond) ∈ gtbl := mem_g (mem_t4 (List.mem_of_getElem? (i := 196) (by decide +kernel))) rfl
theorem k4_197 : (Cond.fieldLink RX9 37 "RingOfStrawModel" "sheetSize" "[I" : Cond) ∈ gtbl := mem_g (mem_t4 (List.mem_of_getElem? (i := 197) (by decide +kernel))) rfl
theorem k4_198 : (Cond.fieldLink RX9 40 "RingOfStrawModel" "cells" "[I" : Cond) ∈ gtbl := mem_g (mem_t4 (List.mem_of_getElem? (i := 198) (by decide +kernel))) rfl
theorem k4_199 : (Cond.fieldLink RX9 43 "RingOfStrawModel" "law" "[I" : Cond) ∈ gtbl := mem_g (mem_t4 (List.mem_of_getElem? (i := 199) (by decide +kernel))) rfl
theorem k4_200 : (Cond.fieldLink RX9 103 "RingOfStrawModel" "at" "I" : Cond) ∈ gtbl := mem_g (mem_t4 (List.mem_of_getElem? (i := 200) (by decide +kernel))) rfl
theorem k4_201 : (Cond.fieldLink RX9 106 "RingOfStrawModel" "begun" "I" : Cond) ∈ gtbl := mem_g (mem_t4 (List.mem_of_getElem? (i := 201) (by decide +kernel))) rfl
theorem k4_202 : (Cond.fieldLink RX9 109 "RingOfStrawModel" "token" "I" : Cond) ∈ gtbl := mem_g (mem_t4 (List.mem_of_getElem? (i := 202) (by decide +kernel))) rfl
theorem k4_203 : (Cond.fieldLink RX9 112 "RingOfStrawModel" "value" "I" : Cond) ∈ gtbl := mem_g (mem_t4 (List.mem_of_getElem? (i := 203) (by decide +kernel))) rfl
theorem k4_204 : (Cond.fieldLink RX9 46 "RingOfStrawModel" "words" "[I" : Cond) ∈ gtbl := mem_g (mem_t4 (List.mem_of_getElem? (i := 204) (by decide +kernel))) rfl
theorem k4_205 : (Cond.fieldLink RX9 49 "RingOfStrawModel" "held" "[I" : Cond) ∈ gtbl := mem_g (mem_t4 (List.mem_of_getElem? (i := 205) (by decide +kernel))) rfl
theorem k4_206 : (Cond.fieldLink RX9 122 "RingOfStrawModel" "heldMany" "I" : Cond) ∈ gtbl := mem_g (mem_t4 (List.mem_of_getElem? (i := 206) (by decide +kernel))) rfl
theorem k4_207 : (Cond.fieldLink RX9 129 "RingOfStrawModel" "opens" "I" : Cond) ∈ gtbl := mem_g (mem_t4 (List.mem_of_getElem? (i := 207) (by decide +kernel))) rfl
theorem k4_208 : (Cond.fieldLink RX9 119 "RingOfStrawModel" "out" "I" : Cond) ∈ gtbl := mem_g (mem_t4 (List.mem_of_getElem? (i := 208) (by decide +kernel))) rfl
theorem k4_209 : (Cond.fieldLink RX9 52 "RingOfStrawModel" "stack" "[I" : Cond) ∈ gtbl := mem_g (mem_t4 (List.mem_of_getElem? (i := 209) (by decide +kernel))) rfl
theorem k4_210 : (Cond.fieldLink RX9 55 "RingOfStrawModel" "named" "[I" : Cond) ∈ gtbl := mem_g (mem_t4 (List.mem_of_getElem? (i := 210) (by decide +kernel))) rfl
theorem k4_211 : (Cond.fieldLink RX9 176 "RingOfStrawModel" "west" "I" : Cond) ∈ gtbl := mem_g (mem_t4 (List.mem_of_getElem? (i := 211) (by decide +kernel))) rfl
theorem k4_212 : (Cond.fieldLink RX9 179 "RingOfStrawModel" "east" "I" : Cond) ∈ gtbl := mem_g (mem_t4 (List.mem_of_getElem? (i := 212) (by decide +kernel))) rfl
theorem k4_213 : (Cond.fieldLink RX9 58 "RingOfStrawModel" "strengthTold" "[I" : Cond) ∈ gtbl := mem_g (mem_t4 (List.mem_of_getElem? (i := 213) (by decide +kernel))) rfl
theorem k4_214 : (Cond.fieldLink RX9 185 "RingOfStrawModel" "standsWest" "I" : Cond) ∈ gtbl := mem_g (mem_t4 (List.mem_of_getElem? (i := 214) (by decide +kernel))) rfl
theorem k4_215 : (Cond.fieldLink RX9 188 "RingOfStrawModel" "standsEast" "I" : Cond) ∈ gtbl := mem_g (mem_t4 (List.mem_of_getElem? (i := 215) (by decide +kernel))) rfl
theorem k4_216 : (Cond.fieldLink RX9 194 "RingOfStrawModel" "cellFirst" "I" : Cond) ∈ gtbl := mem_g (mem_t4 (List.mem_of_getElem? (i := 216) (by decide +kernel))) rfl
theorem k4_217 : (Cond.fieldLink RX9 201 "RingOfStrawModel" "winner" "I" : Cond) ∈ gtbl := mem_g (mem_t4 (List.mem_of_getElem? (i := 217) (by decide +kernel))) rfl
theorem k4_218 : (Cond.fieldLink RX9 204 "RingOfStrawModel" "seconds" "I" : Cond) ∈ gtbl := mem_g (mem_t4 (List.mem_of_getElem? (i := 218) (by decide +kernel))) rfl
theorem k4_219 : (Cond.fieldLink RX9 61 "RingOfStrawModel" "cellBehind" "[I" : Cond) ∈ gtbl := mem_g (mem_t4 (List.mem_of_getElem? (i := 219) (by decide +kernel))) rfl
theorem k4_220 : (Cond.fieldLink RX9 64 "RingOfStrawModel" "kept" "[I" : Cond) ∈ gtbl := mem_g (mem_t4 (List.mem_of_getElem? (i := 220) (by decide +kernel))) rfl
theorem k5_60 : (Cond.methodLink RL 17 yX9_count : Cond) ∈ gtbl := mem_g (mem_t5 (List.mem_of_getElem? (i := 60) (by decide +kernel))) rfl
theorem k5_61 : (Cond.instanceMethod yX9_count : Cond) ∈ gtbl := mem_g (mem_t5 (List.mem_of_getElem? (i := 61) (by decide +kernel))) rfl
theorem k5_62 : (Cond.selects RX9 yX9_count yX9_count : Cond) ∈ gtbl := mem_g (mem_t5 (List.mem_of_getElem? (i := 62) (by decide +kernel))) rfl
theorem k5_63 : (Cond.code yX9_count cX9_count 2 (some FieldType.int) : Cond) ∈ gtbl := mem_g (mem_t5 (List.mem_of_getElem? (i := 63) rfl)) rfl
theorem k5_64 : (Cond.methodLink RL 22 yX9_feed : Cond) ∈ gtbl := mem_g (mem_t5 (List.mem_of_getElem? (i := 64) (by decide +kernel))) rfl
theorem k5_65 : (Cond.instanceMethod yX9_feed : Cond) ∈ gtbl := mem_g (mem_t5 (List.mem_of_getElem? (i := 65) (by decide +kernel))) rfl
theorem k5_66 : (Cond.selects RX9 yX9_feed yX9_feed : Cond) ∈ gtbl := mem_g (mem_t5 (List.mem_of_getElem? (i := 66) (by decide +kernel))) rfl
theorem k5_67 : (Cond.code yX9_feed cX9_feed 8 (some FieldType.int) : Cond) ∈ gtbl := mem_g (mem_t5 (List.mem_of_getElem? (i := 67) rfl)) rfl
theorem k5_68 : (Cond.methodLink RX9 100 yX9_isByte : Cond) ∈ gtbl := mem_g (mem_t5 (List.mem_of_getElem? (i := 68) (by decide +kernel))) rfl
theorem k5_69 : (Cond.static yX9_isByte : Cond) ∈ gtbl := mem_g (mem_t5 (List.mem_of_getElem? (i := 69) (by decide +kernel))) rfl
theorem k5_70 : (Cond.code yX9_isByte cX9_isByte 1 (some FieldType.boolean) : Cond) ∈ gtbl := mem_g (mem_t5 (List.mem_of_getElem? (i := 70) rfl)) rfl
theorem k5_71 : (Cond.methodLink RL 27 yX9_text : Cond) ∈ gtbl := mem_g (mem_t5 (List.mem_of_getElem? (i := 71) (by decide +kernel))) rfl
theorem k5_72 : (Cond.methodLink RL 31 yX9_force : Cond) ∈ gtbl := mem_g (mem_t5 (List.mem_of_getElem? (i := 72) (by decide +kernel))) rfl
theorem k5_73 : (Cond.instanceMethod yX9_force : Cond) ∈ gtbl := mem_g (mem_t5 (List.mem_of_getElem? (i := 73) (by decide +kernel))) rfl
theorem k5_74 : (Cond.selects RX9 yX9_force yX9_force : Cond) ∈ gtbl := mem_g (mem_t5 (List.mem_of_getElem? (i := 74) (by decide +kernel))) rfl
theorem k5_75 : (Cond.code yX9_force cX9_force 3 (some FieldType.int) : Cond) ∈ gtbl := mem_g (mem_t5 (List.mem_of_getElem? (i := 75) rfl)) rfl
theorem k5_76 : (Cond.methodLink RL 36 yX9_asks : Cond) ∈ gtbl := mem_g (mem_t5 (List.mem_of_getElem? (i := 76) (by decide +kernel))) rfl
theorem k5_77 : (Cond.instanceMethod yX9_asks : Cond) ∈ gtbl := mem_g (mem_t5 (List.mem_of_getElem? (i := 77) (by decide +kernel))) rfl
theorem k5_78 : (Cond.selects RX9 yX9_asks yX9_asks : Cond) ∈ gtbl := mem_g (mem_t5 (List.mem_of_getElem? (i := 78) (by decide +kernel))) rfl
theorem k5_79 : (Cond.code yX9_asks cX9_asks 6 (some FieldType.int) : Cond) ∈ gtbl := mem_g (mem_t5 (List.mem_of_getElem? (i := 79) rfl)) rfl
theorem k5_80 : (Cond.methodLink RX9 82 yX9_isMan : Cond) ∈ gtbl := mem_g (mem_t5 (List.mem_of_getElem? (i := 80) (by decide +kernel))) rfl
theorem k5_82 : (Cond.instanceMethod yX9_isMan : Cond) ∈ gtbl := mem_g (mem_t5 (List.mem_of_getElem? (i := 82) (by decide +kernel))) rfl
theorem k5_83 : (Cond.code yX9_isMan cX9_isMan 2 (some FieldType.boolean) : Cond) ∈ gtbl := mem_g (mem_t5 (List.mem_of_getElem? (i := 83) rfl)) rfl
theorem k5_84 : (Cond.methodLink RX9 169 yX9_asksOf : Cond) ∈ gtbl := mem_g (mem_t5 (List.mem_of_getElem? (i := 84) (by decide +kernel))) rfl
theorem k5_86 : (Cond.instanceMethod yX9_asksOf : Cond) ∈ gtbl := mem_g (mem_t5 (List.mem_of_getElem? (i := 86) (by decide +kernel))) rfl
theorem k5_87 : (Cond.code yX9_asksOf cX9_asksOf 7 (some FieldType.int) : Cond) ∈ gtbl := mem_g (mem_t5 (List.mem_of_getElem? (i := 87) rfl)) rfl
theorem k5_88 : (Cond.methodLink RX9 163 yX9_says : Cond) ∈ gtbl := mem_g (mem_t5 (List.mem_of_getElem? (i := 88) (by decide +kernel))) rfl
theorem k5_90 : (Cond.instanceMethod yX9_says : Cond) ∈ gtbl := mem_g (mem_t5 (List.mem_of_getElem? (i := 90) (by decide +kernel))) rfl
theorem k5_91 : (Cond.code yX9_says cX9_says 5 (some FieldType.int) : Cond) ∈ gtbl := mem_g (mem_t5 (List.mem_of_getElem? (i := 91) rfl)) rfl
theorem k5_92 : (Cond.methodLink RX9 159 yX9_two : Cond) ∈ gtbl := mem_g (mem_t5 (List.mem_of_getElem? (i := 92) (by decide +kernel))) rfl
theorem k5_93 : (Cond.static yX9_two : Cond) ∈ gtbl := mem_g (mem_t5 (List.mem_of_getElem? (i := 93) (by decide +kernel))) rfl
theorem k5_94 : (Cond.code yX9_two cX9_two 3 (some FieldType.int) : Cond) ∈ gtbl := mem_g (mem_t5 (List.mem_of_getElem? (i := 94) rfl)) rfl
theorem k5_95 : (Cond.methodLink RX9 166 yX9_within : Cond) ∈ gtbl := mem_g (mem_t5 (List.mem_of_getElem? (i := 95) (by decide +kernel))) rfl
theorem k5_96 : (Cond.static yX9_within : Cond) ∈ gtbl := mem_g (mem_t5 (List.mem_of_getElem? (i := 96) (by decide +kernel))) rfl
theorem k5_97 : (Cond.code yX9_within cX9_within 3 (some FieldType.int) : Cond) ∈ gtbl := mem_g (mem_t5 (List.mem_of_getElem? (i := 97) rfl)) rfl
theorem k5_98 : (Cond.methodLink RL 41 yX9_man : Cond) ∈ gtbl := mem_g (mem_t5 (List.mem_of_getElem? (i := 98) (by decide +kernel))) rfl
theorem k5_99 : (Cond.instanceMethod yX9_man : Cond) ∈ gtbl := mem_g (mem_t5 (List.mem_of_getElem? (i := 99) (by decide +kernel))) rfl
theorem k5_100 : (Cond.selects RX9 yX9_man yX9_man : Cond) ∈ gtbl := mem_g (mem_t5 (List.mem_of_getElem? (i := 100) (by decide +kernel))) rfl
theorem k5_101 : (Cond.code yX9_man cX9_man 4 (some FieldType.int) : Cond) ∈ gtbl := mem_g (mem_t5 (List.mem_of_getElem? (i := 101) rfl)) rfl
theorem k5_102 : (Cond.methodLink RL 46 yX9_put : Cond) ∈ gtbl := mem_g (mem_t5 (List.mem_of_getElem? (i := 102) (by decide +kernel))) rfl
theorem k5_103 : (Cond.instanceMethod yX9_put : Cond) ∈ gtbl := mem_g (mem_t5 (List.mem_of_getElem? (i := 103) (by decide +kernel))) rfl
theorem k5_104 : (Cond.selects RX9 yX9_put yX9_put : Cond) ∈ gtbl := mem_g (mem_t5 (List.mem_of_getElem? (i := 104) (by decide +kernel))) rfl
theorem k5_105 : (Cond.code yX9_put cX9_put 5 (some FieldType.int) : Cond) ∈ gtbl := mem_g (mem_t5 (List.mem_of_getElem? (i := 105) rfl)) rfl
theorem k5_106 : (Cond.methodLink RL 50 yX9_told : Cond) ∈ gtbl := mem_g (mem_t5 (List.mem_of_getElem? (i := 106) (by decide +kernel))) rfl
theorem k5_107 : (Cond.instanceMethod yX9_told : Cond) ∈ gtbl := mem_g (mem_t5 (List.mem_of_getElem? (i := 107) (by decide +kernel))) rfl
theorem k5_108 : (Cond.selects RX9 yX9_told yX9_told : Cond) ∈ gtbl := mem_g (mem_t5 (List.mem_of_getElem? (i := 108) (by decide +kernel))) rfl
theorem k5_109 : (Cond.code yX9_told cX9_told 3 (some FieldType.int) : Cond) ∈ gtbl := mem_g (mem_t5 (List.mem_of_getElem? (i := 109) rfl)) rfl
theorem k5_110 : (Cond.methodLink RL 54 yX9_bout : Cond) ∈ gtbl := mem_g (mem_t5 (List.mem_of_getElem? (i := 110) (by decide +kernel))) rfl
theorem k5_111 : (Cond.instanceMethod yX9_bout : Cond) ∈ gtbl := mem_g (mem_t5 (List.mem_of_getElem? (i := 111) (by decide +kernel))) rfl
theorem k5_112 : (Cond.selects RX9 yX9_bout yX9_bout : Cond) ∈ gtbl := mem_g (mem_t5 (List.mem_of_getElem? (i := 112) (by decide +kernel))) rfl
theorem k5_113 : (Cond.code yX9_bout cX9_bout 5 (some FieldType.int) : Cond) ∈ gtbl := mem_g (mem_t5 (List.mem_of_getElem? (i := 113) rfl)) rfl
theorem k5_114 : (Cond.methodLink RX9 217 yX9_areTwoMen : Cond) ∈ gtbl := mem_g (mem_t5 (List.mem_of_getElem? (i := 114) (by decide +kernel))) rfl
theorem k5_116 : (Cond.instanceMethod yX9_areTwoMen : Cond) ∈ gtbl := mem_g (mem_t5 (List.mem_of_getElem? (i := 116) (by decide +kernel))) rfl
theorem k5_117 : (Cond.code yX9_areTwoMen cX9_areTwoMen 2 (some FieldType.boolean) : Cond) ∈ gtbl := mem_g (mem_t5 (List.mem_of_getElem? (i := 117) rfl)) rfl
theorem k5_118 : (Cond.methodLink RX9 86 yX9_areTwo : Cond) ∈ gtbl := mem_g (mem_t5 (List.mem_of_getElem? (i := 118) (by decide +kernel))) rfl
theorem k5_120 : (Cond.instanceMethod yX9_areTwo : Cond) ∈ gtbl := mem_g (mem_t5 (List.mem_of_getElem? (i := 120) (by decide +kernel))) rfl
theorem k5_121 : (Cond.code yX9_areTwo cX9_areTwo 3 (some FieldType.boolean) : Cond) ∈ gtbl := mem_g (mem_t5 (List.mem_of_getElem? (i := 121) rfl)) rfl
theorem k5_122 : (Cond.methodLink RX9 220 yX9_isPlan : Cond) ∈ gtbl := mem_g (mem_t5 (List.mem_of_getElem? (i := 122) (by decide +kernel))) rfl
theorem k5_123 : (Cond.static yX9_isPlan : Cond) ∈ gtbl := mem_g (mem_t5 (List.mem_of_getElem? (i := 123) (by decide +kernel))) rfl
theorem k5_124 : (Cond.code yX9_isPlan cX9_isPlan 1 (some FieldType.boolean) : Cond) ∈ gtbl := mem_g (mem_t5 (List.mem_of_getElem? (i := 124) rfl)) rfl
theorem k5_125 : (Cond.constant RX9 90 (262143 : Int32) : Cond) ∈ gtbl := mem_g (mem_t5 (List.mem_of_getElem? (i := 125) (by decide +kernel))) rfl
theorem k5_126 : (Cond.methodLink RX9 223 yX9_bout0 : Cond) ∈ gtbl := mem_g (mem_t5 (List.mem_of_getElem? (i := 126) (by decide +kernel))) rfl
theorem k5_128 : (Cond.instanceMethod yX9_bout0 : Cond) ∈ gtbl := mem_g (mem_t5 (List.mem_of_getElem? (i := 128) (by decide +kernel))) rfl
theorem k5_129 : (Cond.code yX9_bout0 cX9_bout0 5 none : Cond) ∈ gtbl := mem_g (mem_t5 (List.mem_of_getElem? (i := 129) rfl)) rfl
theorem k5_130 : (Cond.methodLink RX9 210 yX9_begins : Cond) ∈ gtbl := mem_g (mem_t5 (List.mem_of_getElem? (i := 130) (by decide +kernel))) rfl
theorem k5_132 : (Cond.instanceMethod yX9_begins : Cond) ∈ gtbl := mem_g (mem_t5 (List.mem_of_getElem? (i := 132) (by decide +kernel))) rfl
theorem k5_133 : (Cond.code yX9_begins cX9_begins 4 none : Cond) ∈ gtbl := mem_g (mem_t5 (List.mem_of_getElem? (i := 133) rfl)) rfl
theorem k5_134 : (Cond.methodLink RX9 182 yX9_standsOf : Cond) ∈ gtbl := mem_g (mem_t5 (List.mem_of_getElem? (i := 134) (by decide +kernel))) rfl
theorem k5_136 : (Cond.instanceMethod yX9_standsOf : Cond) ∈ gtbl := mem_g (mem_t5 (List.mem_of_getElem? (i := 136) (by decide +kernel))) rfl
theorem k5_137 : (Cond.code yX9_standsOf cX9_standsOf 4 (some FieldType.int) : Cond) ∈ gtbl := mem_g (mem_t5 (List.mem_of_getElem? (i := 137) rfl)) rfl
theorem k5_138 : (Cond.methodLink RX9 191 yX9_startsOf : Cond) ∈ gtbl := mem_g (mem_t5 (List.mem_of_getElem? (i := 138) (by decide +kernel))) rfl
theorem k5_140 : (Cond.instanceMethod yX9_startsOf : Cond) ∈ gtbl := mem_g (mem_t5 (List.mem_of_getElem? (i := 140) (by decide +kernel))) rfl
theorem k5_141 : (Cond.code yX9_startsOf cX9_startsOf 3 (some FieldType.int) : Cond) ∈ gtbl := mem_g (mem_t5 (List.mem_of_getElem? (i := 141) rfl)) rfl
theorem k5_142 : (Cond.methodLink RX9 214 yX9_bouts : Cond) ∈ gtbl := mem_g (mem_t5 (List.mem_of_getElem? (i := 142) (by decide +kernel))) rfl
theorem k5_144 : (Cond.instanceMethod yX9_bouts : Cond) ∈ gtbl := mem_g (mem_t5 (List.mem_of_getElem? (i := 144) (by decide +kernel))) rfl
theorem k5_145 : (Cond.code yX9_bouts cX9_bouts 11 none : Cond) ∈ gtbl := mem_g (mem_t5 (List.mem_of_getElem? (i := 145) rfl)) rfl
theorem k5_146 : (Cond.methodLink RX9 207 yX9_strengthOf : Cond) ∈ gtbl := mem_g (mem_t5 (List.mem_of_getElem? (i := 146) (by decide +kernel))) rfl
theorem k5_148 : (Cond.instanceMethod yX9_strengthOf : Cond) ∈ gtbl := mem_g (mem_t5 (List.mem_of_getElem? (i := 148) (by decide +kernel))) rfl
theorem k5_149 : (Cond.code yX9_strengthOf cX9_strengthOf 8 (some FieldType.int) : Cond) ∈ gtbl := mem_g (mem_t5 (List.mem_of_getElem? (i := 149) rfl)) rfl
theorem k5_150 : (Cond.methodLink RX9 197 yX9_forcesOf : Cond) ∈ gtbl := mem_g (mem_t5 (List.mem_of_getElem? (i := 150) (by decide +kernel))) rfl
theorem k5_152 : (Cond.instanceMethod yX9_forcesOf : Cond) ∈ gtbl := mem_g (mem_t5 (List.mem_of_getElem? (i := 152) (by decide +kernel))) rfl
theorem k5_153 : (Cond.code yX9_forcesOf cX9_forcesOf 7 (some FieldType.int) : Cond) ∈ gtbl := mem_g (mem_t5 (List.mem_of_getElem? (i := 153) rfl)) rfl
theorem k5_154 : (Cond.methodLink RX9 173 yX9_plainForce : Cond) ∈ gtbl := mem_g (mem_t5 (List.mem_of_getElem? (i := 154) (by decide +kernel))) rfl
theorem k5_156 : (Cond.instanceMethod yX9_plainForce : Cond) ∈ gtbl := mem_g (mem_t5 (List.mem_of_getElem? (i := 156) (by decide +kernel))) rfl
theorem k5_157 : (Cond.code yX9_plainForce cX9_plainForce 4 (some FieldType.int) : Cond) ∈ gtbl := mem_g (mem_t5 (List.mem_of_getElem? (i := 157) rfl)) rfl
theorem k5_158 : (Cond.methodLink RL 58 yX9_fight : Cond) ∈ gtbl := mem_g (mem_t5 (List.mem_of_getElem? (i := 158) (by decide +kernel))) rfl
theorem k5_159 : (Cond.instanceMethod yX9_fight : Cond) ∈ gtbl := mem_g (mem_t5 (List.mem_of_getElem? (i := 159) (by decide +kernel))) rfl
theorem k5_160 : (Cond.selects RX9 yX9_fight yX9_fight : Cond) ∈ gtbl := mem_g (mem_t5 (List.mem_of_getElem? (i := 160) (by decide +kernel))) rfl
theorem k5_161 : (Cond.code yX9_fight cX9_fight 5 (some FieldType.int) : Cond) ∈ gtbl := mem_g (mem_t5 (List.mem_of_getElem? (i := 161) rfl)) rfl
theorem k5_162 : (Cond.methodLink RX9 227 yX9_fights : Cond) ∈ gtbl := mem_g (mem_t5 (List.mem_of_getElem? (i := 162) (by decide +kernel))) rfl
theorem k5_164 : (Cond.instanceMethod yX9_fights : Cond) ∈ gtbl := mem_g (mem_t5 (List.mem_of_getElem? (i := 164) (by decide +kernel))) rfl
theorem k5_165 : (Cond.code yX9_fights cX9_fights 7 none : Cond) ∈ gtbl := mem_g (mem_t5 (List.mem_of_getElem? (i := 165) rfl)) rfl
theorem k5_166 : (Cond.methodLink RL 62 yX9_best : Cond) ∈ gtbl := mem_g (mem_t5 (List.mem_of_getElem? (i := 166) (by decide +kernel))) rfl
theorem k5_167 : (Cond.instanceMethod yX9_best : Cond) ∈ gtbl := mem_g (mem_t5 (List.mem_of_getElem? (i := 167) (by decide +kernel))) rfl
theorem k5_168 : (Cond.selects RX9 yX9_best yX9_best : Cond) ∈ gtbl := mem_g (mem_t5 (List.mem_of_getElem? (i := 168) (by decide +kernel))) rfl
theorem k5_169 : (Cond.code yX9_best cX9_best 9 (some FieldType.int) : Cond) ∈ gtbl := mem_g (mem_t5 (List.mem_of_getElem? (i := 169) rfl)) rfl
theorem k5_170 : (Cond.methodLink RX9 230 yX9_wholeOf : Cond) ∈ gtbl := mem_g (mem_t5 (List.mem_of_getElem? (i := 170) (by decide +kernel))) rfl
theorem k5_171 : (Cond.static yX9_wholeOf : Cond) ∈ gtbl := mem_g (mem_t5 (List.mem_of_getElem? (i := 171) (by decide +kernel))) rfl
theorem k5_172 : (Cond.code yX9_wholeOf cX9_wholeOf 5 (some FieldType.int) : Cond) ∈ gtbl := mem_g (mem_t5 (List.mem_of_getElem? (i := 172) rfl)) rfl
theorem k5_173 : (Cond.methodLink RL 66 yX9_sure : Cond) ∈ gtbl := mem_g (mem_t5 (List.mem_of_getElem? (i := 173) (by decide +kernel))) rfl
theorem k5_174 : (Cond.instanceMethod yX9_sure : Cond) ∈ gtbl := mem_g (mem_t5 (List.mem_of_getElem? (i := 174) (by decide +kernel))) rfl
theorem k5_175 : (Cond.selects RX9 yX9_sure yX9_sure : Cond) ∈ gtbl := mem_g (mem_t5 (List.mem_of_getElem? (i := 175) (by decide +kernel))) rfl
theorem k5_176 : (Cond.code yX9_sure cX9_sure 8 (some FieldType.int) : Cond) ∈ gtbl := mem_g (mem_t5 (List.mem_of_getElem? (i := 176) rfl)) rfl
theorem k5_177 : (Cond.methodLink RX9 233 yX9_winsOf : Cond) ∈ gtbl := mem_g (mem_t5 (List.mem_of_getElem? (i := 177) (by decide +kernel))) rfl
theorem k5_179 : (Cond.instanceMethod yX9_winsOf : Cond) ∈ gtbl := mem_g (mem_t5 (List.mem_of_getElem? (i := 179) (by decide +kernel))) rfl
theorem k5_180 : (Cond.code yX9_winsOf cX9_winsOf 5 (some FieldType.int) : Cond) ∈ gtbl := mem_g (mem_t5 (List.mem_of_getElem? (i := 180) rfl)) rfl
theorem k5_181 : (Cond.methodLink RL 71 yX9_chance : Cond) ∈ gtbl := mem_g (mem_t5 (List.mem_of_getElem? (i := 181) (by decide +kernel))) rfl
theorem k5_182 : (Cond.instanceMethod yX9_chance : Cond) ∈ gtbl := mem_g (mem_t5 (List.mem_of_getElem? (i := 182) (by decide +kernel))) rfl
theorem k5_183 : (Cond.selects RX9 yX9_chance yX9_chance : Cond) ∈ gtbl := mem_g (mem_t5 (List.mem_of_getElem? (i := 183) (by decide +kernel))) rfl
theorem k5_184 : (Cond.code yX9_chance cX9_chance 7 (some FieldType.long) : Cond) ∈ gtbl := mem_g (mem_t5 (List.mem_of_getElem? (i := 184) rfl)) rfl
theorem k5_185 : (Cond.constantLong RX9 236 (-4611686018427387904 : Int64) : Cond) ∈ gtbl := mem_g (mem_t5 (List.mem_of_getElem? (i := 185) (by decide +kernel))) rfl
theorem k5_186 : (Cond.methodLink RX9 238 yX9_lowest : Cond) ∈ gtbl := mem_g (mem_t5 (List.mem_of_getElem? (i := 186) (by decide +kernel))) rfl
theorem k5_187 : (Cond.static yX9_lowest : Cond) ∈ gtbl := mem_g (mem_t5 (List.mem_of_getElem? (i := 187) (by decide +kernel))) rfl
theorem k5_188 : (Cond.code yX9_lowest cX9_lowest 11 (some FieldType.long) : Cond) ∈ gtbl := mem_g (mem_t5 (List.mem_of_getElem? (i := 188) rfl)) rfl
theorem k5_189 : (Cond.methodLink RL 75 yX9_knees : Cond) ∈ gtbl := mem_g (mem_t5 (List.mem_of_getElem? (i := 189) (by decide +kernel))) rfl
theorem k5_190 : (Cond.instanceMethod yX9_knees : Cond) ∈ gtbl := mem_g (mem_t5 (List.mem_of_getElem? (i := 190) (by decide +kernel))) rfl
theorem k5_191 : (Cond.selects RX9 yX9_knees yX9_knees : Cond) ∈ gtbl := mem_g (mem_t5 (List.mem_of_getElem? (i := 191) (by decide +kernel))) rfl
theorem k5_192 : (Cond.code yX9_knees cX9_knees 8 (some FieldType.int) : Cond) ∈ gtbl := mem_g (mem_t5 (List.mem_of_getElem? (i := 192) rfl)) rfl
theorem k5_193 : (Cond.methodLink RL 79 yX9_beats : Cond) ∈ gtbl := mem_g (mem_t5 (List.mem_of_getElem? (i := 193) (by decide +kernel))) rfl
theorem k5_194 : (Cond.instanceMethod yX9_beats : Cond) ∈ gtbl := mem_g (mem_t5 (List.mem_of_getElem? (i := 194) (by decide +kernel))) rfl
theorem k5_195 : (Cond.selects RX9 yX9_beats yX9_beats : Cond) ∈ gtbl := mem_g (mem_t5 (List.mem_of_getElem? (i := 195) (by decide +kernel))) rfl
theorem k5_196 : (Cond.code yX9_beats cX9_beats 6 (some FieldType.int) : Cond) ∈ gtbl := mem_g (mem_t5 (List.mem_of_getElem? (i := 196) rfl)) rfl
theorem k5_197 : (Cond.methodLink RL 83 yX9_meet : Cond) ∈ gtbl := mem_g (mem_t5 (List.mem_of_getElem? (i := 197) (by decide +kernel))) rfl
theorem k5_198 : (Cond.instanceMethod yX9_meet : Cond) ∈ gtbl := mem_g (mem_t5 (List.mem_of_getElem? (i := 198) (by decide +kernel))) rfl
theorem k5_199 : (Cond.selects RX9 yX9_meet yX9_meet : Cond) ∈ gtbl := mem_g (mem_t5 (List.mem_of_getElem? (i := 199) (by decide +kernel))) rfl
theorem k5_200 : (Cond.code yX9_meet cX9_meet 4 (some FieldType.int) : Cond) ∈ gtbl := mem_g (mem_t5 (List.mem_of_getElem? (i := 200) rfl)) rfl
theorem k5_201 : (Cond.methodLink RX9 242 yX9_plansWrong : Cond) ∈ gtbl := mem_g (mem_t5 (List.mem_of_getElem? (i := 201) (by decide +kernel))) rfl
theorem k5_203 : (Cond.instanceMethod yX9_plansWrong : Cond) ∈ gtbl := mem_g (mem_t5 (List.mem_of_getElem? (i := 203) (by decide +kernel))) rfl
theorem k5_204 : (Cond.code yX9_plansWrong cX9_plansWrong 4 (some FieldType.int) : Cond) ∈ gtbl := mem_g (mem_t5 (List.mem_of_getElem? (i := 204) rfl)) rfl
theorem k5_205 : (Cond.methodLink RX9 245 yX9_daysOf : Cond) ∈ gtbl := mem_g (mem_t5 (List.mem_of_getElem? (i := 205) (by decide +kernel))) rfl
theorem k5_207 : (Cond.instanceMethod yX9_daysOf : Cond) ∈ gtbl := mem_g (mem_t5 (List.mem_of_getElem? (i := 207) (by decide +kernel))) rfl
theorem k5_208 : (Cond.code yX9_daysOf cX9_daysOf 6 none : Cond) ∈ gtbl := mem_g (mem_t5 (List.mem_of_getElem? (i := 208) rfl)) rfl
theorem k5_209 : (Cond.methodLink RX9 248 yX9_leads : Cond) ∈ gtbl := mem_g (mem_t5 (List.mem_of_getElem? (i := 209) (by decide +kernel))) rfl
theorem k5_211 : (Cond.instanceMethod yX9_leads : Cond) ∈ gtbl := mem_g (mem_t5 (List.mem_of_getElem? (i := 211) (by decide +kernel))) rfl
theorem k5_212 : (Cond.code yX9_leads cX9_leads 4 (some FieldType.int) : Cond) ∈ gtbl := mem_g (mem_t5 (List.mem_of_getElem? (i := 212) rfl)) rfl
theorem k5_213 : (Cond.methodLink RL 87 yX9_run : Cond) ∈ gtbl := mem_g (mem_t5 (List.mem_of_getElem? (i := 213) (by decide +kernel))) rfl
theorem k5_214 : (Cond.instanceMethod yX9_run : Cond) ∈ gtbl := mem_g (mem_t5 (List.mem_of_getElem? (i := 214) (by decide +kernel))) rfl
theorem k5_215 : (Cond.selects RX9 yX9_run yX9_run : Cond) ∈ gtbl := mem_g (mem_t5 (List.mem_of_getElem? (i := 215) (by decide +kernel))) rfl
theorem k5_216 : (Cond.code yX9_run cX9_run 7 (some FieldType.int) : Cond) ∈ gtbl := mem_g (mem_t5 (List.mem_of_getElem? (i := 216) rfl)) rfl
theorem k5_217 : (Cond.methodLink RL 91 yX9_judge : Cond) ∈ gtbl := mem_g (mem_t5 (List.mem_of_getElem? (i := 217) (by decide +kernel))) rfl
theorem k5_218 : (Cond.instanceMethod yX9_judge : Cond) ∈ gtbl := mem_g (mem_t5 (List.mem_of_getElem? (i := 218) (by decide +kernel))) rfl
theorem k5_219 : (Cond.selects RX9 yX9_judge yX9_judge : Cond) ∈ gtbl := mem_g (mem_t5 (List.mem_of_getElem? (i := 219) (by decide +kernel))) rfl
theorem k5_220 : (Cond.code yX9_judge cX9_judge 6 (some FieldType.int) : Cond) ∈ gtbl := mem_g (mem_t5 (List.mem_of_getElem? (i := 220) rfl)) rfl
theorem k5_221 : (Cond.methodLink RX9 254 yX9_toldWrong : Cond) ∈ gtbl := mem_g (mem_t5 (List.mem_of_getElem? (i := 221) (by decide +kernel))) rfl
theorem k5_223 : (Cond.instanceMethod yX9_toldWrong : Cond) ∈ gtbl := mem_g (mem_t5 (List.mem_of_getElem? (i := 223) (by decide +kernel))) rfl
theorem k5_224 : (Cond.code yX9_toldWrong cX9_toldWrong 6 (some FieldType.int) : Cond) ∈ gtbl := mem_g (mem_t5 (List.mem_of_getElem? (i := 224) rfl)) rfl
theorem k5_225 : (Cond.methodLink RX9 251 yX9_sheetWrong : Cond) ∈ gtbl := mem_g (mem_t5 (List.mem_of_getElem? (i := 225) (by decide +kernel))) rfl
theorem k5_227 : (Cond.instanceMethod yX9_sheetWrong : Cond) ∈ gtbl := mem_g (mem_t5 (List.mem_of_getElem? (i := 227) (by decide +kernel))) rfl
theorem k5_228 : (Cond.code yX9_sheetWrong cX9_sheetWrong 2 (some FieldType.int) : Cond) ∈ gtbl := mem_g (mem_t5 (List.mem_of_getElem? (i := 228) rfl)) rfl
theorem k5_229 : (Cond.methodLink RX9 257 yX9_unlike : Cond) ∈ gtbl := mem_g (mem_t5 (List.mem_of_getElem? (i := 229) (by decide +kernel))) rfl
theorem k5_231 : (Cond.instanceMethod yX9_unlike : Cond) ∈ gtbl := mem_g (mem_t5 (List.mem_of_getElem? (i := 231) (by decide +kernel))) rfl
theorem k5_232 : (Cond.code yX9_unlike cX9_unlike 7 (some FieldType.int) : Cond) ∈ gtbl := mem_g (mem_t5 (List.mem_of_getElem? (i := 232) rfl)) rfl
theorem k5_233 : (Cond.methodLink RL 96 yX9_kinds : Cond) ∈ gtbl := mem_g (mem_t5 (List.mem_of_getElem? (i := 233) (by decide +kernel))) rfl
theorem k5_234 : (Cond.instanceMethod yX9_kinds : Cond) ∈ gtbl := mem_g (mem_t5 (List.mem_of_getElem? (i := 234) (by decide +kernel))) rfl
theorem k5_235 : (Cond.selects RX9 yX9_kinds yX9_kinds : Cond) ∈ gtbl := mem_g (mem_t5 (List.mem_of_getElem? (i := 235) (by decide +kernel))) rfl
theorem k5_236 : (Cond.code yX9_kinds cX9_kinds 13 (some FieldType.int) : Cond) ∈ gtbl := mem_g (mem_t5 (List.mem_of_getElem? (i := 236) rfl)) rfl
theorem k5_237 : (Cond.methodLink RL 100 yX9_acts : Cond) ∈ gtbl := mem_g (mem_t5 (List.mem_of_getElem? (i := 237) (by decide +kernel))) rfl
theorem k5_238 : (Cond.instanceMethod yX9_acts : Cond) ∈ gtbl := mem_g (mem_t5 (List.mem_of_getElem? (i := 238) (by decide +kernel))) rfl
theorem k5_239 : (Cond.selects RX9 yX9_acts yX9_acts : Cond) ∈ gtbl := mem_g (mem_t5 (List.mem_of_getElem? (i := 239) (by decide +kernel))) rfl
theorem k6_0 : (Cond.code yX9_acts cX9_acts 10 (some FieldType.int) : Cond) ∈ gtbl := mem_g (mem_t6 (List.mem_of_getElem? (i := 0) rfl)) rfl
theorem k6_1 : (Cond.methodLink RL 104 yX9_heavy : Cond) ∈ gtbl := mem_g (mem_t6 (List.mem_of_getElem? (i := 1) (by decide +kernel))) rfl
theorem k6_2 : (Cond.instanceMethod yX9_heavy : Cond) ∈ gtbl := mem_g (mem_t6 (List.mem_of_getElem? (i := 2) (by decide +kernel))) rfl
theorem k6_3 : (Cond.selects RX9 yX9_heavy yX9_heavy : Cond) ∈ gtbl := mem_g (mem_t6 (List.mem_of_getElem? (i := 3) (by decide +kernel))) rfl
theorem k6_4 : (Cond.code yX9_heavy cX9_heavy 13 (some FieldType.int) : Cond) ∈ gtbl := mem_g (mem_t6 (List.mem_of_getElem? (i := 4) rfl)) rfl
theorem k6_5 : (Cond.methodLink RL 108 yX9_laws : Cond) ∈ gtbl := mem_g (mem_t6 (List.mem_of_getElem? (i := 5) (by decide +kernel))) rfl
theorem k6_6 : (Cond.instanceMethod yX9_laws : Cond) ∈ gtbl := mem_g (mem_t6 (List.mem_of_getElem? (i := 6) (by decide +kernel))) rfl
theorem k6_7 : (Cond.selects RX9 yX9_laws yX9_laws : Cond) ∈ gtbl := mem_g (mem_t6 (List.mem_of_getElem? (i := 7) (by decide +kernel))) rfl
theorem k6_8 : (Cond.code yX9_laws cX9_laws 9 (some FieldType.int) : Cond) ∈ gtbl := mem_g (mem_t6 (List.mem_of_getElem? (i := 8) rfl)) rfl
theorem k6_9 : (Cond.methodLink RL 112 yX9_whose : Cond) ∈ gtbl := mem_g (mem_t6 (List.mem_of_getElem? (i := 9) (by decide +kernel))) rfl
theorem k6_10 : (Cond.instanceMethod yX9_whose : Cond) ∈ gtbl := mem_g (mem_t6 (List.mem_of_getElem? (i := 10) (by decide +kernel))) rfl
theorem k6_11 : (Cond.selects RX9 yX9_whose yX9_whose : Cond) ∈ gtbl := mem_g (mem_t6 (List.mem_of_getElem? (i := 11) (by decide +kernel))) rfl
theorem k6_12 : (Cond.code yX9_whose cX9_whose 8 (some FieldType.int) : Cond) ∈ gtbl := mem_g (mem_t6 (List.mem_of_getElem? (i := 12) rfl)) rfl
theorem k6_13 : (Cond.methodLink RL 116 yX9_film : Cond) ∈ gtbl := mem_g (mem_t6 (List.mem_of_getElem? (i := 13) (by decide +kernel))) rfl
theorem k6_14 : (Cond.instanceMethod yX9_film : Cond) ∈ gtbl := mem_g (mem_t6 (List.mem_of_getElem? (i := 14) (by decide +kernel))) rfl
theorem k6_15 : (Cond.selects RX9 yX9_film yX9_film : Cond) ∈ gtbl := mem_g (mem_t6 (List.mem_of_getElem? (i := 15) (by decide +kernel))) rfl
theorem k6_16 : (Cond.code yX9_film cX9_film 6 (some FieldType.int) : Cond) ∈ gtbl := mem_g (mem_t6 (List.mem_of_getElem? (i := 16) rfl)) rfl
theorem k6_17 : (Cond.methodLink RL 120 yX9_drawn : Cond) ∈ gtbl := mem_g (mem_t6 (List.mem_of_getElem? (i := 17) (by decide +kernel))) rfl
theorem k6_18 : (Cond.instanceMethod yX9_drawn : Cond) ∈ gtbl := mem_g (mem_t6 (List.mem_of_getElem? (i := 18) (by decide +kernel))) rfl
theorem k6_19 : (Cond.selects RX9 yX9_drawn yX9_drawn : Cond) ∈ gtbl := mem_g (mem_t6 (List.mem_of_getElem? (i := 19) (by decide +kernel))) rfl
theorem k6_20 : (Cond.code yX9_drawn cX9_drawn 5 (some FieldType.int) : Cond) ∈ gtbl := mem_g (mem_t6 (List.mem_of_getElem? (i := 20) rfl)) rfl
theorem k6_21 : (Cond.constant RX9 266 (99999 : Int32) : Cond) ∈ gtbl := mem_g (mem_t6 (List.mem_of_getElem? (i := 21) (by decide +kernel))) rfl
theorem k6_22 : (Cond.methodLink RX9 267 yX9_boutBy : Cond) ∈ gtbl := mem_g (mem_t6 (List.mem_of_getElem? (i := 22) (by decide +kernel))) rfl
theorem k6_24 : (Cond.instanceMethod yX9_boutBy : Cond) ∈ gtbl := mem_g (mem_t6 (List.mem_of_getElem? (i := 24) (by decide +kernel))) rfl
theorem k6_25 : (Cond.code yX9_boutBy cX9_boutBy 6 none : Cond) ∈ gtbl := mem_g (mem_t6 (List.mem_of_getElem? (i := 25) rfl)) rfl
theorem k6_26 : (Cond.constantLong RX9 260 (48271 : Int64) : Cond) ∈ gtbl := mem_g (mem_t6 (List.mem_of_getElem? (i := 26) (by decide +kernel))) rfl
theorem k6_27 : (Cond.constantLong RX9 262 (2147483647 : Int64) : Cond) ∈ gtbl := mem_g (mem_t6 (List.mem_of_getElem? (i := 27) (by decide +kernel))) rfl
theorem k6_28 : (Cond.constantLong RX9 264 (262144 : Int64) : Cond) ∈ gtbl := mem_g (mem_t6 (List.mem_of_getElem? (i := 28) (by decide +kernel))) rfl
theorem k6_29 : (Cond.methodLink RL 125 yX9_odds : Cond) ∈ gtbl := mem_g (mem_t6 (List.mem_of_getElem? (i := 29) (by decide +kernel))) rfl
theorem k6_30 : (Cond.instanceMethod yX9_odds : Cond) ∈ gtbl := mem_g (mem_t6 (List.mem_of_getElem? (i := 30) (by decide +kernel))) rfl
theorem k6_31 : (Cond.selects RX9 yX9_odds yX9_odds : Cond) ∈ gtbl := mem_g (mem_t6 (List.mem_of_getElem? (i := 31) (by decide +kernel))) rfl
theorem k6_32 : (Cond.code yX9_odds cX9_odds 9 (some FieldType.long) : Cond) ∈ gtbl := mem_g (mem_t6 (List.mem_of_getElem? (i := 32) rfl)) rfl
theorem k6_33 : (Cond.methodLink RL 129 yX9_image : Cond) ∈ gtbl := mem_g (mem_t6 (List.mem_of_getElem? (i := 33) (by decide +kernel))) rfl
theorem k6_34 : (Cond.instanceMethod yX9_image : Cond) ∈ gtbl := mem_g (mem_t6 (List.mem_of_getElem? (i := 34) (by decide +kernel))) rfl
theorem k6_35 : (Cond.selects RX9 yX9_image yX9_image : Cond) ∈ gtbl := mem_g (mem_t6 (List.mem_of_getElem? (i := 35) (by decide +kernel))) rfl
theorem k6_36 : (Cond.code yX9_image cX9_image 2 (some FieldType.int) : Cond) ∈ gtbl := mem_g (mem_t6 (List.mem_of_getElem? (i := 36) rfl)) rfl
theorem k6_37 : (Cond.methodLink RL 133 yX9_back : Cond) ∈ gtbl := mem_g (mem_t6 (List.mem_of_getElem? (i := 37) (by decide +kernel))) rfl
theorem k6_38 : (Cond.instanceMethod yX9_back : Cond) ∈ gtbl := mem_g (mem_t6 (List.mem_of_getElem? (i := 38) (by decide +kernel))) rfl
theorem k6_39 : (Cond.selects RX9 yX9_back yX9_back : Cond) ∈ gtbl := mem_g (mem_t6 (List.mem_of_getElem? (i := 39) (by decide +kernel))) rfl
theorem k6_40 : (Cond.code yX9_back cX9_back 2 (some FieldType.int) : Cond) ∈ gtbl := mem_g (mem_t6 (List.mem_of_getElem? (i := 40) rfl)) rfl
theorem k6_41 : (Cond.methodLink RL 137 yX9_sheet : Cond) ∈ gtbl := mem_g (mem_t6 (List.mem_of_getElem? (i := 41) (by decide +kernel))) rfl
theorem k6_42 : (Cond.instanceMethod yX9_sheet : Cond) ∈ gtbl := mem_g (mem_t6 (List.mem_of_getElem? (i := 42) (by decide +kernel))) rfl
theorem k6_43 : (Cond.selects RX9 yX9_sheet yX9_sheet : Cond) ∈ gtbl := mem_g (mem_t6 (List.mem_of_getElem? (i := 43) (by decide +kernel))) rfl
theorem k6_44 : (Cond.code yX9_sheet cX9_sheet 5 (some FieldType.int) : Cond) ∈ gtbl := mem_g (mem_t6 (List.mem_of_getElem? (i := 44) rfl)) rfl
theorem k6_45 : (Cond.methodLink RL 141 yX9_cell : Cond) ∈ gtbl := mem_g (mem_t6 (List.mem_of_getElem? (i := 45) (by decide +kernel))) rfl
theorem k6_46 : (Cond.instanceMethod yX9_cell : Cond) ∈ gtbl := mem_g (mem_t6 (List.mem_of_getElem? (i := 46) (by decide +kernel))) rfl
theorem k6_47 : (Cond.selects RX9 yX9_cell yX9_cell : Cond) ∈ gtbl := mem_g (mem_t6 (List.mem_of_getElem? (i := 47) (by decide +kernel))) rfl
theorem k6_48 : (Cond.code yX9_cell cX9_cell 4 (some FieldType.int) : Cond) ∈ gtbl := mem_g (mem_t6 (List.mem_of_getElem? (i := 48) rfl)) rfl
theorem k6_49 : (Cond.methodLink RL 145 yX9_copy : Cond) ∈ gtbl := mem_g (mem_t6 (List.mem_of_getElem? (i := 49) (by decide +kernel))) rfl
theorem k6_50 : (Cond.instanceMethod yX9_copy : Cond) ∈ gtbl := mem_g (mem_t6 (List.mem_of_getElem? (i := 50) (by decide +kernel))) rfl
theorem k6_51 : (Cond.selects RX9 yX9_copy yX9_copy : Cond) ∈ gtbl := mem_g (mem_t6 (List.mem_of_getElem? (i := 51) (by decide +kernel))) rfl
theorem k6_52 : (Cond.code yX9_copy cX9_copy 10 (some FieldType.int) : Cond) ∈ gtbl := mem_g (mem_t6 (List.mem_of_getElem? (i := 52) rfl)) rfl
theorem k6_53 : (Cond.methodLink RL 149 yX9_menBy : Cond) ∈ gtbl := mem_g (mem_t6 (List.mem_of_getElem? (i := 53) (by decide +kernel))) rfl
theorem k6_54 : (Cond.instanceMethod yX9_menBy : Cond) ∈ gtbl := mem_g (mem_t6 (List.mem_of_getElem? (i := 54) (by decide +kernel))) rfl
theorem k6_55 : (Cond.selects RX9 yX9_menBy yX9_menBy : Cond) ∈ gtbl := mem_g (mem_t6 (List.mem_of_getElem? (i := 55) (by decide +kernel))) rfl
theorem k6_56 : (Cond.code yX9_menBy cX9_menBy 9 (some FieldType.int) : Cond) ∈ gtbl := mem_g (mem_t6 (List.mem_of_getElem? (i := 56) rfl)) rfl
theorem k6_57 : (Cond.methodLink RX9 274 yX9_man : Cond) ∈ gtbl := mem_g (mem_t6 (List.mem_of_getElem? (i := 57) (by decide +kernel))) rfl
theorem k6_58 : (Cond.methodLink RL 153 yX9_taken : Cond) ∈ gtbl := mem_g (mem_t6 (List.mem_of_getElem? (i := 58) (by decide +kernel))) rfl
theorem k6_59 : (Cond.instanceMethod yX9_taken : Cond) ∈ gtbl := mem_g (mem_t6 (List.mem_of_getElem? (i := 59) (by decide +kernel))) rfl
theorem k6_60 : (Cond.selects RX9 yX9_taken yX9_taken : Cond) ∈ gtbl := mem_g (mem_t6 (List.mem_of_getElem? (i := 60) (by decide +kernel))) rfl
theorem k6_61 : (Cond.code yX9_taken cX9_taken 3 (some FieldType.int) : Cond) ∈ gtbl := mem_g (mem_t6 (List.mem_of_getElem? (i := 61) rfl)) rfl
theorem k6_62 : (Cond.methodLink RX9 277 yX9_isUnder : Cond) ∈ gtbl := mem_g (mem_t6 (List.mem_of_getElem? (i := 62) (by decide +kernel))) rfl
theorem k6_63 : (Cond.static yX9_isUnder : Cond) ∈ gtbl := mem_g (mem_t6 (List.mem_of_getElem? (i := 63) (by decide +kernel))) rfl
theorem k6_64 : (Cond.code yX9_isUnder cX9_isUnder 2 (some FieldType.boolean) : Cond) ∈ gtbl := mem_g (mem_t6 (List.mem_of_getElem? (i := 64) rfl)) rfl
theorem kp_0 : (Cond.selects RX1 yX1_step yX1_step : Cond) ∈ gtbl := mem_g (mem_ps (List.mem_of_getElem? (i := 0) (by decide +kernel))) rfl
theorem kp_1 : (Cond.selects RX1 yX1_byteAt yX1_byteAt : Cond) ∈ gtbl := mem_g (mem_ps (List.mem_of_getElem? (i := 1) (by decide +kernel))) rfl
theorem kp_2 : (Cond.selects RX1 yX1_stepOverWord yX1_stepOverWord : Cond) ∈ gtbl := mem_g (mem_ps (List.mem_of_getElem? (i := 2) (by decide +kernel))) rfl
theorem kp_3 : (Cond.selects RX1 yX1_stepOverNumber yX1_stepOverNumber : Cond) ∈ gtbl := mem_g (mem_ps (List.mem_of_getElem? (i := 3) (by decide +kernel))) rfl
theorem kp_4 : (Cond.selects RX1 yX1_takes yX1_takes : Cond) ∈ gtbl := mem_g (mem_ps (List.mem_of_getElem? (i := 4) (by decide +kernel))) rfl
theorem kp_5 : (Cond.selects RX1 yX1_any yX1_any : Cond) ∈ gtbl := mem_g (mem_ps (List.mem_of_getElem? (i := 5) (by decide +kernel))) rfl
theorem kp_6 : (Cond.selects RX1 yX1_all yX1_all : Cond) ∈ gtbl := mem_g (mem_ps (List.mem_of_getElem? (i := 6) (by decide +kernel))) rfl
theorem kp_7 : (Cond.selects RX1 yX1_truth yX1_truth : Cond) ∈ gtbl := mem_g (mem_ps (List.mem_of_getElem? (i := 7) (by decide +kernel))) rfl
theorem kp_8 : (Cond.selects RX1 yX1_opens yX1_opens : Cond) ∈ gtbl := mem_g (mem_ps (List.mem_of_getElem? (i := 8) (by decide +kernel))) rfl
theorem kp_9 : (Cond.selects RX1 yX1_sum yX1_sum : Cond) ∈ gtbl := mem_g (mem_ps (List.mem_of_getElem? (i := 9) (by decide +kernel))) rfl
theorem kp_10 : (Cond.selects RX1 yX1_term yX1_term : Cond) ∈ gtbl := mem_g (mem_ps (List.mem_of_getElem? (i := 10) (by decide +kernel))) rfl
theorem kp_11 : (Cond.selects RX1 yX1_one yX1_one : Cond) ∈ gtbl := mem_g (mem_ps (List.mem_of_getElem? (i := 11) (by decide +kernel))) rfl
theorem kp_12 : (Cond.selects RX8 yX8_textAt yX8_textAt : Cond) ∈ gtbl := mem_g (mem_ps (List.mem_of_getElem? (i := 12) (by decide +kernel))) rfl
theorem kp_13 : (Cond.selects RX8 yX8_theLaw yX8_theLaw : Cond) ∈ gtbl := mem_g (mem_ps (List.mem_of_getElem? (i := 13) (by decide +kernel))) rfl
theorem kp_14 : (Cond.selects RX8 yX8_isPair yX8_isPair : Cond) ∈ gtbl := mem_g (mem_ps (List.mem_of_getElem? (i := 14) (by decide +kernel))) rfl
theorem kp_15 : (Cond.selects RX8 yX8_areTwo yX8_areTwo : Cond) ∈ gtbl := mem_g (mem_ps (List.mem_of_getElem? (i := 15) (by decide +kernel))) rfl
theorem kp_16 : (Cond.selects RX8 yX8_theOne yX8_theOne : Cond) ∈ gtbl := mem_g (mem_ps (List.mem_of_getElem? (i := 16) (by decide +kernel))) rfl
theorem kp_17 : (Cond.selects RX8 yX8_theOther yX8_theOther : Cond) ∈ gtbl := mem_g (mem_ps (List.mem_of_getElem? (i := 17) (by decide +kernel))) rfl
theorem kp_18 : (Cond.selects RX7 yX7_pushes yX7_pushes : Cond) ∈ gtbl := mem_g (mem_ps (List.mem_of_getElem? (i := 18) (by decide +kernel))) rfl
theorem kp_19 : (Cond.selects RX0 yX0_cellAtLast yX0_cellAtLast : Cond) ∈ gtbl := mem_g (mem_ps (List.mem_of_getElem? (i := 19) (by decide +kernel))) rfl
theorem kp_20 : (Cond.selects RX8 yX8_winnerOf yX8_winnerOf : Cond) ∈ gtbl := mem_g (mem_ps (List.mem_of_getElem? (i := 20) (by decide +kernel))) rfl
theorem kp_21 : (Cond.selects RX8 yX8_clash yX8_clash : Cond) ∈ gtbl := mem_g (mem_ps (List.mem_of_getElem? (i := 21) (by decide +kernel))) rfl
theorem kp_22 : (Cond.selects RX8 yX8_winsAgainstAll yX8_winsAgainstAll : Cond) ∈ gtbl := mem_g (mem_ps (List.mem_of_getElem? (i := 22) (by decide +kernel))) rfl
theorem kp_23 : (Cond.selects RX8 yX8_pairUp yX8_pairUp : Cond) ∈ gtbl := mem_g (mem_ps (List.mem_of_getElem? (i := 23) (by decide +kernel))) rfl
theorem kp_24 : (Cond.selects RX8 yX8_plansFault yX8_plansFault : Cond) ∈ gtbl := mem_g (mem_ps (List.mem_of_getElem? (i := 24) (by decide +kernel))) rfl
theorem kp_25 : (Cond.selects RX8 yX8_sheetFault yX8_sheetFault : Cond) ∈ gtbl := mem_g (mem_ps (List.mem_of_getElem? (i := 25) (by decide +kernel))) rfl
theorem kp_26 : (Cond.selects RX8 yX8_isSheet yX8_isSheet : Cond) ∈ gtbl := mem_g (mem_ps (List.mem_of_getElem? (i := 26) (by decide +kernel))) rfl
theorem kp_27 : (Cond.selects RX8 yX8_sheetAt yX8_sheetAt : Cond) ∈ gtbl := mem_g (mem_ps (List.mem_of_getElem? (i := 27) (by decide +kernel))) rfl
theorem kp_28 : (Cond.selects RX8 yX8_passDays yX8_passDays : Cond) ∈ gtbl := mem_g (mem_ps (List.mem_of_getElem? (i := 28) (by decide +kernel))) rfl
theorem kp_29 : (Cond.selects RX8 yX8_toldFault yX8_toldFault : Cond) ∈ gtbl := mem_g (mem_ps (List.mem_of_getElem? (i := 29) (by decide +kernel))) rfl
theorem kp_30 : (Cond.selects RX8 yX8_cellsFault yX8_cellsFault : Cond) ∈ gtbl := mem_g (mem_ps (List.mem_of_getElem? (i := 30) (by decide +kernel))) rfl
theorem kp_31 : (Cond.selects RX8 yX8_wouldBeSo yX8_wouldBeSo : Cond) ∈ gtbl := mem_g (mem_ps (List.mem_of_getElem? (i := 31) (by decide +kernel))) rfl
theorem kp_32 : (Cond.selects RX8 yX8_goThroughByLots yX8_goThroughByLots : Cond) ∈ gtbl := mem_g (mem_ps (List.mem_of_getElem? (i := 32) (by decide +kernel))) rfl
theorem kp_33 : (Cond.selects RX9 yX9_next yX9_next : Cond) ∈ gtbl := mem_g (mem_ps (List.mem_of_getElem? (i := 33) (by decide +kernel))) rfl
theorem kp_34 : (Cond.selects RX9 yX9_wordFrom yX9_wordFrom : Cond) ∈ gtbl := mem_g (mem_ps (List.mem_of_getElem? (i := 34) (by decide +kernel))) rfl
theorem kp_35 : (Cond.selects RX9 yX9_eRead yX9_eRead : Cond) ∈ gtbl := mem_g (mem_ps (List.mem_of_getElem? (i := 35) (by decide +kernel))) rfl
theorem kp_36 : (Cond.selects RX9 yX9_puts yX9_puts : Cond) ∈ gtbl := mem_g (mem_ps (List.mem_of_getElem? (i := 36) (by decide +kernel))) rfl
theorem kp_37 : (Cond.selects RX9 yX9_unwinds yX9_unwinds : Cond) ∈ gtbl := mem_g (mem_ps (List.mem_of_getElem? (i := 37) (by decide +kernel))) rfl
theorem kp_38 : (Cond.selects RX9 yX9_opensOne yX9_opensOne : Cond) ∈ gtbl := mem_g (mem_ps (List.mem_of_getElem? (i := 38) (by decide +kernel))) rfl
theorem kp_39 : (Cond.selects RX9 yX9_holds yX9_holds : Cond) ∈ gtbl := mem_g (mem_ps (List.mem_of_getElem? (i := 39) (by decide +kernel))) rfl
theorem kp_40 : (Cond.selects RX9 yX9_signOf yX9_signOf : Cond) ∈ gtbl := mem_g (mem_ps (List.mem_of_getElem? (i := 40) (by decide +kernel))) rfl
theorem kp_41 : (Cond.selects RX9 yX9_between yX9_between : Cond) ∈ gtbl := mem_g (mem_ps (List.mem_of_getElem? (i := 41) (by decide +kernel))) rfl
theorem kp_42 : (Cond.selects RX9 yX9_isMan yX9_isMan : Cond) ∈ gtbl := mem_g (mem_ps (List.mem_of_getElem? (i := 42) (by decide +kernel))) rfl
theorem kp_43 : (Cond.selects RX9 yX9_asksOf yX9_asksOf : Cond) ∈ gtbl := mem_g (mem_ps (List.mem_of_getElem? (i := 43) (by decide +kernel))) rfl
theorem kp_44 : (Cond.selects RX9 yX9_says yX9_says : Cond) ∈ gtbl := mem_g (mem_ps (List.mem_of_getElem? (i := 44) (by decide +kernel))) rfl
theorem kp_45 : (Cond.selects RX9 yX9_areTwoMen yX9_areTwoMen : Cond) ∈ gtbl := mem_g (mem_ps (List.mem_of_getElem? (i := 45) (by decide +kernel))) rfl
theorem kp_46 : (Cond.selects RX9 yX9_areTwo yX9_areTwo : Cond) ∈ gtbl := mem_g (mem_ps (List.mem_of_getElem? (i := 46) (by decide +kernel))) rfl
theorem kp_47 : (Cond.selects RX9 yX9_bout0 yX9_bout0 : Cond) ∈ gtbl := mem_g (mem_ps (List.mem_of_getElem? (i := 47) (by decide +kernel))) rfl
theorem kp_48 : (Cond.selects RX9 yX9_begins yX9_begins : Cond) ∈ gtbl := mem_g (mem_ps (List.mem_of_getElem? (i := 48) (by decide +kernel))) rfl
theorem kp_49 : (Cond.selects RX9 yX9_standsOf yX9_standsOf : Cond) ∈ gtbl := mem_g (mem_ps (List.mem_of_getElem? (i := 49) (by decide +kernel))) rfl
theorem kp_50 : (Cond.selects RX9 yX9_startsOf yX9_startsOf : Cond) ∈ gtbl := mem_g (mem_ps (List.mem_of_getElem? (i := 50) (by decide +kernel))) rfl
theorem kp_51 : (Cond.selects RX9 yX9_bouts yX9_bouts : Cond) ∈ gtbl := mem_g (mem_ps (List.mem_of_getElem? (i := 51) (by decide +kernel))) rfl
theorem kp_52 : (Cond.selects RX9 yX9_strengthOf yX9_strengthOf : Cond) ∈ gtbl := mem_g (mem_ps (List.mem_of_getElem? (i := 52) (by decide +kernel))) rfl
theorem kp_53 : (Cond.selects RX9 yX9_forcesOf yX9_forcesOf : Cond) ∈ gtbl := mem_g (mem_ps (List.mem_of_getElem? (i := 53) (by decide +kernel))) rfl
theorem kp_54 : (Cond.selects RX9 yX9_plainForce yX9_plainForce : Cond) ∈ gtbl := mem_g (mem_ps (List.mem_of_getElem? (i := 54) (by decide +kernel))) rfl
theorem kp_55 : (Cond.selects RX9 yX9_fights yX9_fights : Cond) ∈ gtbl := mem_g (mem_ps (List.mem_of_getElem? (i := 55) (by decide +kernel))) rfl
theorem kp_56 : (Cond.selects RX9 yX9_winsOf yX9_winsOf : Cond) ∈ gtbl := mem_g (mem_ps (List.mem_of_getElem? (i := 56) (by decide +kernel))) rfl
theorem kp_57 : (Cond.selects RX9 yX9_plansWrong yX9_plansWrong : Cond) ∈ gtbl := mem_g (mem_ps (List.mem_of_getElem? (i := 57) (by decide +kernel))) rfl
theorem kp_58 : (Cond.selects RX9 yX9_daysOf yX9_daysOf : Cond) ∈ gtbl := mem_g (mem_ps (List.mem_of_getElem? (i := 58) (by decide +kernel))) rfl
theorem kp_59 : (Cond.selects RX9 yX9_leads yX9_leads : Cond) ∈ gtbl := mem_g (mem_ps (List.mem_of_getElem? (i := 59) (by decide +kernel))) rfl
theorem kp_60 : (Cond.selects RX9 yX9_toldWrong yX9_toldWrong : Cond) ∈ gtbl := mem_g (mem_ps (List.mem_of_getElem? (i := 60) (by decide +kernel))) rfl
theorem kp_61 : (Cond.selects RX9 yX9_sheetWrong yX9_sheetWrong : Cond) ∈ gtbl := mem_g (mem_ps (List.mem_of_getElem? (i := 61) (by decide +kernel))) rfl
theorem kp_62 : (Cond.selects RX9 yX9_unlike yX9_unlike : Cond) ∈ gtbl := mem_g (mem_ps (List.mem_of_getElem? (i := 62) (by decide +kernel))) rfl
theorem kp_63 : (Cond.selects RX9 yX9_boutBy yX9_boutBy : Cond) ∈ gtbl := mem_g (mem_ps (List.mem_of_getElem? (i := 63) (by decide +kernel))) rfl
theorem iG0 : ∀ w ∈ u_ws RX0 TX0 6, w ∈ gtbl := fun w h => mem_g ((by decide +kernel : ∀ w ∈ u_ws RX0 TX0 6, w ∈ lw_tbl) w h) ((by decide +kernel : ∀ w ∈ u_ws RX0 TX0 6, goodWord w = true) w h)
theorem iG1 : ∀ w ∈ u_ws RX1 TX1 7, w ∈ gtbl := fun w h => mem_g ((by decide +kernel : ∀ w ∈ u_ws RX1 TX1 7, w ∈ lw_tbl) w h) ((by decide +kernel : ∀ w ∈ u_ws RX1 TX1 7, goodWord w = true) w h)
theorem iG2 : ∀ w ∈ u_ws RX2 TX2 1, w ∈ gtbl := fun w h => mem_g ((by decide +kernel : ∀ w ∈ u_ws RX2 TX2 1, w ∈ lw_tbl) w h) ((by decide +kernel : ∀ w ∈ u_ws RX2 TX2 1, goodWord w = true) w h)
theorem iG3 : ∀ w ∈ u_ws RX3 TX3 3, w ∈ gtbl := fun w h => mem_g ((by decide +kernel : ∀ w ∈ u_ws RX3 TX3 3, w ∈ lw_tbl) w h) ((by decide +kernel : ∀ w ∈ u_ws RX3 TX3 3, goodWord w = true) w h)
theorem iG4 : ∀ w ∈ u_ws RX4 TX4 6, w ∈ gtbl := fun w h => mem_g ((by decide +kernel : ∀ w ∈ u_ws RX4 TX4 6, w ∈ lw_tbl) w h) ((by decide +kernel : ∀ w ∈ u_ws RX4 TX4 6, goodWord w = true) w h)
theorem iG5 : ∀ w ∈ u_ws RX5 TX5 4, w ∈ gtbl := fun w h => mem_g ((by decide +kernel : ∀ w ∈ u_ws RX5 TX5 4, w ∈ lw_tbl) w h) ((by decide +kernel : ∀ w ∈ u_ws RX5 TX5 4, goodWord w = true) w h)
theorem iG6 : ∀ w ∈ u_ws RX6 TX6 3, w ∈ gtbl := fun w h => mem_g ((by decide +kernel : ∀ w ∈ u_ws RX6 TX6 3, w ∈ lw_tbl) w h) ((by decide +kernel : ∀ w ∈ u_ws RX6 TX6 3, goodWord w = true) w h)
theorem iG7 : ∀ w ∈ u_ws RX7 TX7 7, w ∈ gtbl := fun w h => mem_g ((by decide +kernel : ∀ w ∈ u_ws RX7 TX7 7, w ∈ lw_tbl) w h) ((by decide +kernel : ∀ w ∈ u_ws RX7 TX7 7, goodWord w = true) w h)
theorem iG8 : ∀ w ∈ u_ws RX8 TX8 11, w ∈ gtbl := fun w h => mem_g ((by decide +kernel : ∀ w ∈ u_ws RX8 TX8 11, w ∈ lw_tbl) w h) ((by decide +kernel : ∀ w ∈ u_ws RX8 TX8 11, goodWord w = true) w h)
theorem iG9 : ∀ w ∈ u_ws RX9 TX9 39, w ∈ gtbl := fun w h => mem_g ((by decide +kernel : ∀ w ∈ u_ws RX9 TX9 39, w ∈ lw_tbl) w h) ((by decide +kernel : ∀ w ∈ u_ws RX9 TX9 39, goodWord w = true) w h)
