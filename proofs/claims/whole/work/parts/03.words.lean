def bg_A : List Cond := lw_tbl.filter goodWord
theorem bg_in {w : Cond} (h : w ∈ tables_1) (g : goodWord w = true) : w ∈ bg_A := List.mem_filter.mpr ⟨List.mem_append_right _ h, g⟩
theorem bg_1 {w : Cond} (h : w ∈ tables_1_1) (g : goodWord w = true) : w ∈ bg_A := bg_in (List.mem_append_left _ h) g
theorem bg_2 {w : Cond} (h : w ∈ tables_1_2) (g : goodWord w = true) : w ∈ bg_A := bg_in (List.mem_append_right _ (List.mem_append_left _ h)) g
theorem bg_3 {w : Cond} (h : w ∈ tables_1_3) (g : goodWord w = true) : w ∈ bg_A := bg_in (List.mem_append_right _ (List.mem_append_right _ h)) g
theorem bw_0 : Cond.initialized RL ∈ bg_A := bg_1 (List.mem_of_getElem? (i := 0) rfl) rfl
theorem bw_1 : Cond.initialized RX5 ∈ bg_A := bg_1 (List.mem_of_getElem? (i := 1) rfl) rfl
theorem bw_2 : Cond.initialized RX0 ∈ bg_A := bg_1 (List.mem_of_getElem? (i := 2) rfl) rfl
theorem bw_3 : Cond.initialized RX1 ∈ bg_A := bg_1 (List.mem_of_getElem? (i := 3) rfl) rfl
theorem bw_4 : Cond.initialized RX2 ∈ bg_A := bg_1 (List.mem_of_getElem? (i := 4) rfl) rfl
theorem bw_5 : Cond.initialized RX3 ∈ bg_A := bg_1 (List.mem_of_getElem? (i := 5) rfl) rfl
theorem bw_6 : Cond.initialized RX4 ∈ bg_A := bg_1 (List.mem_of_getElem? (i := 6) rfl) rfl
theorem bw_7 : Cond.initialized RX6 ∈ bg_A := bg_1 (List.mem_of_getElem? (i := 7) rfl) rfl
theorem bw_8 : Cond.initialized "java/lang/System" ∈ bg_A := bg_1 (List.mem_of_getElem? (i := 8) rfl) rfl
theorem bw_9 : Cond.initialized "java/lang/Math" ∈ bg_A := bg_1 (List.mem_of_getElem? (i := 9) rfl) rfl
theorem bw_10 : Cond.classLink RL 7 RX5 ∈ bg_A := bg_1 (List.mem_of_getElem? (i := 10) rfl) rfl
theorem bw_11 : Cond.instantiable RX5 7 ∈ bg_A := bg_1 (List.mem_of_getElem? (i := 11) rfl) rfl
theorem bw_12 : Cond.methodLink RL 9 yX5_init ∈ bg_A := bg_1 (List.mem_of_getElem? (i := 12) rfl) rfl
theorem bw_13 : Cond.instanceMethod yX5_init ∈ bg_A := bg_1 (List.mem_of_getElem? (i := 13) rfl) rfl
theorem bw_14 : Cond.code yX5_init cX5_init 1 (Option.none : Option Jvm.ClassFile.FieldType) ∈ bg_A := bg_1 (List.mem_of_getElem? (i := 14) rfl) rfl
theorem bw_15 : Cond.methodLink RX5 1 objectInit ∈ bg_A := bg_1 (List.mem_of_getElem? (i := 15) rfl) rfl
theorem bw_16 : Cond.instanceMethod objectInit ∈ bg_A := bg_1 (List.mem_of_getElem? (i := 16) rfl) rfl
theorem bw_17 : Cond.code objectInit ⟨#[0xb1]⟩ 1 none ∈ bg_A := bg_1 (List.mem_of_getElem? (i := 17) rfl) rfl
theorem bw_18 : Cond.constant RX5 13 1000000 ∈ bg_A := bg_1 (List.mem_of_getElem? (i := 18) rfl) rfl
theorem bw_19 : Cond.classLink RX5 18 RX0 ∈ bg_A := bg_1 (List.mem_of_getElem? (i := 19) rfl) rfl
theorem bw_20 : Cond.instantiable RX0 5 ∈ bg_A := bg_1 (List.mem_of_getElem? (i := 20) rfl) rfl
theorem bw_22 : Cond.instanceMethod yX0_init ∈ bg_A := bg_1 (List.mem_of_getElem? (i := 22) rfl) rfl
theorem bw_23 : Cond.code yX0_init cX0_init 1 (Option.none : Option Jvm.ClassFile.FieldType) ∈ bg_A := bg_1 (List.mem_of_getElem? (i := 23) rfl) rfl
theorem bw_24 : Cond.methodLink RX0 3 objectInit ∈ bg_A := bg_1 (List.mem_of_getElem? (i := 24) rfl) rfl
theorem bw_25 : Cond.fieldLink RX5 68 "NodeWeights$Book" "funded" "I" ∈ bg_A := bg_1 (List.mem_of_getElem? (i := 25) rfl) rfl
theorem bw_26 : Cond.fieldLink RX5 173 "NodeWeights$Book" "rewarded" "I" ∈ bg_A := bg_1 (List.mem_of_getElem? (i := 26) rfl) rfl
theorem bw_27 : Cond.fieldLink RX0 9 "NodeWeights$Book" "balance" "[I" ∈ bg_A := bg_1 (List.mem_of_getElem? (i := 27) rfl) rfl
theorem bw_28 : Cond.fieldLink RX5 71 "NodeWeights$Book" "balance" "[I" ∈ bg_A := bg_1 (List.mem_of_getElem? (i := 28) rfl) rfl
theorem bw_29 : Cond.fieldLink RX0 15 "NodeWeights$Book" "stakes" "[I" ∈ bg_A := bg_1 (List.mem_of_getElem? (i := 29) rfl) rfl
theorem bw_30 : Cond.fieldLink RX5 87 "NodeWeights$Book" "stakes" "[I" ∈ bg_A := bg_1 (List.mem_of_getElem? (i := 30) rfl) rfl
theorem bw_31 : Cond.fieldLink RX0 18 "NodeWeights$Book" "due" "[I" ∈ bg_A := bg_1 (List.mem_of_getElem? (i := 31) rfl) rfl
theorem bw_32 : Cond.fieldLink RX5 94 "NodeWeights$Book" "due" "[I" ∈ bg_A := bg_1 (List.mem_of_getElem? (i := 32) rfl) rfl
theorem bw_33 : Cond.lays "NodeWeights$Book" "NodeWeights$Book" "funded" "I" ∈ bg_A := bg_1 (List.mem_of_getElem? (i := 33) rfl) rfl
theorem bw_35 : Cond.lays "NodeWeights$Book" "NodeWeights$Book" "rewarded" "I" ∈ bg_A := bg_1 (List.mem_of_getElem? (i := 35) rfl) rfl
theorem bw_37 : Cond.laysFinal "NodeWeights$Book" "NodeWeights$Book" "balance" "[I" ∈ bg_A := bg_1 (List.mem_of_getElem? (i := 37) rfl) rfl
theorem bw_39 : Cond.laysFinal "NodeWeights$Book" "NodeWeights$Book" "stakes" "[I" ∈ bg_A := bg_1 (List.mem_of_getElem? (i := 39) rfl) rfl
theorem bw_41 : Cond.laysFinal "NodeWeights$Book" "NodeWeights$Book" "due" "[I" ∈ bg_A := bg_1 (List.mem_of_getElem? (i := 41) rfl) rfl
theorem bw_44 : Cond.arrayClass FieldType.int ∈ bg_A := bg_1 (List.mem_of_getElem? (i := 44) rfl) rfl
theorem bw_45 : Cond.classLink RX5 25 RX1 ∈ bg_A := bg_1 (List.mem_of_getElem? (i := 45) rfl) rfl
theorem bw_46 : Cond.instantiable RX1 6 ∈ bg_A := bg_1 (List.mem_of_getElem? (i := 46) rfl) rfl
theorem bw_48 : Cond.instanceMethod yX1_init ∈ bg_A := bg_1 (List.mem_of_getElem? (i := 48) rfl) rfl
theorem bw_49 : Cond.code yX1_init cX1_init 1 (Option.none : Option Jvm.ClassFile.FieldType) ∈ bg_A := bg_1 (List.mem_of_getElem? (i := 49) rfl) rfl
theorem bw_50 : Cond.methodLink RX1 3 objectInit ∈ bg_A := bg_1 (List.mem_of_getElem? (i := 50) rfl) rfl
theorem bw_51 : Cond.fieldLink RX1 28 "NodeWeights$Nodes" "size" "I" ∈ bg_A := bg_1 (List.mem_of_getElem? (i := 51) rfl) rfl
theorem bw_52 : Cond.fieldLink RX5 74 "NodeWeights$Nodes" "size" "I" ∈ bg_A := bg_1 (List.mem_of_getElem? (i := 52) rfl) rfl
theorem bw_53 : Cond.fieldLink RX1 9 "NodeWeights$Nodes" "keeper" "[I" ∈ bg_A := bg_1 (List.mem_of_getElem? (i := 53) rfl) rfl
theorem bw_54 : Cond.fieldLink RX5 119 "NodeWeights$Nodes" "keeper" "[I" ∈ bg_A := bg_1 (List.mem_of_getElem? (i := 54) rfl) rfl
theorem bw_55 : Cond.fieldLink RX1 15 "NodeWeights$Nodes" "cut" "[I" ∈ bg_A := bg_1 (List.mem_of_getElem? (i := 55) rfl) rfl
theorem bw_56 : Cond.fieldLink RX5 122 "NodeWeights$Nodes" "cut" "[I" ∈ bg_A := bg_1 (List.mem_of_getElem? (i := 56) rfl) rfl
theorem bw_57 : Cond.fieldLink RX1 18 "NodeWeights$Nodes" "state" "[I" ∈ bg_A := bg_1 (List.mem_of_getElem? (i := 57) rfl) rfl
theorem bw_58 : Cond.fieldLink RX5 103 "NodeWeights$Nodes" "state" "[I" ∈ bg_A := bg_1 (List.mem_of_getElem? (i := 58) rfl) rfl
theorem bw_59 : Cond.fieldLink RX1 21 "NodeWeights$Nodes" "leavesAt" "[I" ∈ bg_A := bg_1 (List.mem_of_getElem? (i := 59) rfl) rfl
theorem bw_60 : Cond.fieldLink RX5 106 "NodeWeights$Nodes" "leavesAt" "[I" ∈ bg_A := bg_1 (List.mem_of_getElem? (i := 60) rfl) rfl
theorem bw_61 : Cond.fieldLink RX1 24 "NodeWeights$Nodes" "frozen" "[Z" ∈ bg_A := bg_1 (List.mem_of_getElem? (i := 61) rfl) rfl
theorem bw_62 : Cond.fieldLink RX5 90 "NodeWeights$Nodes" "frozen" "[Z" ∈ bg_A := bg_1 (List.mem_of_getElem? (i := 62) rfl) rfl
theorem bw_63 : Cond.lays "NodeWeights$Nodes" "NodeWeights$Nodes" "size" "I" ∈ bg_A := bg_1 (List.mem_of_getElem? (i := 63) rfl) rfl
theorem bw_65 : Cond.laysFinal "NodeWeights$Nodes" "NodeWeights$Nodes" "keeper" "[I" ∈ bg_A := bg_1 (List.mem_of_getElem? (i := 65) rfl) rfl
theorem bw_67 : Cond.laysFinal "NodeWeights$Nodes" "NodeWeights$Nodes" "cut" "[I" ∈ bg_A := bg_1 (List.mem_of_getElem? (i := 67) rfl) rfl
theorem bw_69 : Cond.laysFinal "NodeWeights$Nodes" "NodeWeights$Nodes" "state" "[I" ∈ bg_A := bg_1 (List.mem_of_getElem? (i := 69) rfl) rfl
theorem bw_71 : Cond.laysFinal "NodeWeights$Nodes" "NodeWeights$Nodes" "leavesAt" "[I" ∈ bg_A := bg_1 (List.mem_of_getElem? (i := 71) rfl) rfl
theorem bw_73 : Cond.laysFinal "NodeWeights$Nodes" "NodeWeights$Nodes" "frozen" "[Z" ∈ bg_A := bg_1 (List.mem_of_getElem? (i := 73) rfl) rfl
theorem bw_76 : Cond.arrayClass FieldType.boolean ∈ bg_A := bg_1 (List.mem_of_getElem? (i := 76) rfl) rfl
theorem bw_77 : Cond.classLink RX5 32 RX2 ∈ bg_A := bg_1 (List.mem_of_getElem? (i := 77) rfl) rfl
theorem bw_78 : Cond.instantiable RX2 5 ∈ bg_A := bg_1 (List.mem_of_getElem? (i := 78) rfl) rfl
theorem bw_80 : Cond.instanceMethod yX2_init ∈ bg_A := bg_1 (List.mem_of_getElem? (i := 80) rfl) rfl
theorem bw_81 : Cond.code yX2_init cX2_init 1 (Option.none : Option Jvm.ClassFile.FieldType) ∈ bg_A := bg_1 (List.mem_of_getElem? (i := 81) rfl) rfl
theorem bw_82 : Cond.methodLink RX2 3 objectInit ∈ bg_A := bg_1 (List.mem_of_getElem? (i := 82) rfl) rfl
theorem bw_83 : Cond.fieldLink RX2 9 "NodeWeights$Sets" "weights" "[I" ∈ bg_A := bg_1 (List.mem_of_getElem? (i := 83) rfl) rfl
theorem bw_84 : Cond.fieldLink RX5 134 "NodeWeights$Sets" "weights" "[I" ∈ bg_A := bg_1 (List.mem_of_getElem? (i := 84) rfl) rfl
theorem bw_85 : Cond.fieldLink RX2 15 "NodeWeights$Sets" "rewards" "[I" ∈ bg_A := bg_1 (List.mem_of_getElem? (i := 85) rfl) rfl
theorem bw_86 : Cond.fieldLink RX5 143 "NodeWeights$Sets" "rewards" "[I" ∈ bg_A := bg_1 (List.mem_of_getElem? (i := 86) rfl) rfl
theorem bw_87 : Cond.fieldLink RX2 18 "NodeWeights$Sets" "all" "[I" ∈ bg_A := bg_1 (List.mem_of_getElem? (i := 87) rfl) rfl
theorem bw_88 : Cond.fieldLink RX5 131 "NodeWeights$Sets" "all" "[I" ∈ bg_A := bg_1 (List.mem_of_getElem? (i := 88) rfl) rfl
theorem bw_89 : Cond.fieldLink RX2 21 "NodeWeights$Sets" "bearers" "[I" ∈ bg_A := bg_1 (List.mem_of_getElem? (i := 89) rfl) rfl
theorem bw_90 : Cond.fieldLink RX4 26 "NodeWeights$Sets" "bearers" "[I" ∈ bg_A := bg_1 (List.mem_of_getElem? (i := 90) rfl) rfl
theorem bw_91 : Cond.fieldLink RX2 24 "NodeWeights$Sets" "fixedStakes" "[I" ∈ bg_A := bg_1 (List.mem_of_getElem? (i := 91) rfl) rfl
theorem bw_92 : Cond.fieldLink RX5 219 "NodeWeights$Sets" "fixedStakes" "[I" ∈ bg_A := bg_1 (List.mem_of_getElem? (i := 92) rfl) rfl
theorem bw_93 : Cond.laysFinal "NodeWeights$Sets" "NodeWeights$Sets" "weights" "[I" ∈ bg_A := bg_1 (List.mem_of_getElem? (i := 93) rfl) rfl
theorem bw_95 : Cond.laysFinal "NodeWeights$Sets" "NodeWeights$Sets" "rewards" "[I" ∈ bg_A := bg_1 (List.mem_of_getElem? (i := 95) rfl) rfl
theorem bw_97 : Cond.laysFinal "NodeWeights$Sets" "NodeWeights$Sets" "all" "[I" ∈ bg_A := bg_1 (List.mem_of_getElem? (i := 97) rfl) rfl
theorem bw_99 : Cond.laysFinal "NodeWeights$Sets" "NodeWeights$Sets" "bearers" "[I" ∈ bg_A := bg_1 (List.mem_of_getElem? (i := 99) rfl) rfl
theorem bw_101 : Cond.laysFinal "NodeWeights$Sets" "NodeWeights$Sets" "fixedStakes" "[I" ∈ bg_A := bg_1 (List.mem_of_getElem? (i := 101) rfl) rfl
theorem bw_104 : Cond.classLink RX5 39 RX3 ∈ bg_A := bg_1 (List.mem_of_getElem? (i := 104) rfl) rfl
theorem bw_105 : Cond.instantiable RX3 2 ∈ bg_A := bg_1 (List.mem_of_getElem? (i := 105) rfl) rfl
theorem bw_107 : Cond.instanceMethod yX3_init ∈ bg_A := bg_1 (List.mem_of_getElem? (i := 107) rfl) rfl
theorem bw_108 : Cond.code yX3_init cX3_init 1 (Option.none : Option Jvm.ClassFile.FieldType) ∈ bg_A := bg_1 (List.mem_of_getElem? (i := 108) rfl) rfl
theorem bw_109 : Cond.methodLink RX3 3 objectInit ∈ bg_A := bg_1 (List.mem_of_getElem? (i := 109) rfl) rfl
theorem bw_110 : Cond.fieldLink RX3 9 "NodeWeights$Sharer" "given" "[I" ∈ bg_A := bg_1 (List.mem_of_getElem? (i := 110) rfl) rfl
theorem bw_111 : Cond.fieldLink RX5 206 "NodeWeights$Sharer" "given" "[I" ∈ bg_A := bg_1 (List.mem_of_getElem? (i := 111) rfl) rfl
theorem bw_112 : Cond.fieldLink RX3 15 "NodeWeights$Sharer" "rest" "[J" ∈ bg_A := bg_1 (List.mem_of_getElem? (i := 112) rfl) rfl
theorem bw_113 : Cond.laysFinal "NodeWeights$Sharer" "NodeWeights$Sharer" "given" "[I" ∈ bg_A := bg_1 (List.mem_of_getElem? (i := 113) rfl) rfl
theorem bw_115 : Cond.laysFinal "NodeWeights$Sharer" "NodeWeights$Sharer" "rest" "[J" ∈ bg_A := bg_1 (List.mem_of_getElem? (i := 115) rfl) rfl
theorem bw_118 : Cond.arrayClass FieldType.long ∈ bg_A := bg_1 (List.mem_of_getElem? (i := 118) rfl) rfl
theorem bw_119 : Cond.classLink RX5 46 RX4 ∈ bg_A := bg_1 (List.mem_of_getElem? (i := 119) rfl) rfl
theorem bw_120 : Cond.instantiable RX4 2 ∈ bg_A := bg_1 (List.mem_of_getElem? (i := 120) rfl) rfl
theorem bw_122 : Cond.instanceMethod yX4_init ∈ bg_A := bg_1 (List.mem_of_getElem? (i := 122) rfl) rfl
theorem bw_123 : Cond.code yX4_init cX4_init 1 (Option.none : Option Jvm.ClassFile.FieldType) ∈ bg_A := bg_1 (List.mem_of_getElem? (i := 123) rfl) rfl
theorem bw_124 : Cond.methodLink RX4 3 objectInit ∈ bg_A := bg_1 (List.mem_of_getElem? (i := 124) rfl) rfl
theorem bw_125 : Cond.fieldLink RX4 9 "NodeWeights$Ways" "jumps" "[I" ∈ bg_A := bg_1 (List.mem_of_getElem? (i := 125) rfl) rfl
theorem bw_126 : Cond.fieldLink RX5 166 "NodeWeights$Ways" "jumps" "[I" ∈ bg_A := bg_1 (List.mem_of_getElem? (i := 126) rfl) rfl
theorem bw_127 : Cond.fieldLink RX4 15 "NodeWeights$Ways" "next" "[I" ∈ bg_A := bg_1 (List.mem_of_getElem? (i := 127) rfl) rfl
theorem bw_128 : Cond.laysFinal "NodeWeights$Ways" "NodeWeights$Ways" "jumps" "[I" ∈ bg_A := bg_1 (List.mem_of_getElem? (i := 128) rfl) rfl
theorem bw_130 : Cond.laysFinal "NodeWeights$Ways" "NodeWeights$Ways" "next" "[I" ∈ bg_A := bg_1 (List.mem_of_getElem? (i := 130) rfl) rfl
theorem bw_133 : Cond.fieldLink RX5 7 "NodeWeights" "now" "I" ∈ bg_A := bg_1 (List.mem_of_getElem? (i := 133) rfl) rfl
theorem bw_134 : Cond.fieldLink RX5 14 "NodeWeights" "rules" "[I" ∈ bg_A := bg_1 (List.mem_of_getElem? (i := 134) rfl) rfl
theorem bw_135 : Cond.fieldLink RX5 21 "NodeWeights" "book" "LNodeWeights$Book;" ∈ bg_A := bg_1 (List.mem_of_getElem? (i := 135) rfl) rfl
theorem bw_136 : Cond.fieldLink RX5 28 "NodeWeights" "nodes" "LNodeWeights$Nodes;" ∈ bg_A := bg_1 (List.mem_of_getElem? (i := 136) rfl) rfl
theorem bw_137 : Cond.fieldLink RX5 35 "NodeWeights" "sets" "LNodeWeights$Sets;" ∈ bg_A := bg_1 (List.mem_of_getElem? (i := 137) rfl) rfl
theorem bw_138 : Cond.fieldLink RX5 42 "NodeWeights" "sharer" "LNodeWeights$Sharer;" ∈ bg_A := bg_1 (List.mem_of_getElem? (i := 138) rfl) rfl
theorem bw_139 : Cond.fieldLink RX5 49 "NodeWeights" "ways" "LNodeWeights$Ways;" ∈ bg_A := bg_1 (List.mem_of_getElem? (i := 139) rfl) rfl
theorem bw_140 : Cond.lays "NodeWeights" "NodeWeights" "now" "I" ∈ bg_A := bg_1 (List.mem_of_getElem? (i := 140) rfl) rfl
theorem bw_142 : Cond.laysFinal "NodeWeights" "NodeWeights" "rules" "[I" ∈ bg_A := bg_1 (List.mem_of_getElem? (i := 142) rfl) rfl
theorem bw_144 : Cond.laysFinal "NodeWeights" "NodeWeights" "book" "LNodeWeights$Book;" ∈ bg_A := bg_1 (List.mem_of_getElem? (i := 144) rfl) rfl
theorem bw_146 : Cond.laysFinal "NodeWeights" "NodeWeights" "nodes" "LNodeWeights$Nodes;" ∈ bg_A := bg_1 (List.mem_of_getElem? (i := 146) rfl) rfl
theorem bw_148 : Cond.laysFinal "NodeWeights" "NodeWeights" "sets" "LNodeWeights$Sets;" ∈ bg_A := bg_1 (List.mem_of_getElem? (i := 148) rfl) rfl
theorem bw_150 : Cond.laysFinal "NodeWeights" "NodeWeights" "sharer" "LNodeWeights$Sharer;" ∈ bg_A := bg_1 (List.mem_of_getElem? (i := 150) rfl) rfl
theorem bw_152 : Cond.laysFinal "NodeWeights" "NodeWeights" "ways" "LNodeWeights$Ways;" ∈ bg_A := bg_1 (List.mem_of_getElem? (i := 152) rfl) rfl
theorem bw_155 : Cond.methodLink RL 13 yX5_rule ∈ bg_A := bg_1 (List.mem_of_getElem? (i := 155) rfl) rfl
theorem bw_156 : Cond.instanceMethod yX5_rule ∈ bg_A := bg_1 (List.mem_of_getElem? (i := 156) rfl) rfl
theorem bw_157 : Cond.selects RX5 yX5_rule yX5_rule ∈ bg_A := bg_1 (List.mem_of_getElem? (i := 157) rfl) rfl
theorem bw_158 : Cond.code yX5_rule cX5_rule 4 (some FieldType.int) ∈ bg_A := bg_1 (List.mem_of_getElem? (i := 158) rfl) rfl
theorem bw_159 : Cond.fieldLink RX5 53 "NodeWeights" "RULE_LEAST" "[I" ∈ bg_A := bg_1 (List.mem_of_getElem? (i := 159) rfl) rfl
theorem bw_161 : Cond.fieldLink RX5 56 "NodeWeights" "RULE_MOST" "[I" ∈ bg_A := bg_1 (List.mem_of_getElem? (i := 161) rfl) rfl
theorem bw_163 : Cond.methodLink RX5 59 yX5_isWithin ∈ bg_A := bg_1 (List.mem_of_getElem? (i := 163) rfl) rfl
theorem bw_164 : Cond.static yX5_isWithin ∈ bg_A := bg_1 (List.mem_of_getElem? (i := 164) rfl) rfl
theorem bw_165 : Cond.code yX5_isWithin cX5_isWithin 3 (some FieldType.boolean) ∈ bg_A := bg_1 (List.mem_of_getElem? (i := 165) rfl) rfl
theorem bw_166 : Cond.methodLink RL 18 yX5_fund ∈ bg_A := bg_1 (List.mem_of_getElem? (i := 166) rfl) rfl
theorem bw_167 : Cond.instanceMethod yX5_fund ∈ bg_A := bg_1 (List.mem_of_getElem? (i := 167) rfl) rfl
theorem bw_168 : Cond.selects RX5 yX5_fund yX5_fund ∈ bg_A := bg_1 (List.mem_of_getElem? (i := 168) rfl) rfl
theorem bw_169 : Cond.code yX5_fund cX5_fund 3 (some FieldType.int) ∈ bg_A := bg_1 (List.mem_of_getElem? (i := 169) rfl) rfl
theorem bw_170 : Cond.methodLink RX5 63 yX5_isAccount ∈ bg_A := bg_1 (List.mem_of_getElem? (i := 170) rfl) rfl
theorem bw_171 : Cond.static yX5_isAccount ∈ bg_A := bg_1 (List.mem_of_getElem? (i := 171) rfl) rfl
theorem bw_172 : Cond.code yX5_isAccount cX5_isAccount 1 (some FieldType.boolean) ∈ bg_A := bg_1 (List.mem_of_getElem? (i := 172) rfl) rfl
theorem bw_173 : Cond.constant RX5 67 100000 ∈ bg_A := bg_1 (List.mem_of_getElem? (i := 173) rfl) rfl
theorem bw_174 : Cond.methodLink RL 22 yX5_node ∈ bg_A := bg_1 (List.mem_of_getElem? (i := 174) rfl) rfl
theorem bw_175 : Cond.instanceMethod yX5_node ∈ bg_A := bg_1 (List.mem_of_getElem? (i := 175) rfl) rfl
theorem bw_176 : Cond.selects RX5 yX5_node yX5_node ∈ bg_A := bg_1 (List.mem_of_getElem? (i := 176) rfl) rfl
theorem bw_177 : Cond.code yX5_node cX5_node 3 (some FieldType.int) ∈ bg_A := bg_1 (List.mem_of_getElem? (i := 177) rfl) rfl
theorem bw_178 : Cond.methodLink RX5 77 yX1_open ∈ bg_A := bg_1 (List.mem_of_getElem? (i := 178) rfl) rfl
theorem bw_179 : Cond.instanceMethod yX1_open ∈ bg_A := bg_1 (List.mem_of_getElem? (i := 179) rfl) rfl
theorem bw_180 : Cond.selects RX1 yX1_open yX1_open ∈ bg_A := bg_1 (List.mem_of_getElem? (i := 180) rfl) rfl
theorem bw_181 : Cond.code yX1_open cX1_open 4 (some FieldType.int) ∈ bg_A := bg_1 (List.mem_of_getElem? (i := 181) rfl) rfl
theorem bw_182 : Cond.methodLink RL 26 yX5_stake ∈ bg_A := bg_1 (List.mem_of_getElem? (i := 182) rfl) rfl
theorem bw_183 : Cond.instanceMethod yX5_stake ∈ bg_A := bg_1 (List.mem_of_getElem? (i := 183) rfl) rfl
theorem bw_184 : Cond.selects RX5 yX5_stake yX5_stake ∈ bg_A := bg_1 (List.mem_of_getElem? (i := 184) rfl) rfl
theorem bw_185 : Cond.code yX5_stake cX5_stake 5 (some FieldType.int) ∈ bg_A := bg_1 (List.mem_of_getElem? (i := 185) rfl) rfl
theorem bw_186 : Cond.methodLink RX5 81 yX5_isMove ∈ bg_A := bg_1 (List.mem_of_getElem? (i := 186) rfl) rfl
theorem bw_188 : Cond.instanceMethod yX5_isMove ∈ bg_A := bg_1 (List.mem_of_getElem? (i := 188) rfl) rfl
theorem bw_189 : Cond.code yX5_isMove cX5_isMove 4 (some FieldType.boolean) ∈ bg_A := bg_1 (List.mem_of_getElem? (i := 189) rfl) rfl
theorem bw_190 : Cond.methodLink RX5 100 yX1_has ∈ bg_A := bg_1 (List.mem_of_getElem? (i := 190) rfl) rfl
theorem bw_191 : Cond.instanceMethod yX1_has ∈ bg_A := bg_1 (List.mem_of_getElem? (i := 191) rfl) rfl
theorem bw_192 : Cond.selects RX1 yX1_has yX1_has ∈ bg_A := bg_1 (List.mem_of_getElem? (i := 192) rfl) rfl
theorem bw_193 : Cond.code yX1_has cX1_has 2 (some FieldType.boolean) ∈ bg_A := bg_1 (List.mem_of_getElem? (i := 193) rfl) rfl
theorem bw_194 : Cond.methodLink RX5 84 yX5_stakePlace ∈ bg_A := bg_1 (List.mem_of_getElem? (i := 194) rfl) rfl
theorem bw_195 : Cond.static yX5_stakePlace ∈ bg_A := bg_1 (List.mem_of_getElem? (i := 195) rfl) rfl
theorem bw_196 : Cond.code yX5_stakePlace cX5_stakePlace 2 (some FieldType.int) ∈ bg_A := bg_1 (List.mem_of_getElem? (i := 196) rfl) rfl
theorem bw_197 : Cond.methodLink RL 31 yX5_draw ∈ bg_A := bg_1 (List.mem_of_getElem? (i := 197) rfl) rfl
theorem bw_198 : Cond.instanceMethod yX5_draw ∈ bg_A := bg_1 (List.mem_of_getElem? (i := 198) rfl) rfl
theorem bw_199 : Cond.selects RX5 yX5_draw yX5_draw ∈ bg_A := bg_1 (List.mem_of_getElem? (i := 199) rfl) rfl
theorem bw_200 : Cond.code yX5_draw cX5_draw 5 (some FieldType.int) ∈ bg_A := bg_1 (List.mem_of_getElem? (i := 200) rfl) rfl
theorem bw_201 : Cond.methodLink RX5 97 yX5_duePlace ∈ bg_A := bg_1 (List.mem_of_getElem? (i := 201) rfl) rfl
theorem bw_202 : Cond.static yX5_duePlace ∈ bg_A := bg_1 (List.mem_of_getElem? (i := 202) rfl) rfl
theorem bw_203 : Cond.code yX5_duePlace cX5_duePlace 2 (some FieldType.int) ∈ bg_A := bg_1 (List.mem_of_getElem? (i := 203) rfl) rfl
theorem bw_204 : Cond.methodLink RL 35 yX5_join ∈ bg_A := bg_1 (List.mem_of_getElem? (i := 204) rfl) rfl
theorem bw_205 : Cond.instanceMethod yX5_join ∈ bg_A := bg_1 (List.mem_of_getElem? (i := 205) rfl) rfl
theorem bw_206 : Cond.selects RX5 yX5_join yX5_join ∈ bg_A := bg_1 (List.mem_of_getElem? (i := 206) rfl) rfl
theorem bw_207 : Cond.code yX5_join cX5_join 2 (some FieldType.int) ∈ bg_A := bg_1 (List.mem_of_getElem? (i := 207) rfl) rfl
theorem bw_208 : Cond.methodLink RL 40 yX5_leave ∈ bg_A := bg_1 (List.mem_of_getElem? (i := 208) rfl) rfl
theorem bw_209 : Cond.instanceMethod yX5_leave ∈ bg_A := bg_1 (List.mem_of_getElem? (i := 209) rfl) rfl
theorem bw_210 : Cond.selects RX5 yX5_leave yX5_leave ∈ bg_A := bg_1 (List.mem_of_getElem? (i := 210) rfl) rfl
theorem bw_211 : Cond.code yX5_leave cX5_leave 2 (some FieldType.int) ∈ bg_A := bg_1 (List.mem_of_getElem? (i := 211) rfl) rfl
theorem bw_212 : Cond.methodLink RL 44 yX5_freeze ∈ bg_A := bg_1 (List.mem_of_getElem? (i := 212) rfl) rfl
theorem bw_213 : Cond.instanceMethod yX5_freeze ∈ bg_A := bg_1 (List.mem_of_getElem? (i := 213) rfl) rfl
theorem bw_214 : Cond.selects RX5 yX5_freeze yX5_freeze ∈ bg_A := bg_1 (List.mem_of_getElem? (i := 214) rfl) rfl
theorem bw_215 : Cond.code yX5_freeze cX5_freeze 4 (some FieldType.int) ∈ bg_A := bg_1 (List.mem_of_getElem? (i := 215) rfl) rfl
theorem bw_216 : Cond.methodLink RL 49 yX5_advance ∈ bg_A := bg_1 (List.mem_of_getElem? (i := 216) rfl) rfl
theorem bw_217 : Cond.instanceMethod yX5_advance ∈ bg_A := bg_1 (List.mem_of_getElem? (i := 217) rfl) rfl
theorem bw_218 : Cond.selects RX5 yX5_advance yX5_advance ∈ bg_A := bg_1 (List.mem_of_getElem? (i := 218) rfl) rfl
theorem bw_219 : Cond.code yX5_advance cX5_advance 3 (some FieldType.int) ∈ bg_A := bg_1 (List.mem_of_getElem? (i := 219) rfl) rfl
theorem bw_220 : Cond.methodLink RX5 109 yX5_beginNextHeight ∈ bg_A := bg_1 (List.mem_of_getElem? (i := 220) rfl) rfl
theorem bw_222 : Cond.instanceMethod yX5_beginNextHeight ∈ bg_A := bg_1 (List.mem_of_getElem? (i := 222) rfl) rfl
theorem bw_223 : Cond.code yX5_beginNextHeight cX5_beginNextHeight 1 (Option.none : Option Jvm.ClassFile.FieldType) ∈ bg_A := bg_1 (List.mem_of_getElem? (i := 223) rfl) rfl
theorem bw_224 : Cond.methodLink RX5 186 yX5_giveRewards ∈ bg_A := bg_1 (List.mem_of_getElem? (i := 224) rfl) rfl
theorem bw_226 : Cond.instanceMethod yX5_giveRewards ∈ bg_A := bg_1 (List.mem_of_getElem? (i := 226) rfl) rfl
theorem bw_227 : Cond.code yX5_giveRewards cX5_giveRewards 3 (Option.none : Option Jvm.ClassFile.FieldType) ∈ bg_A := bg_1 (List.mem_of_getElem? (i := 227) rfl) rfl
theorem bw_228 : Cond.methodLink RX5 137 yX5_setPlace ∈ bg_A := bg_1 (List.mem_of_getElem? (i := 228) rfl) rfl
theorem bw_229 : Cond.static yX5_setPlace ∈ bg_A := bg_1 (List.mem_of_getElem? (i := 229) rfl) rfl
theorem bw_230 : Cond.code yX5_setPlace cX5_setPlace 2 (some FieldType.int) ∈ bg_A := bg_1 (List.mem_of_getElem? (i := 230) rfl) rfl
theorem bw_231 : Cond.methodLink RX5 199 yX5_pot ∈ bg_A := bg_1 (List.mem_of_getElem? (i := 231) rfl) rfl
theorem bw_233 : Cond.instanceMethod yX5_pot ∈ bg_A := bg_1 (List.mem_of_getElem? (i := 233) rfl) rfl
theorem bw_234 : Cond.code yX5_pot cX5_pot 3 (some FieldType.int) ∈ bg_A := bg_1 (List.mem_of_getElem? (i := 234) rfl) rfl
theorem bw_235 : Cond.methodLink RX5 202 yX3_split ∈ bg_A := bg_1 (List.mem_of_getElem? (i := 235) rfl) rfl
theorem bw_236 : Cond.instanceMethod yX3_split ∈ bg_A := bg_1 (List.mem_of_getElem? (i := 236) rfl) rfl
theorem bw_237 : Cond.selects RX3 yX3_split yX3_split ∈ bg_A := bg_1 (List.mem_of_getElem? (i := 237) rfl) rfl
theorem bw_238 : Cond.code yX3_split cX3_split 11 (Option.none : Option Jvm.ClassFile.FieldType) ∈ bg_A := bg_1 (List.mem_of_getElem? (i := 238) rfl) rfl
theorem bw_239 : Cond.methodLink RX3 19 yX3_giveOneByRest ∈ bg_A := bg_1 (List.mem_of_getElem? (i := 239) rfl) rfl
theorem bw_240 : Cond.instanceMethod yX3_giveOneByRest ∈ bg_A := bg_2 (List.mem_of_getElem? (i := 0) rfl) rfl
theorem bw_241 : Cond.selects RX3 yX3_giveOneByRest yX3_giveOneByRest ∈ bg_A := bg_2 (List.mem_of_getElem? (i := 1) rfl) rfl
theorem bw_242 : Cond.code yX3_giveOneByRest cX3_giveOneByRest 4 (Option.none : Option Jvm.ClassFile.FieldType) ∈ bg_A := bg_2 (List.mem_of_getElem? (i := 2) rfl) rfl
theorem bw_243 : Cond.constantLong RX3 23 (-1) ∈ bg_A := bg_2 (List.mem_of_getElem? (i := 3) rfl) rfl
theorem bw_244 : Cond.methodLink RX5 209 arraycopyName ∈ bg_A := bg_2 (List.mem_of_getElem? (i := 4) rfl) rfl
theorem bw_245 : Cond.static arraycopyName ∈ bg_A := bg_2 (List.mem_of_getElem? (i := 5) rfl) rfl
theorem bw_246 : Cond.native arraycopyName ∈ bg_A := bg_2 (List.mem_of_getElem? (i := 6) rfl) rfl
theorem bw_247 : Cond.methodLink RX5 215 yX5_payNode ∈ bg_A := bg_2 (List.mem_of_getElem? (i := 7) rfl) rfl
theorem bw_249 : Cond.instanceMethod yX5_payNode ∈ bg_A := bg_2 (List.mem_of_getElem? (i := 9) rfl) rfl
theorem bw_250 : Cond.code yX5_payNode cX5_payNode 5 (Option.none : Option Jvm.ClassFile.FieldType) ∈ bg_A := bg_2 (List.mem_of_getElem? (i := 10) rfl) rfl
theorem bw_251 : Cond.methodLink RX5 189 yX0_payDue ∈ bg_A := bg_2 (List.mem_of_getElem? (i := 11) rfl) rfl
theorem bw_252 : Cond.instanceMethod yX0_payDue ∈ bg_A := bg_2 (List.mem_of_getElem? (i := 12) rfl) rfl
theorem bw_253 : Cond.selects RX0 yX0_payDue yX0_payDue ∈ bg_A := bg_2 (List.mem_of_getElem? (i := 13) rfl) rfl
theorem bw_254 : Cond.code yX0_payDue cX0_payDue 4 (Option.none : Option Jvm.ClassFile.FieldType) ∈ bg_A := bg_2 (List.mem_of_getElem? (i := 14) rfl) rfl
theorem bw_256 : Cond.methodLink RX5 193 yX1_settle ∈ bg_A := bg_2 (List.mem_of_getElem? (i := 16) rfl) rfl
theorem bw_257 : Cond.instanceMethod yX1_settle ∈ bg_A := bg_2 (List.mem_of_getElem? (i := 17) rfl) rfl
theorem bw_258 : Cond.selects RX1 yX1_settle yX1_settle ∈ bg_A := bg_2 (List.mem_of_getElem? (i := 18) rfl) rfl
theorem bw_259 : Cond.code yX1_settle cX1_settle 3 (Option.none : Option Jvm.ClassFile.FieldType) ∈ bg_A := bg_2 (List.mem_of_getElem? (i := 19) rfl) rfl
theorem bw_260 : Cond.methodLink RX5 196 yX5_fixSet ∈ bg_A := bg_2 (List.mem_of_getElem? (i := 20) rfl) rfl
theorem bw_262 : Cond.instanceMethod yX5_fixSet ∈ bg_A := bg_2 (List.mem_of_getElem? (i := 22) rfl) rfl
theorem bw_263 : Cond.code yX5_fixSet cX5_fixSet 2 (Option.none : Option Jvm.ClassFile.FieldType) ∈ bg_A := bg_2 (List.mem_of_getElem? (i := 23) rfl) rfl
theorem bw_264 : Cond.methodLink RX5 222 yX1_counts ∈ bg_A := bg_2 (List.mem_of_getElem? (i := 24) rfl) rfl
theorem bw_265 : Cond.instanceMethod yX1_counts ∈ bg_A := bg_2 (List.mem_of_getElem? (i := 25) rfl) rfl
theorem bw_266 : Cond.selects RX1 yX1_counts yX1_counts ∈ bg_A := bg_2 (List.mem_of_getElem? (i := 26) rfl) rfl
theorem bw_267 : Cond.code yX1_counts cX1_counts 2 (some FieldType.boolean) ∈ bg_A := bg_2 (List.mem_of_getElem? (i := 27) rfl) rfl
theorem bw_268 : Cond.methodLink RX5 125 yX0_stakesOfNode ∈ bg_A := bg_2 (List.mem_of_getElem? (i := 28) rfl) rfl
theorem bw_269 : Cond.instanceMethod yX0_stakesOfNode ∈ bg_A := bg_2 (List.mem_of_getElem? (i := 29) rfl) rfl
theorem bw_270 : Cond.selects RX0 yX0_stakesOfNode yX0_stakesOfNode ∈ bg_A := bg_2 (List.mem_of_getElem? (i := 30) rfl) rfl
theorem bw_271 : Cond.code yX0_stakesOfNode cX0_stakesOfNode 4 (some FieldType.int) ∈ bg_A := bg_2 (List.mem_of_getElem? (i := 31) rfl) rfl
theorem bw_273 : Cond.methodLink RX5 225 Lib.Math.min.name ∈ bg_A := bg_2 (List.mem_of_getElem? (i := 33) rfl) rfl
theorem bw_274 : Cond.static Lib.Math.min.name ∈ bg_A := bg_2 (List.mem_of_getElem? (i := 34) rfl) rfl
theorem bw_275 : Cond.code Lib.Math.min.name Lib.Math.min.code 2 (some .int) ∈ bg_A := bg_2 (List.mem_of_getElem? (i := 35) rfl) rfl
theorem bw_276 : Cond.methodLink RX5 230 yX2_enter ∈ bg_A := bg_2 (List.mem_of_getElem? (i := 36) rfl) rfl
theorem bw_277 : Cond.instanceMethod yX2_enter ∈ bg_A := bg_2 (List.mem_of_getElem? (i := 37) rfl) rfl
theorem bw_278 : Cond.selects RX2 yX2_enter yX2_enter ∈ bg_A := bg_2 (List.mem_of_getElem? (i := 38) rfl) rfl
theorem bw_279 : Cond.code yX2_enter cX2_enter 4 (Option.none : Option Jvm.ClassFile.FieldType) ∈ bg_A := bg_2 (List.mem_of_getElem? (i := 39) rfl) rfl
theorem bw_281 : Cond.methodLink RL 53 yX5_balance ∈ bg_A := bg_2 (List.mem_of_getElem? (i := 41) rfl) rfl
theorem bw_282 : Cond.instanceMethod yX5_balance ∈ bg_A := bg_2 (List.mem_of_getElem? (i := 42) rfl) rfl
theorem bw_283 : Cond.selects RX5 yX5_balance yX5_balance ∈ bg_A := bg_2 (List.mem_of_getElem? (i := 43) rfl) rfl
theorem bw_284 : Cond.code yX5_balance cX5_balance 2 (some FieldType.int) ∈ bg_A := bg_2 (List.mem_of_getElem? (i := 44) rfl) rfl
theorem bw_285 : Cond.methodLink RL 57 yX5_staked ∈ bg_A := bg_2 (List.mem_of_getElem? (i := 45) rfl) rfl
theorem bw_286 : Cond.instanceMethod yX5_staked ∈ bg_A := bg_2 (List.mem_of_getElem? (i := 46) rfl) rfl
theorem bw_287 : Cond.selects RX5 yX5_staked yX5_staked ∈ bg_A := bg_2 (List.mem_of_getElem? (i := 47) rfl) rfl
theorem bw_288 : Cond.code yX5_staked cX5_staked 3 (some FieldType.int) ∈ bg_A := bg_2 (List.mem_of_getElem? (i := 48) rfl) rfl
theorem bw_289 : Cond.methodLink RX5 112 yX0_stakesOfAccount ∈ bg_A := bg_2 (List.mem_of_getElem? (i := 49) rfl) rfl
theorem bw_290 : Cond.instanceMethod yX0_stakesOfAccount ∈ bg_A := bg_2 (List.mem_of_getElem? (i := 50) rfl) rfl
theorem bw_291 : Cond.selects RX0 yX0_stakesOfAccount yX0_stakesOfAccount ∈ bg_A := bg_2 (List.mem_of_getElem? (i := 51) rfl) rfl
theorem bw_292 : Cond.code yX0_stakesOfAccount cX0_stakesOfAccount 4 (some FieldType.int) ∈ bg_A := bg_2 (List.mem_of_getElem? (i := 52) rfl) rfl
theorem bw_293 : Cond.methodLink RL 61 yX5_drawn ∈ bg_A := bg_2 (List.mem_of_getElem? (i := 53) rfl) rfl
theorem bw_294 : Cond.instanceMethod yX5_drawn ∈ bg_A := bg_2 (List.mem_of_getElem? (i := 54) rfl) rfl
theorem bw_295 : Cond.selects RX5 yX5_drawn yX5_drawn ∈ bg_A := bg_2 (List.mem_of_getElem? (i := 55) rfl) rfl
theorem bw_296 : Cond.code yX5_drawn cX5_drawn 3 (some FieldType.int) ∈ bg_A := bg_2 (List.mem_of_getElem? (i := 56) rfl) rfl
theorem bw_297 : Cond.methodLink RX5 116 yX0_dueOfAccount ∈ bg_A := bg_2 (List.mem_of_getElem? (i := 57) rfl) rfl
theorem bw_298 : Cond.instanceMethod yX0_dueOfAccount ∈ bg_A := bg_2 (List.mem_of_getElem? (i := 58) rfl) rfl
theorem bw_299 : Cond.selects RX0 yX0_dueOfAccount yX0_dueOfAccount ∈ bg_A := bg_2 (List.mem_of_getElem? (i := 59) rfl) rfl
theorem bw_300 : Cond.code yX0_dueOfAccount cX0_dueOfAccount 4 (some FieldType.int) ∈ bg_A := bg_2 (List.mem_of_getElem? (i := 60) rfl) rfl
theorem bw_301 : Cond.methodLink RL 65 yX5_about ∈ bg_A := bg_2 (List.mem_of_getElem? (i := 61) rfl) rfl
theorem bw_302 : Cond.instanceMethod yX5_about ∈ bg_A := bg_2 (List.mem_of_getElem? (i := 62) rfl) rfl
theorem bw_303 : Cond.selects RX5 yX5_about yX5_about ∈ bg_A := bg_2 (List.mem_of_getElem? (i := 63) rfl) rfl
theorem bw_304 : Cond.code yX5_about cX5_about 3 (some FieldType.int) ∈ bg_A := bg_2 (List.mem_of_getElem? (i := 64) rfl) rfl
theorem bw_305 : Cond.methodLink RL 69 yX5_weight ∈ bg_A := bg_2 (List.mem_of_getElem? (i := 65) rfl) rfl
theorem bw_306 : Cond.instanceMethod yX5_weight ∈ bg_A := bg_2 (List.mem_of_getElem? (i := 66) rfl) rfl
theorem bw_307 : Cond.selects RX5 yX5_weight yX5_weight ∈ bg_A := bg_2 (List.mem_of_getElem? (i := 67) rfl) rfl
theorem bw_308 : Cond.code yX5_weight cX5_weight 3 (some FieldType.int) ∈ bg_A := bg_2 (List.mem_of_getElem? (i := 68) rfl) rfl
theorem bw_309 : Cond.methodLink RX5 128 yX5_hasSet ∈ bg_A := bg_2 (List.mem_of_getElem? (i := 69) rfl) rfl
theorem bw_311 : Cond.instanceMethod yX5_hasSet ∈ bg_A := bg_2 (List.mem_of_getElem? (i := 71) rfl) rfl
theorem bw_312 : Cond.code yX5_hasSet cX5_hasSet 2 (some FieldType.boolean) ∈ bg_A := bg_2 (List.mem_of_getElem? (i := 72) rfl) rfl
theorem bw_313 : Cond.methodLink RL 73 yX5_reward ∈ bg_A := bg_2 (List.mem_of_getElem? (i := 73) rfl) rfl
theorem bw_314 : Cond.instanceMethod yX5_reward ∈ bg_A := bg_2 (List.mem_of_getElem? (i := 74) rfl) rfl
theorem bw_315 : Cond.selects RX5 yX5_reward yX5_reward ∈ bg_A := bg_2 (List.mem_of_getElem? (i := 75) rfl) rfl
theorem bw_316 : Cond.code yX5_reward cX5_reward 3 (some FieldType.int) ∈ bg_A := bg_2 (List.mem_of_getElem? (i := 76) rfl) rfl
theorem bw_317 : Cond.methodLink RX5 140 yX2_rewardsOf ∈ bg_A := bg_2 (List.mem_of_getElem? (i := 77) rfl) rfl
theorem bw_318 : Cond.instanceMethod yX2_rewardsOf ∈ bg_A := bg_2 (List.mem_of_getElem? (i := 78) rfl) rfl
theorem bw_319 : Cond.selects RX2 yX2_rewardsOf yX2_rewardsOf ∈ bg_A := bg_2 (List.mem_of_getElem? (i := 79) rfl) rfl
theorem bw_320 : Cond.code yX2_rewardsOf cX2_rewardsOf 4 (some FieldType.int) ∈ bg_A := bg_2 (List.mem_of_getElem? (i := 80) rfl) rfl
theorem bw_321 : Cond.methodLink RL 77 yX5_judge ∈ bg_A := bg_2 (List.mem_of_getElem? (i := 81) rfl) rfl
theorem bw_322 : Cond.instanceMethod yX5_judge ∈ bg_A := bg_2 (List.mem_of_getElem? (i := 82) rfl) rfl
theorem bw_323 : Cond.selects RX5 yX5_judge yX5_judge ∈ bg_A := bg_2 (List.mem_of_getElem? (i := 83) rfl) rfl
theorem bw_324 : Cond.code yX5_judge cX5_judge 3 (some FieldType.int) ∈ bg_A := bg_2 (List.mem_of_getElem? (i := 84) rfl) rfl
theorem bw_325 : Cond.methodLink RX5 146 yX1_haveAll ∈ bg_A := bg_2 (List.mem_of_getElem? (i := 85) rfl) rfl
theorem bw_326 : Cond.instanceMethod yX1_haveAll ∈ bg_A := bg_2 (List.mem_of_getElem? (i := 86) rfl) rfl
theorem bw_327 : Cond.selects RX1 yX1_haveAll yX1_haveAll ∈ bg_A := bg_2 (List.mem_of_getElem? (i := 87) rfl) rfl
theorem bw_328 : Cond.code yX1_haveAll cX1_haveAll 2 (some FieldType.boolean) ∈ bg_A := bg_2 (List.mem_of_getElem? (i := 88) rfl) rfl
theorem bw_329 : Cond.methodLink RX5 149 yX2_isGood ∈ bg_A := bg_2 (List.mem_of_getElem? (i := 89) rfl) rfl
theorem bw_330 : Cond.instanceMethod yX2_isGood ∈ bg_A := bg_2 (List.mem_of_getElem? (i := 90) rfl) rfl
theorem bw_331 : Cond.selects RX2 yX2_isGood yX2_isGood ∈ bg_A := bg_2 (List.mem_of_getElem? (i := 91) rfl) rfl
theorem bw_332 : Cond.code yX2_isGood cX2_isGood 3 (some FieldType.boolean) ∈ bg_A := bg_2 (List.mem_of_getElem? (i := 92) rfl) rfl
theorem bw_333 : Cond.methodLink RX2 36 yX2_weightOf ∈ bg_A := bg_2 (List.mem_of_getElem? (i := 93) rfl) rfl
theorem bw_334 : Cond.instanceMethod yX2_weightOf ∈ bg_A := bg_2 (List.mem_of_getElem? (i := 94) rfl) rfl
theorem bw_335 : Cond.selects RX2 yX2_weightOf yX2_weightOf ∈ bg_A := bg_2 (List.mem_of_getElem? (i := 95) rfl) rfl
theorem bw_336 : Cond.code yX2_weightOf cX2_weightOf 5 (some FieldType.int) ∈ bg_A := bg_2 (List.mem_of_getElem? (i := 96) rfl) rfl
theorem bw_337 : Cond.methodLink RL 81 yX5_jump ∈ bg_A := bg_2 (List.mem_of_getElem? (i := 97) rfl) rfl
theorem bw_338 : Cond.instanceMethod yX5_jump ∈ bg_A := bg_2 (List.mem_of_getElem? (i := 98) rfl) rfl
theorem bw_339 : Cond.selects RX5 yX5_jump yX5_jump ∈ bg_A := bg_2 (List.mem_of_getElem? (i := 99) rfl) rfl
theorem bw_340 : Cond.code yX5_jump cX5_jump 4 (some FieldType.int) ∈ bg_A := bg_2 (List.mem_of_getElem? (i := 100) rfl) rfl
theorem bw_341 : Cond.methodLink RX5 153 yX5_isUpward ∈ bg_A := bg_2 (List.mem_of_getElem? (i := 101) rfl) rfl
theorem bw_343 : Cond.instanceMethod yX5_isUpward ∈ bg_A := bg_2 (List.mem_of_getElem? (i := 103) rfl) rfl
theorem bw_344 : Cond.code yX5_isUpward cX5_isUpward 3 (some FieldType.boolean) ∈ bg_A := bg_2 (List.mem_of_getElem? (i := 104) rfl) rfl
theorem bw_345 : Cond.methodLink RX5 156 yX2_allowsJump ∈ bg_A := bg_2 (List.mem_of_getElem? (i := 105) rfl) rfl
theorem bw_346 : Cond.instanceMethod yX2_allowsJump ∈ bg_A := bg_2 (List.mem_of_getElem? (i := 106) rfl) rfl
theorem bw_347 : Cond.selects RX2 yX2_allowsJump yX2_allowsJump ∈ bg_A := bg_2 (List.mem_of_getElem? (i := 107) rfl) rfl
theorem bw_348 : Cond.code yX2_allowsJump cX2_allowsJump 4 (some FieldType.boolean) ∈ bg_A := bg_2 (List.mem_of_getElem? (i := 108) rfl) rfl
theorem bw_349 : Cond.methodLink RX2 39 yX2_isGood ∈ bg_A := bg_2 (List.mem_of_getElem? (i := 109) rfl) rfl
theorem bw_350 : Cond.methodLink RL 85 yX5_overlap ∈ bg_A := bg_2 (List.mem_of_getElem? (i := 110) rfl) rfl
theorem bw_351 : Cond.instanceMethod yX5_overlap ∈ bg_A := bg_2 (List.mem_of_getElem? (i := 111) rfl) rfl
theorem bw_352 : Cond.selects RX5 yX5_overlap yX5_overlap ∈ bg_A := bg_2 (List.mem_of_getElem? (i := 112) rfl) rfl
theorem bw_353 : Cond.code yX5_overlap cX5_overlap 3 (some FieldType.int) ∈ bg_A := bg_2 (List.mem_of_getElem? (i := 113) rfl) rfl
theorem bw_354 : Cond.methodLink RX5 159 yX2_commonWeight ∈ bg_A := bg_2 (List.mem_of_getElem? (i := 114) rfl) rfl
theorem bw_355 : Cond.instanceMethod yX2_commonWeight ∈ bg_A := bg_2 (List.mem_of_getElem? (i := 115) rfl) rfl
theorem bw_356 : Cond.selects RX2 yX2_commonWeight yX2_commonWeight ∈ bg_A := bg_2 (List.mem_of_getElem? (i := 116) rfl) rfl
theorem bw_357 : Cond.code yX2_commonWeight cX2_commonWeight 5 (some FieldType.int) ∈ bg_A := bg_2 (List.mem_of_getElem? (i := 117) rfl) rfl
theorem bw_358 : Cond.methodLink RX2 31 Lib.Math.min.name ∈ bg_A := bg_2 (List.mem_of_getElem? (i := 118) rfl) rfl
theorem bw_359 : Cond.methodLink RL 89 yX5_way ∈ bg_A := bg_2 (List.mem_of_getElem? (i := 119) rfl) rfl
theorem bw_360 : Cond.instanceMethod yX5_way ∈ bg_A := bg_2 (List.mem_of_getElem? (i := 120) rfl) rfl
theorem bw_361 : Cond.selects RX5 yX5_way yX5_way ∈ bg_A := bg_2 (List.mem_of_getElem? (i := 121) rfl) rfl
theorem bw_362 : Cond.code yX5_way cX5_way 5 (some FieldType.int) ∈ bg_A := bg_2 (List.mem_of_getElem? (i := 122) rfl) rfl
theorem bw_363 : Cond.methodLink RX5 162 yX4_plan ∈ bg_A := bg_2 (List.mem_of_getElem? (i := 123) rfl) rfl
theorem bw_364 : Cond.instanceMethod yX4_plan ∈ bg_A := bg_2 (List.mem_of_getElem? (i := 124) rfl) rfl
theorem bw_365 : Cond.selects RX4 yX4_plan yX4_plan ∈ bg_A := bg_2 (List.mem_of_getElem? (i := 125) rfl) rfl
theorem bw_366 : Cond.code yX4_plan cX4_plan 5 (Option.none : Option Jvm.ClassFile.FieldType) ∈ bg_A := bg_2 (List.mem_of_getElem? (i := 126) rfl) rfl
theorem bw_367 : Cond.methodLink RX4 18 yX4_planFrom ∈ bg_A := bg_2 (List.mem_of_getElem? (i := 127) rfl) rfl
theorem bw_368 : Cond.instanceMethod yX4_planFrom ∈ bg_A := bg_2 (List.mem_of_getElem? (i := 128) rfl) rfl
theorem bw_369 : Cond.selects RX4 yX4_planFrom yX4_planFrom ∈ bg_A := bg_2 (List.mem_of_getElem? (i := 129) rfl) rfl
theorem bw_370 : Cond.code yX4_planFrom cX4_planFrom 5 (Option.none : Option Jvm.ClassFile.FieldType) ∈ bg_A := bg_2 (List.mem_of_getElem? (i := 130) rfl) rfl
theorem bw_371 : Cond.methodLink RX4 22 yX4_isShorter ∈ bg_A := bg_2 (List.mem_of_getElem? (i := 131) rfl) rfl
theorem bw_372 : Cond.instanceMethod yX4_isShorter ∈ bg_A := bg_2 (List.mem_of_getElem? (i := 132) rfl) rfl
theorem bw_373 : Cond.selects RX4 yX4_isShorter yX4_isShorter ∈ bg_A := bg_2 (List.mem_of_getElem? (i := 133) rfl) rfl
theorem bw_374 : Cond.code yX4_isShorter cX4_isShorter 3 (some FieldType.boolean) ∈ bg_A := bg_2 (List.mem_of_getElem? (i := 134) rfl) rfl
theorem bw_375 : Cond.methodLink RX4 31 yX2_allowsJump ∈ bg_A := bg_2 (List.mem_of_getElem? (i := 135) rfl) rfl
theorem bw_376 : Cond.methodLink RX5 169 yX4_heightAt ∈ bg_A := bg_2 (List.mem_of_getElem? (i := 136) rfl) rfl
theorem bw_377 : Cond.instanceMethod yX4_heightAt ∈ bg_A := bg_2 (List.mem_of_getElem? (i := 137) rfl) rfl
theorem bw_378 : Cond.selects RX4 yX4_heightAt yX4_heightAt ∈ bg_A := bg_2 (List.mem_of_getElem? (i := 138) rfl) rfl
theorem bw_379 : Cond.code yX4_heightAt cX4_heightAt 6 (some FieldType.int) ∈ bg_A := bg_2 (List.mem_of_getElem? (i := 139) rfl) rfl
theorem bw_380 : Cond.methodLink RL 93 yX5_count ∈ bg_A := bg_2 (List.mem_of_getElem? (i := 140) rfl) rfl
theorem bw_381 : Cond.instanceMethod yX5_count ∈ bg_A := bg_2 (List.mem_of_getElem? (i := 141) rfl) rfl
theorem bw_382 : Cond.selects RX5 yX5_count yX5_count ∈ bg_A := bg_2 (List.mem_of_getElem? (i := 142) rfl) rfl
theorem bw_383 : Cond.code yX5_count cX5_count 2 (some FieldType.int) ∈ bg_A := bg_2 (List.mem_of_getElem? (i := 143) rfl) rfl
theorem bw_384 : Cond.methodLink RX5 176 yX0_allBalances ∈ bg_A := bg_2 (List.mem_of_getElem? (i := 144) rfl) rfl
theorem bw_385 : Cond.instanceMethod yX0_allBalances ∈ bg_A := bg_2 (List.mem_of_getElem? (i := 145) rfl) rfl
theorem bw_386 : Cond.selects RX0 yX0_allBalances yX0_allBalances ∈ bg_A := bg_2 (List.mem_of_getElem? (i := 146) rfl) rfl
theorem bw_387 : Cond.code yX0_allBalances cX0_allBalances 3 (some FieldType.int) ∈ bg_A := bg_2 (List.mem_of_getElem? (i := 147) rfl) rfl
theorem bw_388 : Cond.methodLink RX5 180 yX0_allStakes ∈ bg_A := bg_2 (List.mem_of_getElem? (i := 148) rfl) rfl
theorem bw_389 : Cond.instanceMethod yX0_allStakes ∈ bg_A := bg_2 (List.mem_of_getElem? (i := 149) rfl) rfl
theorem bw_390 : Cond.selects RX0 yX0_allStakes yX0_allStakes ∈ bg_A := bg_2 (List.mem_of_getElem? (i := 150) rfl) rfl
theorem bw_391 : Cond.code yX0_allStakes cX0_allStakes 3 (some FieldType.int) ∈ bg_A := bg_2 (List.mem_of_getElem? (i := 151) rfl) rfl
theorem bw_392 : Cond.methodLink RX0 28 yX0_stakesOfNode ∈ bg_A := bg_2 (List.mem_of_getElem? (i := 152) rfl) rfl
theorem bw_393 : Cond.methodLink RX5 183 yX0_allDue ∈ bg_A := bg_2 (List.mem_of_getElem? (i := 153) rfl) rfl
theorem bw_394 : Cond.instanceMethod yX0_allDue ∈ bg_A := bg_2 (List.mem_of_getElem? (i := 154) rfl) rfl
theorem bw_395 : Cond.selects RX0 yX0_allDue yX0_allDue ∈ bg_A := bg_2 (List.mem_of_getElem? (i := 155) rfl) rfl
theorem bw_396 : Cond.code yX0_allDue cX0_allDue 3 (some FieldType.int) ∈ bg_A := bg_2 (List.mem_of_getElem? (i := 156) rfl) rfl
theorem bw_397 : Cond.methodLink RX0 32 yX0_dueOfAccount ∈ bg_A := bg_2 (List.mem_of_getElem? (i := 157) rfl) rfl
theorem bw_398 : Cond.classLink RL 10 RX6 ∈ bg_A := bg_2 (List.mem_of_getElem? (i := 158) rfl) rfl
theorem bw_399 : Cond.instantiable RX6 24 ∈ bg_A := bg_2 (List.mem_of_getElem? (i := 159) rfl) rfl
theorem bw_400 : Cond.methodLink RL 12 yX6_init ∈ bg_A := bg_2 (List.mem_of_getElem? (i := 160) rfl) rfl
theorem bw_401 : Cond.instanceMethod yX6_init ∈ bg_A := bg_2 (List.mem_of_getElem? (i := 161) rfl) rfl
theorem bw_402 : Cond.code yX6_init cX6_init 1 (Option.none : Option Jvm.ClassFile.FieldType) ∈ bg_A := bg_2 (List.mem_of_getElem? (i := 162) rfl) rfl
theorem bw_403 : Cond.methodLink RX6 7 objectInit ∈ bg_A := bg_2 (List.mem_of_getElem? (i := 163) rfl) rfl
theorem bw_404 : Cond.constant RX6 22 1000000 ∈ bg_A := bg_2 (List.mem_of_getElem? (i := 164) rfl) rfl
theorem bw_405 : Cond.fieldLink RX6 1 "NodeWeightsModel" "thrown" "I" ∈ bg_A := bg_2 (List.mem_of_getElem? (i := 165) rfl) rfl
theorem bw_406 : Cond.fieldLink RX6 83 "NodeWeightsModel" "height" "I" ∈ bg_A := bg_2 (List.mem_of_getElem? (i := 166) rfl) rfl
theorem bw_407 : Cond.fieldLink RX6 13 "NodeWeightsModel" "wait" "I" ∈ bg_A := bg_2 (List.mem_of_getElem? (i := 167) rfl) rfl
theorem bw_408 : Cond.fieldLink RX6 16 "NodeWeightsModel" "reward" "I" ∈ bg_A := bg_2 (List.mem_of_getElem? (i := 168) rfl) rfl
theorem bw_409 : Cond.fieldLink RX6 19 "NodeWeightsModel" "halving" "I" ∈ bg_A := bg_2 (List.mem_of_getElem? (i := 169) rfl) rfl
theorem bw_410 : Cond.fieldLink RX6 23 "NodeWeightsModel" "bound" "I" ∈ bg_A := bg_2 (List.mem_of_getElem? (i := 170) rfl) rfl
theorem bw_411 : Cond.fieldLink RX6 26 "NodeWeightsModel" "balance" "[I" ∈ bg_A := bg_2 (List.mem_of_getElem? (i := 171) rfl) rfl
theorem bw_412 : Cond.fieldLink RX6 98 "NodeWeightsModel" "given" "I" ∈ bg_A := bg_2 (List.mem_of_getElem? (i := 172) rfl) rfl
theorem bw_413 : Cond.fieldLink RX6 114 "NodeWeightsModel" "rewarded" "I" ∈ bg_A := bg_2 (List.mem_of_getElem? (i := 173) rfl) rfl
theorem bw_414 : Cond.fieldLink RX6 80 "NodeWeightsModel" "nodes" "I" ∈ bg_A := bg_2 (List.mem_of_getElem? (i := 174) rfl) rfl
theorem bw_415 : Cond.fieldLink RX6 30 "NodeWeightsModel" "keeper" "[I" ∈ bg_A := bg_2 (List.mem_of_getElem? (i := 175) rfl) rfl
theorem bw_416 : Cond.fieldLink RX6 33 "NodeWeightsModel" "cut" "[I" ∈ bg_A := bg_2 (List.mem_of_getElem? (i := 176) rfl) rfl
theorem bw_417 : Cond.fieldLink RX6 36 "NodeWeightsModel" "state" "[I" ∈ bg_A := bg_2 (List.mem_of_getElem? (i := 177) rfl) rfl
theorem bw_418 : Cond.fieldLink RX6 39 "NodeWeightsModel" "due" "[I" ∈ bg_A := bg_2 (List.mem_of_getElem? (i := 178) rfl) rfl
theorem bw_419 : Cond.fieldLink RX6 42 "NodeWeightsModel" "isFrozen" "[Z" ∈ bg_A := bg_2 (List.mem_of_getElem? (i := 179) rfl) rfl
theorem bw_420 : Cond.fieldLink RX6 46 "NodeWeightsModel" "stake" "[I" ∈ bg_A := bg_2 (List.mem_of_getElem? (i := 180) rfl) rfl
theorem bw_421 : Cond.fieldLink RX6 49 "NodeWeightsModel" "then" "[I" ∈ bg_A := bg_2 (List.mem_of_getElem? (i := 181) rfl) rfl
theorem bw_422 : Cond.fieldLink RX6 52 "NodeWeightsModel" "drawn" "[I" ∈ bg_A := bg_2 (List.mem_of_getElem? (i := 182) rfl) rfl
theorem bw_423 : Cond.fieldLink RX6 55 "NodeWeightsModel" "weight" "[I" ∈ bg_A := bg_2 (List.mem_of_getElem? (i := 183) rfl) rfl
theorem bw_424 : Cond.fieldLink RX6 58 "NodeWeightsModel" "share" "[I" ∈ bg_A := bg_2 (List.mem_of_getElem? (i := 184) rfl) rfl
theorem bw_425 : Cond.fieldLink RX6 61 "NodeWeightsModel" "pots" "[I" ∈ bg_A := bg_2 (List.mem_of_getElem? (i := 185) rfl) rfl
theorem bw_426 : Cond.fieldLink RX6 64 "NodeWeightsModel" "part" "[J" ∈ bg_A := bg_2 (List.mem_of_getElem? (i := 186) rfl) rfl
theorem bw_427 : Cond.fieldLink RX6 68 "NodeWeightsModel" "dealt" "[I" ∈ bg_A := bg_2 (List.mem_of_getElem? (i := 187) rfl) rfl
theorem bw_428 : Cond.fieldLink RX6 71 "NodeWeightsModel" "jumps" "[I" ∈ bg_A := bg_2 (List.mem_of_getElem? (i := 188) rfl) rfl
theorem bw_429 : Cond.lays "NodeWeightsModel" "NodeWeightsModel" "thrown" "I" ∈ bg_A := bg_2 (List.mem_of_getElem? (i := 189) rfl) rfl
theorem bw_431 : Cond.lays "NodeWeightsModel" "NodeWeightsModel" "height" "I" ∈ bg_A := bg_2 (List.mem_of_getElem? (i := 191) rfl) rfl
theorem bw_433 : Cond.lays "NodeWeightsModel" "NodeWeightsModel" "wait" "I" ∈ bg_A := bg_2 (List.mem_of_getElem? (i := 193) rfl) rfl
theorem bw_435 : Cond.lays "NodeWeightsModel" "NodeWeightsModel" "reward" "I" ∈ bg_A := bg_2 (List.mem_of_getElem? (i := 195) rfl) rfl
theorem bw_437 : Cond.lays "NodeWeightsModel" "NodeWeightsModel" "halving" "I" ∈ bg_A := bg_2 (List.mem_of_getElem? (i := 197) rfl) rfl
theorem bw_439 : Cond.lays "NodeWeightsModel" "NodeWeightsModel" "bound" "I" ∈ bg_A := bg_2 (List.mem_of_getElem? (i := 199) rfl) rfl
theorem bw_441 : Cond.laysFinal "NodeWeightsModel" "NodeWeightsModel" "balance" "[I" ∈ bg_A := bg_2 (List.mem_of_getElem? (i := 201) rfl) rfl
theorem bw_443 : Cond.lays "NodeWeightsModel" "NodeWeightsModel" "given" "I" ∈ bg_A := bg_2 (List.mem_of_getElem? (i := 203) rfl) rfl
theorem bw_445 : Cond.lays "NodeWeightsModel" "NodeWeightsModel" "rewarded" "I" ∈ bg_A := bg_2 (List.mem_of_getElem? (i := 205) rfl) rfl
theorem bw_447 : Cond.lays "NodeWeightsModel" "NodeWeightsModel" "nodes" "I" ∈ bg_A := bg_2 (List.mem_of_getElem? (i := 207) rfl) rfl
theorem bw_449 : Cond.laysFinal "NodeWeightsModel" "NodeWeightsModel" "keeper" "[I" ∈ bg_A := bg_2 (List.mem_of_getElem? (i := 209) rfl) rfl
theorem bw_451 : Cond.laysFinal "NodeWeightsModel" "NodeWeightsModel" "cut" "[I" ∈ bg_A := bg_2 (List.mem_of_getElem? (i := 211) rfl) rfl
theorem bw_453 : Cond.laysFinal "NodeWeightsModel" "NodeWeightsModel" "state" "[I" ∈ bg_A := bg_2 (List.mem_of_getElem? (i := 213) rfl) rfl
theorem bw_455 : Cond.laysFinal "NodeWeightsModel" "NodeWeightsModel" "due" "[I" ∈ bg_A := bg_2 (List.mem_of_getElem? (i := 215) rfl) rfl
theorem bw_457 : Cond.laysFinal "NodeWeightsModel" "NodeWeightsModel" "isFrozen" "[Z" ∈ bg_A := bg_2 (List.mem_of_getElem? (i := 217) rfl) rfl
theorem bw_459 : Cond.laysFinal "NodeWeightsModel" "NodeWeightsModel" "stake" "[I" ∈ bg_A := bg_2 (List.mem_of_getElem? (i := 219) rfl) rfl
theorem bw_461 : Cond.laysFinal "NodeWeightsModel" "NodeWeightsModel" "then" "[I" ∈ bg_A := bg_2 (List.mem_of_getElem? (i := 221) rfl) rfl
theorem bw_463 : Cond.laysFinal "NodeWeightsModel" "NodeWeightsModel" "drawn" "[I" ∈ bg_A := bg_2 (List.mem_of_getElem? (i := 223) rfl) rfl
theorem bw_465 : Cond.laysFinal "NodeWeightsModel" "NodeWeightsModel" "weight" "[I" ∈ bg_A := bg_2 (List.mem_of_getElem? (i := 225) rfl) rfl
theorem bw_467 : Cond.laysFinal "NodeWeightsModel" "NodeWeightsModel" "share" "[I" ∈ bg_A := bg_2 (List.mem_of_getElem? (i := 227) rfl) rfl
theorem bw_469 : Cond.laysFinal "NodeWeightsModel" "NodeWeightsModel" "pots" "[I" ∈ bg_A := bg_2 (List.mem_of_getElem? (i := 229) rfl) rfl
theorem bw_471 : Cond.laysFinal "NodeWeightsModel" "NodeWeightsModel" "part" "[J" ∈ bg_A := bg_2 (List.mem_of_getElem? (i := 231) rfl) rfl
theorem bw_473 : Cond.laysFinal "NodeWeightsModel" "NodeWeightsModel" "dealt" "[I" ∈ bg_A := bg_2 (List.mem_of_getElem? (i := 233) rfl) rfl
theorem bw_475 : Cond.laysFinal "NodeWeightsModel" "NodeWeightsModel" "jumps" "[I" ∈ bg_A := bg_2 (List.mem_of_getElem? (i := 235) rfl) rfl
theorem bw_478 : Cond.methodLink RL 17 yX6_rule ∈ bg_A := bg_2 (List.mem_of_getElem? (i := 238) rfl) rfl
theorem bw_479 : Cond.instanceMethod yX6_rule ∈ bg_A := bg_2 (List.mem_of_getElem? (i := 239) rfl) rfl
theorem bw_480 : Cond.selects RX6 yX6_rule yX6_rule ∈ bg_A := bg_3 (List.mem_of_getElem? (i := 0) rfl) rfl
theorem bw_481 : Cond.code yX6_rule cX6_rule 5 (some FieldType.int) ∈ bg_A := bg_3 (List.mem_of_getElem? (i := 1) rfl) rfl
theorem bw_482 : Cond.constantLong RX6 74 9 ∈ bg_A := bg_3 (List.mem_of_getElem? (i := 2) rfl) rfl
theorem bw_483 : Cond.methodLink RX6 76 yX6_in ∈ bg_A := bg_3 (List.mem_of_getElem? (i := 3) rfl) rfl
theorem bw_484 : Cond.static yX6_in ∈ bg_A := bg_3 (List.mem_of_getElem? (i := 4) rfl) rfl
theorem bw_485 : Cond.code yX6_in cX6_in 6 (some FieldType.boolean) ∈ bg_A := bg_3 (List.mem_of_getElem? (i := 5) rfl) rfl
theorem bw_486 : Cond.constantLong RX6 86 10000 ∈ bg_A := bg_3 (List.mem_of_getElem? (i := 6) rfl) rfl
theorem bw_487 : Cond.constantLong RX6 88 50 ∈ bg_A := bg_3 (List.mem_of_getElem? (i := 7) rfl) rfl
theorem bw_488 : Cond.constantLong RX6 90 1000000 ∈ bg_A := bg_3 (List.mem_of_getElem? (i := 8) rfl) rfl
theorem bw_489 : Cond.methodLink RL 21 yX6_fund ∈ bg_A := bg_3 (List.mem_of_getElem? (i := 9) rfl) rfl
theorem bw_490 : Cond.instanceMethod yX6_fund ∈ bg_A := bg_3 (List.mem_of_getElem? (i := 10) rfl) rfl
theorem bw_491 : Cond.selects RX6 yX6_fund yX6_fund ∈ bg_A := bg_3 (List.mem_of_getElem? (i := 11) rfl) rfl
theorem bw_492 : Cond.code yX6_fund cX6_fund 3 (some FieldType.int) ∈ bg_A := bg_3 (List.mem_of_getElem? (i := 12) rfl) rfl
theorem bw_493 : Cond.methodLink RX6 92 yX6_noAccount ∈ bg_A := bg_3 (List.mem_of_getElem? (i := 13) rfl) rfl
theorem bw_494 : Cond.static yX6_noAccount ∈ bg_A := bg_3 (List.mem_of_getElem? (i := 14) rfl) rfl
theorem bw_495 : Cond.code yX6_noAccount cX6_noAccount 1 (some FieldType.boolean) ∈ bg_A := bg_3 (List.mem_of_getElem? (i := 15) rfl) rfl
theorem bw_496 : Cond.constantLong RX6 96 100000 ∈ bg_A := bg_3 (List.mem_of_getElem? (i := 16) rfl) rfl
theorem bw_497 : Cond.methodLink RL 25 yX6_node ∈ bg_A := bg_3 (List.mem_of_getElem? (i := 17) rfl) rfl
theorem bw_498 : Cond.instanceMethod yX6_node ∈ bg_A := bg_3 (List.mem_of_getElem? (i := 18) rfl) rfl
theorem bw_499 : Cond.selects RX6 yX6_node yX6_node ∈ bg_A := bg_3 (List.mem_of_getElem? (i := 19) rfl) rfl
theorem bw_500 : Cond.code yX6_node cX6_node 3 (some FieldType.int) ∈ bg_A := bg_3 (List.mem_of_getElem? (i := 20) rfl) rfl
theorem bw_501 : Cond.constantLong RX6 101 100 ∈ bg_A := bg_3 (List.mem_of_getElem? (i := 21) rfl) rfl
theorem bw_502 : Cond.methodLink RL 30 yX6_stake ∈ bg_A := bg_3 (List.mem_of_getElem? (i := 22) rfl) rfl
theorem bw_503 : Cond.instanceMethod yX6_stake ∈ bg_A := bg_3 (List.mem_of_getElem? (i := 23) rfl) rfl
theorem bw_504 : Cond.selects RX6 yX6_stake yX6_stake ∈ bg_A := bg_3 (List.mem_of_getElem? (i := 24) rfl) rfl
theorem bw_505 : Cond.code yX6_stake cX6_stake 4 (some FieldType.int) ∈ bg_A := bg_3 (List.mem_of_getElem? (i := 25) rfl) rfl
theorem bw_506 : Cond.methodLink RX6 103 yX6_noNode ∈ bg_A := bg_3 (List.mem_of_getElem? (i := 26) rfl) rfl
theorem bw_508 : Cond.instanceMethod yX6_noNode ∈ bg_A := bg_3 (List.mem_of_getElem? (i := 28) rfl) rfl
theorem bw_509 : Cond.code yX6_noNode cX6_noNode 2 (some FieldType.boolean) ∈ bg_A := bg_3 (List.mem_of_getElem? (i := 29) rfl) rfl
theorem bw_510 : Cond.methodLink RL 34 yX6_draw ∈ bg_A := bg_3 (List.mem_of_getElem? (i := 30) rfl) rfl
theorem bw_511 : Cond.instanceMethod yX6_draw ∈ bg_A := bg_3 (List.mem_of_getElem? (i := 31) rfl) rfl
theorem bw_512 : Cond.selects RX6 yX6_draw yX6_draw ∈ bg_A := bg_3 (List.mem_of_getElem? (i := 32) rfl) rfl
theorem bw_513 : Cond.code yX6_draw cX6_draw 4 (some FieldType.int) ∈ bg_A := bg_3 (List.mem_of_getElem? (i := 33) rfl) rfl
theorem bw_514 : Cond.methodLink RL 39 yX6_join ∈ bg_A := bg_3 (List.mem_of_getElem? (i := 34) rfl) rfl
theorem bw_515 : Cond.instanceMethod yX6_join ∈ bg_A := bg_3 (List.mem_of_getElem? (i := 35) rfl) rfl
theorem bw_516 : Cond.selects RX6 yX6_join yX6_join ∈ bg_A := bg_3 (List.mem_of_getElem? (i := 36) rfl) rfl
theorem bw_517 : Cond.code yX6_join cX6_join 2 (some FieldType.int) ∈ bg_A := bg_3 (List.mem_of_getElem? (i := 37) rfl) rfl
theorem bw_518 : Cond.methodLink RL 43 yX6_leave ∈ bg_A := bg_3 (List.mem_of_getElem? (i := 38) rfl) rfl
theorem bw_519 : Cond.instanceMethod yX6_leave ∈ bg_A := bg_3 (List.mem_of_getElem? (i := 39) rfl) rfl
theorem bw_520 : Cond.selects RX6 yX6_leave yX6_leave ∈ bg_A := bg_3 (List.mem_of_getElem? (i := 40) rfl) rfl
theorem bw_521 : Cond.code yX6_leave cX6_leave 2 (some FieldType.int) ∈ bg_A := bg_3 (List.mem_of_getElem? (i := 41) rfl) rfl
theorem bw_522 : Cond.methodLink RL 48 yX6_freeze ∈ bg_A := bg_3 (List.mem_of_getElem? (i := 42) rfl) rfl
theorem bw_523 : Cond.instanceMethod yX6_freeze ∈ bg_A := bg_3 (List.mem_of_getElem? (i := 43) rfl) rfl
theorem bw_524 : Cond.selects RX6 yX6_freeze yX6_freeze ∈ bg_A := bg_3 (List.mem_of_getElem? (i := 44) rfl) rfl
theorem bw_525 : Cond.code yX6_freeze cX6_freeze 4 (some FieldType.int) ∈ bg_A := bg_3 (List.mem_of_getElem? (i := 45) rfl) rfl
theorem bw_526 : Cond.methodLink RL 52 yX6_advance ∈ bg_A := bg_3 (List.mem_of_getElem? (i := 46) rfl) rfl
theorem bw_527 : Cond.instanceMethod yX6_advance ∈ bg_A := bg_3 (List.mem_of_getElem? (i := 47) rfl) rfl
theorem bw_528 : Cond.selects RX6 yX6_advance yX6_advance ∈ bg_A := bg_3 (List.mem_of_getElem? (i := 48) rfl) rfl
theorem bw_529 : Cond.code yX6_advance cX6_advance 5 (some FieldType.int) ∈ bg_A := bg_3 (List.mem_of_getElem? (i := 49) rfl) rfl
theorem bw_530 : Cond.methodLink RX6 120 yX6_payFor ∈ bg_A := bg_3 (List.mem_of_getElem? (i := 50) rfl) rfl
theorem bw_532 : Cond.instanceMethod yX6_payFor ∈ bg_A := bg_3 (List.mem_of_getElem? (i := 52) rfl) rfl
theorem bw_533 : Cond.code yX6_payFor cX6_payFor 6 (Option.none : Option Jvm.ClassFile.FieldType) ∈ bg_A := bg_3 (List.mem_of_getElem? (i := 53) rfl) rfl
theorem bw_534 : Cond.methodLink RX6 106 yX6_allOf ∈ bg_A := bg_3 (List.mem_of_getElem? (i := 54) rfl) rfl
theorem bw_536 : Cond.instanceMethod yX6_allOf ∈ bg_A := bg_3 (List.mem_of_getElem? (i := 56) rfl) rfl
theorem bw_537 : Cond.code yX6_allOf cX6_allOf 4 (some FieldType.int) ∈ bg_A := bg_3 (List.mem_of_getElem? (i := 57) rfl) rfl
theorem bw_538 : Cond.methodLink RX6 110 yX6_deal ∈ bg_A := bg_3 (List.mem_of_getElem? (i := 58) rfl) rfl
theorem bw_540 : Cond.instanceMethod yX6_deal ∈ bg_A := bg_3 (List.mem_of_getElem? (i := 60) rfl) rfl
theorem bw_541 : Cond.code yX6_deal cX6_deal 12 (Option.none : Option Jvm.ClassFile.FieldType) ∈ bg_A := bg_3 (List.mem_of_getElem? (i := 61) rfl) rfl
theorem bw_542 : Cond.methodLink RX6 124 yX6_fix ∈ bg_A := bg_3 (List.mem_of_getElem? (i := 62) rfl) rfl
theorem bw_544 : Cond.instanceMethod yX6_fix ∈ bg_A := bg_3 (List.mem_of_getElem? (i := 64) rfl) rfl
theorem bw_545 : Cond.code yX6_fix cX6_fix 4 (Option.none : Option Jvm.ClassFile.FieldType) ∈ bg_A := bg_3 (List.mem_of_getElem? (i := 65) rfl) rfl
theorem bw_546 : Cond.methodLink RX6 117 yX6_about5 ∈ bg_A := bg_3 (List.mem_of_getElem? (i := 66) rfl) rfl
theorem bw_548 : Cond.instanceMethod yX6_about5 ∈ bg_A := bg_3 (List.mem_of_getElem? (i := 68) rfl) rfl
theorem bw_549 : Cond.code yX6_about5 cX6_about5 4 (some FieldType.int) ∈ bg_A := bg_3 (List.mem_of_getElem? (i := 69) rfl) rfl
theorem bw_550 : Cond.methodLink RL 56 yX6_balance ∈ bg_A := bg_3 (List.mem_of_getElem? (i := 70) rfl) rfl
theorem bw_551 : Cond.instanceMethod yX6_balance ∈ bg_A := bg_3 (List.mem_of_getElem? (i := 71) rfl) rfl
theorem bw_552 : Cond.selects RX6 yX6_balance yX6_balance ∈ bg_A := bg_3 (List.mem_of_getElem? (i := 72) rfl) rfl
theorem bw_553 : Cond.code yX6_balance cX6_balance 2 (some FieldType.int) ∈ bg_A := bg_3 (List.mem_of_getElem? (i := 73) rfl) rfl
theorem bw_554 : Cond.methodLink RL 60 yX6_staked ∈ bg_A := bg_3 (List.mem_of_getElem? (i := 74) rfl) rfl
theorem bw_555 : Cond.instanceMethod yX6_staked ∈ bg_A := bg_3 (List.mem_of_getElem? (i := 75) rfl) rfl
theorem bw_556 : Cond.selects RX6 yX6_staked yX6_staked ∈ bg_A := bg_3 (List.mem_of_getElem? (i := 76) rfl) rfl
theorem bw_557 : Cond.code yX6_staked cX6_staked 5 (some FieldType.int) ∈ bg_A := bg_3 (List.mem_of_getElem? (i := 77) rfl) rfl
theorem bw_558 : Cond.methodLink RL 64 yX6_drawn ∈ bg_A := bg_3 (List.mem_of_getElem? (i := 78) rfl) rfl
theorem bw_559 : Cond.instanceMethod yX6_drawn ∈ bg_A := bg_3 (List.mem_of_getElem? (i := 79) rfl) rfl
theorem bw_560 : Cond.selects RX6 yX6_drawn yX6_drawn ∈ bg_A := bg_3 (List.mem_of_getElem? (i := 80) rfl) rfl
theorem bw_561 : Cond.code yX6_drawn cX6_drawn 3 (some FieldType.int) ∈ bg_A := bg_3 (List.mem_of_getElem? (i := 81) rfl) rfl
theorem bw_562 : Cond.constantLong RX6 127 109 ∈ bg_A := bg_3 (List.mem_of_getElem? (i := 82) rfl) rfl
theorem bw_563 : Cond.methodLink RX6 129 yX6_drawnOf ∈ bg_A := bg_3 (List.mem_of_getElem? (i := 83) rfl) rfl
theorem bw_565 : Cond.instanceMethod yX6_drawnOf ∈ bg_A := bg_3 (List.mem_of_getElem? (i := 85) rfl) rfl
theorem bw_566 : Cond.code yX6_drawnOf cX6_drawnOf 4 (some FieldType.int) ∈ bg_A := bg_3 (List.mem_of_getElem? (i := 86) rfl) rfl
theorem bw_567 : Cond.methodLink RL 68 yX6_about ∈ bg_A := bg_3 (List.mem_of_getElem? (i := 87) rfl) rfl
theorem bw_568 : Cond.instanceMethod yX6_about ∈ bg_A := bg_3 (List.mem_of_getElem? (i := 88) rfl) rfl
theorem bw_569 : Cond.selects RX6 yX6_about yX6_about ∈ bg_A := bg_3 (List.mem_of_getElem? (i := 89) rfl) rfl
theorem bw_570 : Cond.code yX6_about cX6_about 3 (some FieldType.int) ∈ bg_A := bg_3 (List.mem_of_getElem? (i := 90) rfl) rfl
theorem bw_571 : Cond.methodLink RL 72 yX6_weight ∈ bg_A := bg_3 (List.mem_of_getElem? (i := 91) rfl) rfl
theorem bw_572 : Cond.instanceMethod yX6_weight ∈ bg_A := bg_3 (List.mem_of_getElem? (i := 92) rfl) rfl
theorem bw_573 : Cond.selects RX6 yX6_weight yX6_weight ∈ bg_A := bg_3 (List.mem_of_getElem? (i := 93) rfl) rfl
theorem bw_574 : Cond.code yX6_weight cX6_weight 3 (some FieldType.int) ∈ bg_A := bg_3 (List.mem_of_getElem? (i := 94) rfl) rfl
theorem bw_575 : Cond.methodLink RX6 132 yX6_noHeight ∈ bg_A := bg_3 (List.mem_of_getElem? (i := 95) rfl) rfl
theorem bw_577 : Cond.instanceMethod yX6_noHeight ∈ bg_A := bg_3 (List.mem_of_getElem? (i := 97) rfl) rfl
theorem bw_578 : Cond.code yX6_noHeight cX6_noHeight 2 (some FieldType.boolean) ∈ bg_A := bg_3 (List.mem_of_getElem? (i := 98) rfl) rfl
theorem bw_579 : Cond.methodLink RL 76 yX6_reward ∈ bg_A := bg_3 (List.mem_of_getElem? (i := 99) rfl) rfl
theorem bw_580 : Cond.instanceMethod yX6_reward ∈ bg_A := bg_3 (List.mem_of_getElem? (i := 100) rfl) rfl
theorem bw_581 : Cond.selects RX6 yX6_reward yX6_reward ∈ bg_A := bg_3 (List.mem_of_getElem? (i := 101) rfl) rfl
theorem bw_582 : Cond.code yX6_reward cX6_reward 3 (some FieldType.int) ∈ bg_A := bg_3 (List.mem_of_getElem? (i := 102) rfl) rfl
theorem bw_583 : Cond.methodLink RL 80 yX6_judge ∈ bg_A := bg_3 (List.mem_of_getElem? (i := 103) rfl) rfl
theorem bw_584 : Cond.instanceMethod yX6_judge ∈ bg_A := bg_3 (List.mem_of_getElem? (i := 104) rfl) rfl
theorem bw_585 : Cond.selects RX6 yX6_judge yX6_judge ∈ bg_A := bg_3 (List.mem_of_getElem? (i := 105) rfl) rfl
theorem bw_586 : Cond.code yX6_judge cX6_judge 3 (some FieldType.int) ∈ bg_A := bg_3 (List.mem_of_getElem? (i := 106) rfl) rfl
theorem bw_587 : Cond.methodLink RX6 147 yX6_noBits ∈ bg_A := bg_3 (List.mem_of_getElem? (i := 107) rfl) rfl
theorem bw_589 : Cond.instanceMethod yX6_noBits ∈ bg_A := bg_3 (List.mem_of_getElem? (i := 109) rfl) rfl
theorem bw_590 : Cond.code yX6_noBits cX6_noBits 2 (some FieldType.boolean) ∈ bg_A := bg_3 (List.mem_of_getElem? (i := 110) rfl) rfl
theorem bw_591 : Cond.methodLink RX6 143 yX6_isGood ∈ bg_A := bg_3 (List.mem_of_getElem? (i := 111) rfl) rfl
theorem bw_593 : Cond.instanceMethod yX6_isGood ∈ bg_A := bg_3 (List.mem_of_getElem? (i := 113) rfl) rfl
theorem bw_594 : Cond.code yX6_isGood cX6_isGood 3 (some FieldType.boolean) ∈ bg_A := bg_3 (List.mem_of_getElem? (i := 114) rfl) rfl
theorem bw_595 : Cond.constantLong RX6 135 3 ∈ bg_A := bg_3 (List.mem_of_getElem? (i := 115) rfl) rfl
theorem bw_596 : Cond.methodLink RX6 137 yX6_weightOf ∈ bg_A := bg_3 (List.mem_of_getElem? (i := 116) rfl) rfl
theorem bw_598 : Cond.instanceMethod yX6_weightOf ∈ bg_A := bg_3 (List.mem_of_getElem? (i := 118) rfl) rfl
theorem bw_599 : Cond.code yX6_weightOf cX6_weightOf 5 (some FieldType.int) ∈ bg_A := bg_3 (List.mem_of_getElem? (i := 119) rfl) rfl
theorem bw_600 : Cond.constantLong RX6 141 2 ∈ bg_A := bg_3 (List.mem_of_getElem? (i := 120) rfl) rfl
theorem bw_601 : Cond.methodLink RL 84 yX6_jump ∈ bg_A := bg_3 (List.mem_of_getElem? (i := 121) rfl) rfl
theorem bw_602 : Cond.instanceMethod yX6_jump ∈ bg_A := bg_3 (List.mem_of_getElem? (i := 122) rfl) rfl
theorem bw_603 : Cond.selects RX6 yX6_jump yX6_jump ∈ bg_A := bg_3 (List.mem_of_getElem? (i := 123) rfl) rfl
theorem bw_604 : Cond.code yX6_jump cX6_jump 4 (some FieldType.int) ∈ bg_A := bg_3 (List.mem_of_getElem? (i := 124) rfl) rfl
theorem bw_605 : Cond.methodLink RX6 150 yX6_may ∈ bg_A := bg_3 (List.mem_of_getElem? (i := 125) rfl) rfl
theorem bw_607 : Cond.instanceMethod yX6_may ∈ bg_A := bg_3 (List.mem_of_getElem? (i := 127) rfl) rfl
theorem bw_608 : Cond.code yX6_may cX6_may 4 (some FieldType.boolean) ∈ bg_A := bg_3 (List.mem_of_getElem? (i := 128) rfl) rfl
theorem bw_609 : Cond.methodLink RL 88 yX6_overlap ∈ bg_A := bg_3 (List.mem_of_getElem? (i := 129) rfl) rfl
theorem bw_610 : Cond.instanceMethod yX6_overlap ∈ bg_A := bg_3 (List.mem_of_getElem? (i := 130) rfl) rfl
theorem bw_611 : Cond.selects RX6 yX6_overlap yX6_overlap ∈ bg_A := bg_3 (List.mem_of_getElem? (i := 131) rfl) rfl
theorem bw_612 : Cond.code yX6_overlap cX6_overlap 7 (some FieldType.int) ∈ bg_A := bg_3 (List.mem_of_getElem? (i := 132) rfl) rfl
theorem bw_613 : Cond.methodLink RL 92 yX6_way ∈ bg_A := bg_3 (List.mem_of_getElem? (i := 133) rfl) rfl
theorem bw_614 : Cond.instanceMethod yX6_way ∈ bg_A := bg_3 (List.mem_of_getElem? (i := 134) rfl) rfl
theorem bw_615 : Cond.selects RX6 yX6_way yX6_way ∈ bg_A := bg_3 (List.mem_of_getElem? (i := 135) rfl) rfl
theorem bw_616 : Cond.code yX6_way cX6_way 6 (some FieldType.int) ∈ bg_A := bg_3 (List.mem_of_getElem? (i := 136) rfl) rfl
theorem bw_617 : Cond.methodLink RX6 157 yX6_nextOf ∈ bg_A := bg_3 (List.mem_of_getElem? (i := 137) rfl) rfl
theorem bw_619 : Cond.instanceMethod yX6_nextOf ∈ bg_A := bg_3 (List.mem_of_getElem? (i := 139) rfl) rfl
theorem bw_620 : Cond.code yX6_nextOf cX6_nextOf 5 (some FieldType.int) ∈ bg_A := bg_3 (List.mem_of_getElem? (i := 140) rfl) rfl
theorem bw_621 : Cond.methodLink RX6 154 yX6_present ∈ bg_A := bg_3 (List.mem_of_getElem? (i := 141) rfl) rfl
theorem bw_623 : Cond.instanceMethod yX6_present ∈ bg_A := bg_3 (List.mem_of_getElem? (i := 143) rfl) rfl
theorem bw_624 : Cond.code yX6_present cX6_present 4 (some FieldType.int) ∈ bg_A := bg_3 (List.mem_of_getElem? (i := 144) rfl) rfl
theorem bw_625 : Cond.constantLong RX6 160 (-1) ∈ bg_A := bg_3 (List.mem_of_getElem? (i := 145) rfl) rfl
theorem bw_626 : Cond.methodLink RL 96 yX6_count ∈ bg_A := bg_3 (List.mem_of_getElem? (i := 146) rfl) rfl
theorem bw_627 : Cond.instanceMethod yX6_count ∈ bg_A := bg_3 (List.mem_of_getElem? (i := 147) rfl) rfl
theorem bw_628 : Cond.selects RX6 yX6_count yX6_count ∈ bg_A := bg_3 (List.mem_of_getElem? (i := 148) rfl) rfl
theorem bw_629 : Cond.code yX6_count cX6_count 4 (some FieldType.int) ∈ bg_A := bg_3 (List.mem_of_getElem? (i := 149) rfl) rfl
theorem bs_0 : Cond.selects RX5 yX5_isMove yX5_isMove ∈ bg_A := List.mem_filter.mpr ⟨List.mem_append_left _ (List.mem_of_getElem? (i := 0) rfl), rfl⟩
theorem bs_1 : Cond.selects RX5 yX5_beginNextHeight yX5_beginNextHeight ∈ bg_A := List.mem_filter.mpr ⟨List.mem_append_left _ (List.mem_of_getElem? (i := 1) rfl), rfl⟩
theorem bs_2 : Cond.selects RX5 yX5_giveRewards yX5_giveRewards ∈ bg_A := List.mem_filter.mpr ⟨List.mem_append_left _ (List.mem_of_getElem? (i := 2) rfl), rfl⟩
theorem bs_3 : Cond.selects RX5 yX5_pot yX5_pot ∈ bg_A := List.mem_filter.mpr ⟨List.mem_append_left _ (List.mem_of_getElem? (i := 3) rfl), rfl⟩
theorem bs_4 : Cond.selects RX5 yX5_payNode yX5_payNode ∈ bg_A := List.mem_filter.mpr ⟨List.mem_append_left _ (List.mem_of_getElem? (i := 4) rfl), rfl⟩
theorem bs_5 : Cond.selects RX5 yX5_fixSet yX5_fixSet ∈ bg_A := List.mem_filter.mpr ⟨List.mem_append_left _ (List.mem_of_getElem? (i := 5) rfl), rfl⟩
theorem bs_6 : Cond.selects RX5 yX5_hasSet yX5_hasSet ∈ bg_A := List.mem_filter.mpr ⟨List.mem_append_left _ (List.mem_of_getElem? (i := 6) rfl), rfl⟩
theorem bs_7 : Cond.selects RX5 yX5_isUpward yX5_isUpward ∈ bg_A := List.mem_filter.mpr ⟨List.mem_append_left _ (List.mem_of_getElem? (i := 7) rfl), rfl⟩
theorem bs_8 : Cond.selects RX6 yX6_noNode yX6_noNode ∈ bg_A := List.mem_filter.mpr ⟨List.mem_append_left _ (List.mem_of_getElem? (i := 8) rfl), rfl⟩
theorem bs_9 : Cond.selects RX6 yX6_payFor yX6_payFor ∈ bg_A := List.mem_filter.mpr ⟨List.mem_append_left _ (List.mem_of_getElem? (i := 9) rfl), rfl⟩
theorem bs_10 : Cond.selects RX6 yX6_allOf yX6_allOf ∈ bg_A := List.mem_filter.mpr ⟨List.mem_append_left _ (List.mem_of_getElem? (i := 10) rfl), rfl⟩
theorem bs_11 : Cond.selects RX6 yX6_deal yX6_deal ∈ bg_A := List.mem_filter.mpr ⟨List.mem_append_left _ (List.mem_of_getElem? (i := 11) rfl), rfl⟩
theorem bs_12 : Cond.selects RX6 yX6_fix yX6_fix ∈ bg_A := List.mem_filter.mpr ⟨List.mem_append_left _ (List.mem_of_getElem? (i := 12) rfl), rfl⟩
theorem bs_13 : Cond.selects RX6 yX6_about5 yX6_about5 ∈ bg_A := List.mem_filter.mpr ⟨List.mem_append_left _ (List.mem_of_getElem? (i := 13) rfl), rfl⟩
theorem bs_14 : Cond.selects RX6 yX6_drawnOf yX6_drawnOf ∈ bg_A := List.mem_filter.mpr ⟨List.mem_append_left _ (List.mem_of_getElem? (i := 14) rfl), rfl⟩
theorem bs_15 : Cond.selects RX6 yX6_noHeight yX6_noHeight ∈ bg_A := List.mem_filter.mpr ⟨List.mem_append_left _ (List.mem_of_getElem? (i := 15) rfl), rfl⟩
theorem bs_16 : Cond.selects RX6 yX6_noBits yX6_noBits ∈ bg_A := List.mem_filter.mpr ⟨List.mem_append_left _ (List.mem_of_getElem? (i := 16) rfl), rfl⟩
theorem bs_17 : Cond.selects RX6 yX6_isGood yX6_isGood ∈ bg_A := List.mem_filter.mpr ⟨List.mem_append_left _ (List.mem_of_getElem? (i := 17) rfl), rfl⟩
theorem bs_18 : Cond.selects RX6 yX6_weightOf yX6_weightOf ∈ bg_A := List.mem_filter.mpr ⟨List.mem_append_left _ (List.mem_of_getElem? (i := 18) rfl), rfl⟩
theorem bs_19 : Cond.selects RX6 yX6_may yX6_may ∈ bg_A := List.mem_filter.mpr ⟨List.mem_append_left _ (List.mem_of_getElem? (i := 19) rfl), rfl⟩
theorem bs_20 : Cond.selects RX6 yX6_nextOf yX6_nextOf ∈ bg_A := List.mem_filter.mpr ⟨List.mem_append_left _ (List.mem_of_getElem? (i := 20) rfl), rfl⟩
theorem bs_21 : Cond.selects RX6 yX6_present yX6_present ∈ bg_A := List.mem_filter.mpr ⟨List.mem_append_left _ (List.mem_of_getElem? (i := 21) rfl), rfl⟩
theorem bi_0 : ∀ w ∈ wsX00, w ∈ bg_A := by
  intro w h
  refine List.mem_filter.mpr ⟨List.mem_append_right _ ?_, ?_⟩
  · revert w; decide +kernel
  · revert w; decide +kernel
theorem bi_1 : ∀ w ∈ wsX10, w ∈ bg_A := by
  intro w h
  refine List.mem_filter.mpr ⟨List.mem_append_right _ ?_, ?_⟩
  · revert w; decide +kernel
  · revert w; decide +kernel
theorem bi_2 : ∀ w ∈ wsX20, w ∈ bg_A := by
  intro w h
  refine List.mem_filter.mpr ⟨List.mem_append_right _ ?_, ?_⟩
  · revert w; decide +kernel
  · revert w; decide +kernel
theorem bi_3 : ∀ w ∈ wsX30, w ∈ bg_A := by
  intro w h
  refine List.mem_filter.mpr ⟨List.mem_append_right _ ?_, ?_⟩
  · revert w; decide +kernel
  · revert w; decide +kernel
theorem bi_4 : ∀ w ∈ wsX40, w ∈ bg_A := by
  intro w h
  refine List.mem_filter.mpr ⟨List.mem_append_right _ ?_, ?_⟩
  · revert w; decide +kernel
  · revert w; decide +kernel
theorem bi_5 : ∀ w ∈ wsX50, w ∈ bg_A := by
  intro w h
  refine List.mem_filter.mpr ⟨List.mem_append_right _ ?_, ?_⟩
  · revert w; decide +kernel
  · revert w; decide +kernel
theorem bi_6 : ∀ w ∈ wsX60, w ∈ bg_A := by
  intro w h
  refine List.mem_filter.mpr ⟨List.mem_append_right _ ?_, ?_⟩
  · revert w; decide +kernel
  · revert w; decide +kernel
