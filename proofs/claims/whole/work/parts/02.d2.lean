theorem dX6_in_0 : decode cX6_in 0 = .ok (.lload_n 0, 1) := by decide +kernel
theorem dX6_in_1 : decode cX6_in 1 = .ok (.lload_n 2, 1) := by decide +kernel
theorem dX6_in_2 : decode cX6_in 2 = .ok (.lcmp, 1) := by decide +kernel
theorem dX6_in_3 : decode cX6_in 3 = .ok (.ifCond .lt 14, 3) := by decide +kernel
theorem dX6_in_6 : decode cX6_in 6 = .ok (.lload_n 0, 1) := by decide +kernel
theorem dX6_in_7 : decode cX6_in 7 = .ok (.lload 4, 2) := by decide +kernel
theorem dX6_in_9 : decode cX6_in 9 = .ok (.lcmp, 1) := by decide +kernel
theorem dX6_in_10 : decode cX6_in 10 = .ok (.ifCond .gt 7, 3) := by decide +kernel
theorem dX6_in_13 : decode cX6_in 13 = .ok (.iconst 1, 1) := by decide +kernel
theorem dX6_in_14 : decode cX6_in 14 = .ok (.goto 4, 3) := by decide +kernel
theorem dX6_in_17 : decode cX6_in 17 = .ok (.iconst 0, 1) := by decide +kernel
theorem dX6_in_18 : decode cX6_in 18 = .ok (.ireturn, 1) := by decide +kernel
theorem dX6_init_0 : decode cX6_init 0 = .ok (.aload_n 0, 1) := by decide +kernel
theorem dX6_init_1 : decode cX6_init 1 = .ok (.invokespecial 7, 3) := by decide +kernel
theorem dX6_init_4 : decode cX6_init 4 = .ok (.aload_n 0, 1) := by decide +kernel
theorem dX6_init_5 : decode cX6_init 5 = .ok (.iconst 2, 1) := by decide +kernel
theorem dX6_init_6 : decode cX6_init 6 = .ok (.putfield 13, 3) := by decide +kernel
theorem dX6_init_9 : decode cX6_init 9 = .ok (.aload_n 0, 1) := by decide +kernel
theorem dX6_init_10 : decode cX6_init 10 = .ok (.bipush 100, 2) := by decide +kernel
theorem dX6_init_12 : decode cX6_init 12 = .ok (.putfield 16, 3) := by decide +kernel
theorem dX6_init_15 : decode cX6_init 15 = .ok (.aload_n 0, 1) := by decide +kernel
theorem dX6_init_16 : decode cX6_init 16 = .ok (.bipush 10, 2) := by decide +kernel
theorem dX6_init_18 : decode cX6_init 18 = .ok (.putfield 19, 3) := by decide +kernel
theorem dX6_init_21 : decode cX6_init 21 = .ok (.aload_n 0, 1) := by decide +kernel
theorem dX6_init_22 : decode cX6_init 22 = .ok (.ldc 22, 2) := by decide +kernel
theorem dX6_init_24 : decode cX6_init 24 = .ok (.putfield 23, 3) := by decide +kernel
theorem dX6_init_27 : decode cX6_init 27 = .ok (.aload_n 0, 1) := by decide +kernel
theorem dX6_init_28 : decode cX6_init 28 = .ok (.bipush 10, 2) := by decide +kernel
theorem dX6_init_30 : decode cX6_init 30 = .ok (.newarray .int, 2) := by decide +kernel
theorem dX6_init_32 : decode cX6_init 32 = .ok (.putfield 26, 3) := by decide +kernel
theorem dX6_init_35 : decode cX6_init 35 = .ok (.aload_n 0, 1) := by decide +kernel
theorem dX6_init_36 : decode cX6_init 36 = .ok (.bipush 8, 2) := by decide +kernel
theorem dX6_init_38 : decode cX6_init 38 = .ok (.newarray .int, 2) := by decide +kernel
theorem dX6_init_40 : decode cX6_init 40 = .ok (.putfield 30, 3) := by decide +kernel
theorem dX6_init_43 : decode cX6_init 43 = .ok (.aload_n 0, 1) := by decide +kernel
theorem dX6_init_44 : decode cX6_init 44 = .ok (.bipush 8, 2) := by decide +kernel
theorem dX6_init_46 : decode cX6_init 46 = .ok (.newarray .int, 2) := by decide +kernel
theorem dX6_init_48 : decode cX6_init 48 = .ok (.putfield 33, 3) := by decide +kernel
theorem dX6_init_51 : decode cX6_init 51 = .ok (.aload_n 0, 1) := by decide +kernel
theorem dX6_init_52 : decode cX6_init 52 = .ok (.bipush 8, 2) := by decide +kernel
theorem dX6_init_54 : decode cX6_init 54 = .ok (.newarray .int, 2) := by decide +kernel
theorem dX6_init_56 : decode cX6_init 56 = .ok (.putfield 36, 3) := by decide +kernel
theorem dX6_init_59 : decode cX6_init 59 = .ok (.aload_n 0, 1) := by decide +kernel
theorem dX6_init_60 : decode cX6_init 60 = .ok (.bipush 8, 2) := by decide +kernel
theorem dX6_init_62 : decode cX6_init 62 = .ok (.newarray .int, 2) := by decide +kernel
theorem dX6_init_64 : decode cX6_init 64 = .ok (.putfield 39, 3) := by decide +kernel
theorem dX6_init_67 : decode cX6_init 67 = .ok (.aload_n 0, 1) := by decide +kernel
theorem dX6_init_68 : decode cX6_init 68 = .ok (.bipush 8, 2) := by decide +kernel
theorem dX6_init_70 : decode cX6_init 70 = .ok (.newarray .boolean, 2) := by decide +kernel
theorem dX6_init_72 : decode cX6_init 72 = .ok (.putfield 42, 3) := by decide +kernel
theorem dX6_init_75 : decode cX6_init 75 = .ok (.aload_n 0, 1) := by decide +kernel
theorem dX6_init_76 : decode cX6_init 76 = .ok (.bipush 80, 2) := by decide +kernel
theorem dX6_init_78 : decode cX6_init 78 = .ok (.newarray .int, 2) := by decide +kernel
theorem dX6_init_80 : decode cX6_init 80 = .ok (.putfield 46, 3) := by decide +kernel
theorem dX6_init_83 : decode cX6_init 83 = .ok (.aload_n 0, 1) := by decide +kernel
theorem dX6_init_84 : decode cX6_init 84 = .ok (.bipush 80, 2) := by decide +kernel
theorem dX6_init_86 : decode cX6_init 86 = .ok (.newarray .int, 2) := by decide +kernel
theorem dX6_init_88 : decode cX6_init 88 = .ok (.putfield 49, 3) := by decide +kernel
theorem dX6_init_91 : decode cX6_init 91 = .ok (.aload_n 0, 1) := by decide +kernel
theorem dX6_init_92 : decode cX6_init 92 = .ok (.sipush 1100, 3) := by decide +kernel
theorem dX6_init_95 : decode cX6_init 95 = .ok (.newarray .int, 2) := by decide +kernel
theorem dX6_init_97 : decode cX6_init 97 = .ok (.putfield 52, 3) := by decide +kernel
theorem dX6_init_100 : decode cX6_init 100 = .ok (.aload_n 0, 1) := by decide +kernel
theorem dX6_init_101 : decode cX6_init 101 = .ok (.sipush 808, 3) := by decide +kernel
theorem dX6_init_104 : decode cX6_init 104 = .ok (.newarray .int, 2) := by decide +kernel
theorem dX6_init_106 : decode cX6_init 106 = .ok (.putfield 55, 3) := by decide +kernel
theorem dX6_init_109 : decode cX6_init 109 = .ok (.aload_n 0, 1) := by decide +kernel
theorem dX6_init_110 : decode cX6_init 110 = .ok (.sipush 808, 3) := by decide +kernel
theorem dX6_init_113 : decode cX6_init 113 = .ok (.newarray .int, 2) := by decide +kernel
theorem dX6_init_115 : decode cX6_init 115 = .ok (.putfield 58, 3) := by decide +kernel
theorem dX6_init_118 : decode cX6_init 118 = .ok (.aload_n 0, 1) := by decide +kernel
theorem dX6_init_119 : decode cX6_init 119 = .ok (.bipush 101, 2) := by decide +kernel
theorem dX6_init_121 : decode cX6_init 121 = .ok (.newarray .int, 2) := by decide +kernel
theorem dX6_init_123 : decode cX6_init 123 = .ok (.putfield 61, 3) := by decide +kernel
theorem dX6_init_126 : decode cX6_init 126 = .ok (.aload_n 0, 1) := by decide +kernel
theorem dX6_init_127 : decode cX6_init 127 = .ok (.bipush 10, 2) := by decide +kernel
theorem dX6_init_129 : decode cX6_init 129 = .ok (.newarray .long, 2) := by decide +kernel
theorem dX6_init_131 : decode cX6_init 131 = .ok (.putfield 64, 3) := by decide +kernel
theorem dX6_init_134 : decode cX6_init 134 = .ok (.aload_n 0, 1) := by decide +kernel
theorem dX6_init_135 : decode cX6_init 135 = .ok (.bipush 10, 2) := by decide +kernel
theorem dX6_init_137 : decode cX6_init 137 = .ok (.newarray .int, 2) := by decide +kernel
theorem dX6_init_139 : decode cX6_init 139 = .ok (.putfield 68, 3) := by decide +kernel
theorem dX6_init_142 : decode cX6_init 142 = .ok (.aload_n 0, 1) := by decide +kernel
theorem dX6_init_143 : decode cX6_init 143 = .ok (.bipush 101, 2) := by decide +kernel
theorem dX6_init_145 : decode cX6_init 145 = .ok (.newarray .int, 2) := by decide +kernel
theorem dX6_init_147 : decode cX6_init 147 = .ok (.putfield 71, 3) := by decide +kernel
theorem dX6_init_150 : decode cX6_init 150 = .ok (.aload_n 0, 1) := by decide +kernel
theorem dX6_init_151 : decode cX6_init 151 = .ok (.iconst 0, 1) := by decide +kernel
theorem dX6_init_152 : decode cX6_init 152 = .ok (.putfield 1, 3) := by decide +kernel
theorem dX6_init_155 : decode cX6_init 155 = .ok (.return_, 1) := by decide +kernel
theorem dX6_noAccount_0 : decode cX6_noAccount 0 = .ok (.iload_n 0, 1) := by decide +kernel
theorem dX6_noAccount_1 : decode cX6_noAccount 1 = .ok (.i2l, 1) := by decide +kernel
theorem dX6_noAccount_2 : decode cX6_noAccount 2 = .ok (.lconst 0, 1) := by decide +kernel
theorem dX6_noAccount_3 : decode cX6_noAccount 3 = .ok (.ldc2_w 74, 3) := by decide +kernel
theorem dX6_noAccount_6 : decode cX6_noAccount 6 = .ok (.invokestatic 76, 3) := by decide +kernel
theorem dX6_noAccount_9 : decode cX6_noAccount 9 = .ok (.ifCond .ne 7, 3) := by decide +kernel
theorem dX6_noAccount_12 : decode cX6_noAccount 12 = .ok (.iconst 1, 1) := by decide +kernel
theorem dX6_noAccount_13 : decode cX6_noAccount 13 = .ok (.goto 4, 3) := by decide +kernel
theorem dX6_noAccount_16 : decode cX6_noAccount 16 = .ok (.iconst 0, 1) := by decide +kernel
theorem dX6_noAccount_17 : decode cX6_noAccount 17 = .ok (.ireturn, 1) := by decide +kernel
theorem dX6_noNode_0 : decode cX6_noNode 0 = .ok (.iload_n 1, 1) := by decide +kernel
theorem dX6_noNode_1 : decode cX6_noNode 1 = .ok (.i2l, 1) := by decide +kernel
theorem dX6_noNode_2 : decode cX6_noNode 2 = .ok (.lconst 0, 1) := by decide +kernel
theorem dX6_noNode_3 : decode cX6_noNode 3 = .ok (.aload_n 0, 1) := by decide +kernel
theorem dX6_noNode_4 : decode cX6_noNode 4 = .ok (.getfield 80, 3) := by decide +kernel
theorem dX6_noNode_7 : decode cX6_noNode 7 = .ok (.iconst 1, 1) := by decide +kernel
theorem dX6_noNode_8 : decode cX6_noNode 8 = .ok (.isub, 1) := by decide +kernel
theorem dX6_noNode_9 : decode cX6_noNode 9 = .ok (.i2l, 1) := by decide +kernel
theorem dX6_noNode_10 : decode cX6_noNode 10 = .ok (.invokestatic 76, 3) := by decide +kernel
theorem dX6_noNode_13 : decode cX6_noNode 13 = .ok (.ifCond .ne 7, 3) := by decide +kernel
theorem dX6_noNode_16 : decode cX6_noNode 16 = .ok (.iconst 1, 1) := by decide +kernel
theorem dX6_noNode_17 : decode cX6_noNode 17 = .ok (.goto 4, 3) := by decide +kernel
theorem dX6_noNode_20 : decode cX6_noNode 20 = .ok (.iconst 0, 1) := by decide +kernel
theorem dX6_noNode_21 : decode cX6_noNode 21 = .ok (.ireturn, 1) := by decide +kernel
theorem dX6_noHeight_0 : decode cX6_noHeight 0 = .ok (.iload_n 1, 1) := by decide +kernel
theorem dX6_noHeight_1 : decode cX6_noHeight 1 = .ok (.i2l, 1) := by decide +kernel
theorem dX6_noHeight_2 : decode cX6_noHeight 2 = .ok (.lconst 0, 1) := by decide +kernel
theorem dX6_noHeight_3 : decode cX6_noHeight 3 = .ok (.aload_n 0, 1) := by decide +kernel
theorem dX6_noHeight_4 : decode cX6_noHeight 4 = .ok (.getfield 83, 3) := by decide +kernel
theorem dX6_noHeight_7 : decode cX6_noHeight 7 = .ok (.i2l, 1) := by decide +kernel
theorem dX6_noHeight_8 : decode cX6_noHeight 8 = .ok (.invokestatic 76, 3) := by decide +kernel
theorem dX6_noHeight_11 : decode cX6_noHeight 11 = .ok (.ifCond .ne 7, 3) := by decide +kernel
theorem dX6_noHeight_14 : decode cX6_noHeight 14 = .ok (.iconst 1, 1) := by decide +kernel
theorem dX6_noHeight_15 : decode cX6_noHeight 15 = .ok (.goto 4, 3) := by decide +kernel
theorem dX6_noHeight_18 : decode cX6_noHeight 18 = .ok (.iconst 0, 1) := by decide +kernel
theorem dX6_noHeight_19 : decode cX6_noHeight 19 = .ok (.ireturn, 1) := by decide +kernel
theorem dX6_rule_0 : decode cX6_rule 0 = .ok (.aload_n 0, 1) := by decide +kernel
theorem dX6_rule_1 : decode cX6_rule 1 = .ok (.iconst 0, 1) := by decide +kernel
theorem dX6_rule_2 : decode cX6_rule 2 = .ok (.putfield 1, 3) := by decide +kernel
theorem dX6_rule_5 : decode cX6_rule 5 = .ok (.iload_n 1, 1) := by decide +kernel
theorem dX6_rule_6 : decode cX6_rule 6 = .ok (.ifCond .ne 15, 3) := by decide +kernel
theorem dX6_rule_9 : decode cX6_rule 9 = .ok (.iload_n 2, 1) := by decide +kernel
theorem dX6_rule_10 : decode cX6_rule 10 = .ok (.i2l, 1) := by decide +kernel
theorem dX6_rule_11 : decode cX6_rule 11 = .ok (.lconst 1, 1) := by decide +kernel
theorem dX6_rule_12 : decode cX6_rule 12 = .ok (.ldc2_w 74, 3) := by decide +kernel
theorem dX6_rule_15 : decode cX6_rule 15 = .ok (.invokestatic 76, 3) := by decide +kernel
theorem dX6_rule_18 : decode cX6_rule 18 = .ok (.goto 59, 3) := by decide +kernel
theorem dX6_rule_21 : decode cX6_rule 21 = .ok (.iload_n 1, 1) := by decide +kernel
theorem dX6_rule_22 : decode cX6_rule 22 = .ok (.iconst 1, 1) := by decide +kernel
theorem dX6_rule_23 : decode cX6_rule 23 = .ok (.if_icmp .ne 15, 3) := by decide +kernel
theorem dX6_rule_26 : decode cX6_rule 26 = .ok (.iload_n 2, 1) := by decide +kernel
theorem dX6_rule_27 : decode cX6_rule 27 = .ok (.i2l, 1) := by decide +kernel
theorem dX6_rule_28 : decode cX6_rule 28 = .ok (.lconst 0, 1) := by decide +kernel
theorem dX6_rule_29 : decode cX6_rule 29 = .ok (.ldc2_w 86, 3) := by decide +kernel
theorem dX6_rule_32 : decode cX6_rule 32 = .ok (.invokestatic 76, 3) := by decide +kernel
theorem dX6_rule_35 : decode cX6_rule 35 = .ok (.goto 42, 3) := by decide +kernel
theorem dX6_rule_38 : decode cX6_rule 38 = .ok (.iload_n 1, 1) := by decide +kernel
theorem dX6_rule_39 : decode cX6_rule 39 = .ok (.iconst 2, 1) := by decide +kernel
theorem dX6_rule_40 : decode cX6_rule 40 = .ok (.if_icmp .ne 15, 3) := by decide +kernel
theorem dX6_rule_43 : decode cX6_rule 43 = .ok (.iload_n 2, 1) := by decide +kernel
theorem dX6_rule_44 : decode cX6_rule 44 = .ok (.i2l, 1) := by decide +kernel
theorem dX6_rule_45 : decode cX6_rule 45 = .ok (.lconst 1, 1) := by decide +kernel
theorem dX6_rule_46 : decode cX6_rule 46 = .ok (.ldc2_w 88, 3) := by decide +kernel
theorem dX6_rule_49 : decode cX6_rule 49 = .ok (.invokestatic 76, 3) := by decide +kernel
theorem dX6_rule_52 : decode cX6_rule 52 = .ok (.goto 25, 3) := by decide +kernel
theorem dX6_rule_55 : decode cX6_rule 55 = .ok (.iload_n 1, 1) := by decide +kernel
theorem dX6_rule_56 : decode cX6_rule 56 = .ok (.iconst 3, 1) := by decide +kernel
theorem dX6_rule_57 : decode cX6_rule 57 = .ok (.if_icmp .ne 19, 3) := by decide +kernel
theorem dX6_rule_60 : decode cX6_rule 60 = .ok (.iload_n 2, 1) := by decide +kernel
theorem dX6_rule_61 : decode cX6_rule 61 = .ok (.i2l, 1) := by decide +kernel
theorem dX6_rule_62 : decode cX6_rule 62 = .ok (.lconst 1, 1) := by decide +kernel
theorem dX6_rule_63 : decode cX6_rule 63 = .ok (.ldc2_w 90, 3) := by decide +kernel
theorem dX6_rule_66 : decode cX6_rule 66 = .ok (.invokestatic 76, 3) := by decide +kernel
theorem dX6_rule_69 : decode cX6_rule 69 = .ok (.ifCond .eq 7, 3) := by decide +kernel
theorem dX6_rule_72 : decode cX6_rule 72 = .ok (.iconst 1, 1) := by decide +kernel
theorem dX6_rule_73 : decode cX6_rule 73 = .ok (.goto 4, 3) := by decide +kernel
theorem dX6_rule_76 : decode cX6_rule 76 = .ok (.iconst 0, 1) := by decide +kernel
theorem dX6_rule_77 : decode cX6_rule 77 = .ok (.istore_n 3, 1) := by decide +kernel
theorem dX6_rule_78 : decode cX6_rule 78 = .ok (.iload_n 3, 1) := by decide +kernel
theorem dX6_rule_79 : decode cX6_rule 79 = .ok (.ifCond .ne 5, 3) := by decide +kernel
theorem dX6_rule_82 : decode cX6_rule 82 = .ok (.iconst (-1), 1) := by decide +kernel
theorem dX6_rule_83 : decode cX6_rule 83 = .ok (.ireturn, 1) := by decide +kernel
theorem dX6_rule_84 : decode cX6_rule 84 = .ok (.aload_n 0, 1) := by decide +kernel
theorem dX6_rule_85 : decode cX6_rule 85 = .ok (.getfield 83, 3) := by decide +kernel
theorem dX6_rule_88 : decode cX6_rule 88 = .ok (.ifCond .le 6, 3) := by decide +kernel
theorem dX6_rule_91 : decode cX6_rule 91 = .ok (.bipush (-4), 2) := by decide +kernel
theorem dX6_rule_93 : decode cX6_rule 93 = .ok (.ireturn, 1) := by decide +kernel
theorem dX6_rule_94 : decode cX6_rule 94 = .ok (.iload_n 1, 1) := by decide +kernel
theorem dX6_rule_95 : decode cX6_rule 95 = .ok (.ifCond .ne 10, 3) := by decide +kernel
theorem dX6_rule_98 : decode cX6_rule 98 = .ok (.aload_n 0, 1) := by decide +kernel
theorem dX6_rule_99 : decode cX6_rule 99 = .ok (.getfield 13, 3) := by decide +kernel
theorem dX6_rule_102 : decode cX6_rule 102 = .ok (.goto 31, 3) := by decide +kernel
theorem dX6_rule_105 : decode cX6_rule 105 = .ok (.iload_n 1, 1) := by decide +kernel
theorem dX6_rule_106 : decode cX6_rule 106 = .ok (.iconst 1, 1) := by decide +kernel
theorem dX6_rule_107 : decode cX6_rule 107 = .ok (.if_icmp .ne 10, 3) := by decide +kernel
theorem dX6_rule_110 : decode cX6_rule 110 = .ok (.aload_n 0, 1) := by decide +kernel
theorem dX6_rule_111 : decode cX6_rule 111 = .ok (.getfield 16, 3) := by decide +kernel
theorem dX6_rule_114 : decode cX6_rule 114 = .ok (.goto 19, 3) := by decide +kernel
theorem dX6_rule_117 : decode cX6_rule 117 = .ok (.iload_n 1, 1) := by decide +kernel
theorem dX6_rule_118 : decode cX6_rule 118 = .ok (.iconst 2, 1) := by decide +kernel
theorem dX6_rule_119 : decode cX6_rule 119 = .ok (.if_icmp .ne 10, 3) := by decide +kernel
theorem dX6_rule_122 : decode cX6_rule 122 = .ok (.aload_n 0, 1) := by decide +kernel
theorem dX6_rule_123 : decode cX6_rule 123 = .ok (.getfield 19, 3) := by decide +kernel
theorem dX6_rule_126 : decode cX6_rule 126 = .ok (.goto 7, 3) := by decide +kernel
theorem dX6_rule_129 : decode cX6_rule 129 = .ok (.aload_n 0, 1) := by decide +kernel
theorem dX6_rule_130 : decode cX6_rule 130 = .ok (.getfield 23, 3) := by decide +kernel
theorem dX6_rule_133 : decode cX6_rule 133 = .ok (.istore 4, 2) := by decide +kernel
theorem dX6_rule_135 : decode cX6_rule 135 = .ok (.aload_n 0, 1) := by decide +kernel
theorem dX6_rule_136 : decode cX6_rule 136 = .ok (.iload_n 1, 1) := by decide +kernel
theorem dX6_rule_137 : decode cX6_rule 137 = .ok (.ifCond .ne 7, 3) := by decide +kernel
theorem dX6_rule_140 : decode cX6_rule 140 = .ok (.iload_n 2, 1) := by decide +kernel
theorem dX6_rule_141 : decode cX6_rule 141 = .ok (.goto 7, 3) := by decide +kernel
theorem dX6_rule_144 : decode cX6_rule 144 = .ok (.aload_n 0, 1) := by decide +kernel
theorem dX6_rule_145 : decode cX6_rule 145 = .ok (.getfield 13, 3) := by decide +kernel
theorem dX6_rule_148 : decode cX6_rule 148 = .ok (.putfield 13, 3) := by decide +kernel
theorem dX6_rule_151 : decode cX6_rule 151 = .ok (.aload_n 0, 1) := by decide +kernel
theorem dX6_rule_152 : decode cX6_rule 152 = .ok (.iload_n 1, 1) := by decide +kernel
theorem dX6_rule_153 : decode cX6_rule 153 = .ok (.iconst 1, 1) := by decide +kernel
theorem dX6_rule_154 : decode cX6_rule 154 = .ok (.if_icmp .ne 7, 3) := by decide +kernel
theorem dX6_rule_157 : decode cX6_rule 157 = .ok (.iload_n 2, 1) := by decide +kernel
theorem dX6_rule_158 : decode cX6_rule 158 = .ok (.goto 7, 3) := by decide +kernel
theorem dX6_rule_161 : decode cX6_rule 161 = .ok (.aload_n 0, 1) := by decide +kernel
theorem dX6_rule_162 : decode cX6_rule 162 = .ok (.getfield 16, 3) := by decide +kernel
theorem dX6_rule_165 : decode cX6_rule 165 = .ok (.putfield 16, 3) := by decide +kernel
theorem dX6_rule_168 : decode cX6_rule 168 = .ok (.aload_n 0, 1) := by decide +kernel
theorem dX6_rule_169 : decode cX6_rule 169 = .ok (.iload_n 1, 1) := by decide +kernel
theorem dX6_rule_170 : decode cX6_rule 170 = .ok (.iconst 2, 1) := by decide +kernel
theorem dX6_rule_171 : decode cX6_rule 171 = .ok (.if_icmp .ne 7, 3) := by decide +kernel
theorem dX6_rule_174 : decode cX6_rule 174 = .ok (.iload_n 2, 1) := by decide +kernel
theorem dX6_rule_175 : decode cX6_rule 175 = .ok (.goto 7, 3) := by decide +kernel
theorem dX6_rule_178 : decode cX6_rule 178 = .ok (.aload_n 0, 1) := by decide +kernel
theorem dX6_rule_179 : decode cX6_rule 179 = .ok (.getfield 19, 3) := by decide +kernel
theorem dX6_rule_182 : decode cX6_rule 182 = .ok (.putfield 19, 3) := by decide +kernel
theorem dX6_rule_185 : decode cX6_rule 185 = .ok (.aload_n 0, 1) := by decide +kernel
theorem dX6_rule_186 : decode cX6_rule 186 = .ok (.iload_n 1, 1) := by decide +kernel
theorem dX6_rule_187 : decode cX6_rule 187 = .ok (.iconst 3, 1) := by decide +kernel
theorem dX6_rule_188 : decode cX6_rule 188 = .ok (.if_icmp .ne 7, 3) := by decide +kernel
theorem dX6_rule_191 : decode cX6_rule 191 = .ok (.iload_n 2, 1) := by decide +kernel
theorem dX6_rule_192 : decode cX6_rule 192 = .ok (.goto 7, 3) := by decide +kernel
theorem dX6_rule_195 : decode cX6_rule 195 = .ok (.aload_n 0, 1) := by decide +kernel
theorem dX6_rule_196 : decode cX6_rule 196 = .ok (.getfield 23, 3) := by decide +kernel
theorem dX6_rule_199 : decode cX6_rule 199 = .ok (.putfield 23, 3) := by decide +kernel
theorem dX6_rule_202 : decode cX6_rule 202 = .ok (.iload 4, 2) := by decide +kernel
theorem dX6_rule_204 : decode cX6_rule 204 = .ok (.ireturn, 1) := by decide +kernel
theorem dX6_fund_0 : decode cX6_fund 0 = .ok (.aload_n 0, 1) := by decide +kernel
theorem dX6_fund_1 : decode cX6_fund 1 = .ok (.iconst 0, 1) := by decide +kernel
theorem dX6_fund_2 : decode cX6_fund 2 = .ok (.putfield 1, 3) := by decide +kernel
theorem dX6_fund_5 : decode cX6_fund 5 = .ok (.iload_n 1, 1) := by decide +kernel
theorem dX6_fund_6 : decode cX6_fund 6 = .ok (.invokestatic 92, 3) := by decide +kernel
theorem dX6_fund_9 : decode cX6_fund 9 = .ok (.ifCond .ne 15, 3) := by decide +kernel
theorem dX6_fund_12 : decode cX6_fund 12 = .ok (.iload_n 2, 1) := by decide +kernel
theorem dX6_fund_13 : decode cX6_fund 13 = .ok (.i2l, 1) := by decide +kernel
theorem dX6_fund_14 : decode cX6_fund 14 = .ok (.lconst 1, 1) := by decide +kernel
theorem dX6_fund_15 : decode cX6_fund 15 = .ok (.ldc2_w 96, 3) := by decide +kernel
theorem dX6_fund_18 : decode cX6_fund 18 = .ok (.invokestatic 76, 3) := by decide +kernel
theorem dX6_fund_21 : decode cX6_fund 21 = .ok (.ifCond .ne 5, 3) := by decide +kernel
theorem dX6_fund_24 : decode cX6_fund 24 = .ok (.iconst (-1), 1) := by decide +kernel
theorem dX6_fund_25 : decode cX6_fund 25 = .ok (.ireturn, 1) := by decide +kernel
theorem dX6_fund_26 : decode cX6_fund 26 = .ok (.aload_n 0, 1) := by decide +kernel
theorem dX6_fund_27 : decode cX6_fund 27 = .ok (.getfield 98, 3) := by decide +kernel
theorem dX6_fund_30 : decode cX6_fund 30 = .ok (.iload_n 2, 1) := by decide +kernel
theorem dX6_fund_31 : decode cX6_fund 31 = .ok (.iadd, 1) := by decide +kernel
theorem dX6_fund_32 : decode cX6_fund 32 = .ok (.ldc 22, 2) := by decide +kernel
theorem dX6_fund_34 : decode cX6_fund 34 = .ok (.if_icmp .le 6, 3) := by decide +kernel
theorem dX6_fund_37 : decode cX6_fund 37 = .ok (.bipush (-3), 2) := by decide +kernel
theorem dX6_fund_39 : decode cX6_fund 39 = .ok (.ireturn, 1) := by decide +kernel
theorem dX6_fund_40 : decode cX6_fund 40 = .ok (.aload_n 0, 1) := by decide +kernel
theorem dX6_fund_41 : decode cX6_fund 41 = .ok (.aload_n 0, 1) := by decide +kernel
theorem dX6_fund_42 : decode cX6_fund 42 = .ok (.getfield 98, 3) := by decide +kernel
theorem dX6_fund_45 : decode cX6_fund 45 = .ok (.iload_n 2, 1) := by decide +kernel
theorem dX6_fund_46 : decode cX6_fund 46 = .ok (.iadd, 1) := by decide +kernel
theorem dX6_fund_47 : decode cX6_fund 47 = .ok (.putfield 98, 3) := by decide +kernel
theorem dX6_fund_50 : decode cX6_fund 50 = .ok (.aload_n 0, 1) := by decide +kernel
theorem dX6_fund_51 : decode cX6_fund 51 = .ok (.getfield 26, 3) := by decide +kernel
theorem dX6_fund_54 : decode cX6_fund 54 = .ok (.iload_n 1, 1) := by decide +kernel
theorem dX6_fund_55 : decode cX6_fund 55 = .ok (.aload_n 0, 1) := by decide +kernel
theorem dX6_fund_56 : decode cX6_fund 56 = .ok (.getfield 26, 3) := by decide +kernel
theorem dX6_fund_59 : decode cX6_fund 59 = .ok (.iload_n 1, 1) := by decide +kernel
theorem dX6_fund_60 : decode cX6_fund 60 = .ok (.iaload, 1) := by decide +kernel
theorem dX6_fund_61 : decode cX6_fund 61 = .ok (.iload_n 2, 1) := by decide +kernel
theorem dX6_fund_62 : decode cX6_fund 62 = .ok (.iadd, 1) := by decide +kernel
theorem dX6_fund_63 : decode cX6_fund 63 = .ok (.iastore, 1) := by decide +kernel
theorem dX6_fund_64 : decode cX6_fund 64 = .ok (.aload_n 0, 1) := by decide +kernel
theorem dX6_fund_65 : decode cX6_fund 65 = .ok (.getfield 26, 3) := by decide +kernel
theorem dX6_fund_68 : decode cX6_fund 68 = .ok (.iload_n 1, 1) := by decide +kernel
theorem dX6_fund_69 : decode cX6_fund 69 = .ok (.iaload, 1) := by decide +kernel
theorem dX6_fund_70 : decode cX6_fund 70 = .ok (.ireturn, 1) := by decide +kernel
theorem dX6_node_0 : decode cX6_node 0 = .ok (.aload_n 0, 1) := by decide +kernel
theorem dX6_node_1 : decode cX6_node 1 = .ok (.iconst 0, 1) := by decide +kernel
theorem dX6_node_2 : decode cX6_node 2 = .ok (.putfield 1, 3) := by decide +kernel
theorem dX6_node_5 : decode cX6_node 5 = .ok (.iload_n 1, 1) := by decide +kernel
theorem dX6_node_6 : decode cX6_node 6 = .ok (.invokestatic 92, 3) := by decide +kernel
theorem dX6_node_9 : decode cX6_node 9 = .ok (.ifCond .ne 15, 3) := by decide +kernel
theorem dX6_node_12 : decode cX6_node 12 = .ok (.iload_n 2, 1) := by decide +kernel
theorem dX6_node_13 : decode cX6_node 13 = .ok (.i2l, 1) := by decide +kernel
theorem dX6_node_14 : decode cX6_node 14 = .ok (.lconst 0, 1) := by decide +kernel
theorem dX6_node_15 : decode cX6_node 15 = .ok (.ldc2_w 101, 3) := by decide +kernel
theorem dX6_node_18 : decode cX6_node 18 = .ok (.invokestatic 76, 3) := by decide +kernel
theorem dX6_node_21 : decode cX6_node 21 = .ok (.ifCond .ne 5, 3) := by decide +kernel
theorem dX6_node_24 : decode cX6_node 24 = .ok (.iconst (-1), 1) := by decide +kernel
theorem dX6_node_25 : decode cX6_node 25 = .ok (.ireturn, 1) := by decide +kernel
theorem dX6_node_26 : decode cX6_node 26 = .ok (.aload_n 0, 1) := by decide +kernel
theorem dX6_node_27 : decode cX6_node 27 = .ok (.getfield 80, 3) := by decide +kernel
theorem dX6_node_30 : decode cX6_node 30 = .ok (.bipush 8, 2) := by decide +kernel
theorem dX6_node_32 : decode cX6_node 32 = .ok (.if_icmp .ne 6, 3) := by decide +kernel
theorem dX6_node_35 : decode cX6_node 35 = .ok (.bipush (-3), 2) := by decide +kernel
theorem dX6_node_37 : decode cX6_node 37 = .ok (.ireturn, 1) := by decide +kernel
theorem dX6_node_38 : decode cX6_node 38 = .ok (.aload_n 0, 1) := by decide +kernel
theorem dX6_node_39 : decode cX6_node 39 = .ok (.getfield 30, 3) := by decide +kernel
theorem dX6_node_42 : decode cX6_node 42 = .ok (.aload_n 0, 1) := by decide +kernel
theorem dX6_node_43 : decode cX6_node 43 = .ok (.getfield 80, 3) := by decide +kernel
theorem dX6_node_46 : decode cX6_node 46 = .ok (.iload_n 1, 1) := by decide +kernel
theorem dX6_node_47 : decode cX6_node 47 = .ok (.iastore, 1) := by decide +kernel
theorem dX6_node_48 : decode cX6_node 48 = .ok (.aload_n 0, 1) := by decide +kernel
theorem dX6_node_49 : decode cX6_node 49 = .ok (.getfield 33, 3) := by decide +kernel
theorem dX6_node_52 : decode cX6_node 52 = .ok (.aload_n 0, 1) := by decide +kernel
theorem dX6_node_53 : decode cX6_node 53 = .ok (.getfield 80, 3) := by decide +kernel
theorem dX6_node_56 : decode cX6_node 56 = .ok (.iload_n 2, 1) := by decide +kernel
theorem dX6_node_57 : decode cX6_node 57 = .ok (.iastore, 1) := by decide +kernel
theorem dX6_node_58 : decode cX6_node 58 = .ok (.aload_n 0, 1) := by decide +kernel
theorem dX6_node_59 : decode cX6_node 59 = .ok (.getfield 36, 3) := by decide +kernel
theorem dX6_node_62 : decode cX6_node 62 = .ok (.aload_n 0, 1) := by decide +kernel
theorem dX6_node_63 : decode cX6_node 63 = .ok (.getfield 80, 3) := by decide +kernel
theorem dX6_node_66 : decode cX6_node 66 = .ok (.iconst 0, 1) := by decide +kernel
theorem dX6_node_67 : decode cX6_node 67 = .ok (.iastore, 1) := by decide +kernel
theorem dX6_node_68 : decode cX6_node 68 = .ok (.aload_n 0, 1) := by decide +kernel
theorem dX6_node_69 : decode cX6_node 69 = .ok (.dup, 1) := by decide +kernel
theorem dX6_node_70 : decode cX6_node 70 = .ok (.getfield 80, 3) := by decide +kernel
theorem dX6_node_73 : decode cX6_node 73 = .ok (.iconst 1, 1) := by decide +kernel
theorem dX6_node_74 : decode cX6_node 74 = .ok (.iadd, 1) := by decide +kernel
theorem dX6_node_75 : decode cX6_node 75 = .ok (.putfield 80, 3) := by decide +kernel
theorem dX6_node_78 : decode cX6_node 78 = .ok (.aload_n 0, 1) := by decide +kernel
theorem dX6_node_79 : decode cX6_node 79 = .ok (.getfield 80, 3) := by decide +kernel
theorem dX6_node_82 : decode cX6_node 82 = .ok (.iconst 1, 1) := by decide +kernel
theorem dX6_node_83 : decode cX6_node 83 = .ok (.isub, 1) := by decide +kernel
theorem dX6_node_84 : decode cX6_node 84 = .ok (.ireturn, 1) := by decide +kernel
theorem dX6_stake_0 : decode cX6_stake 0 = .ok (.aload_n 0, 1) := by decide +kernel
theorem dX6_stake_1 : decode cX6_stake 1 = .ok (.iconst 0, 1) := by decide +kernel
theorem dX6_stake_2 : decode cX6_stake 2 = .ok (.putfield 1, 3) := by decide +kernel
theorem dX6_stake_5 : decode cX6_stake 5 = .ok (.iload_n 1, 1) := by decide +kernel
theorem dX6_stake_6 : decode cX6_stake 6 = .ok (.invokestatic 92, 3) := by decide +kernel
theorem dX6_stake_9 : decode cX6_stake 9 = .ok (.ifCond .ne 23, 3) := by decide +kernel
theorem dX6_stake_12 : decode cX6_stake 12 = .ok (.aload_n 0, 1) := by decide +kernel
theorem dX6_stake_13 : decode cX6_stake 13 = .ok (.iload_n 2, 1) := by decide +kernel
theorem dX6_stake_14 : decode cX6_stake 14 = .ok (.invokevirtual 103, 3) := by decide +kernel
theorem dX6_stake_17 : decode cX6_stake 17 = .ok (.ifCond .ne 15, 3) := by decide +kernel
theorem dX6_stake_20 : decode cX6_stake 20 = .ok (.iload_n 3, 1) := by decide +kernel
theorem dX6_stake_21 : decode cX6_stake 21 = .ok (.i2l, 1) := by decide +kernel
theorem dX6_stake_22 : decode cX6_stake 22 = .ok (.lconst 1, 1) := by decide +kernel
theorem dX6_stake_23 : decode cX6_stake 23 = .ok (.ldc2_w 90, 3) := by decide +kernel
theorem dX6_stake_26 : decode cX6_stake 26 = .ok (.invokestatic 76, 3) := by decide +kernel
theorem dX6_stake_29 : decode cX6_stake 29 = .ok (.ifCond .ne 5, 3) := by decide +kernel
theorem dX6_stake_32 : decode cX6_stake 32 = .ok (.iconst (-1), 1) := by decide +kernel
theorem dX6_stake_33 : decode cX6_stake 33 = .ok (.ireturn, 1) := by decide +kernel
theorem dX6_stake_34 : decode cX6_stake 34 = .ok (.aload_n 0, 1) := by decide +kernel
theorem dX6_stake_35 : decode cX6_stake 35 = .ok (.getfield 26, 3) := by decide +kernel
theorem dX6_stake_38 : decode cX6_stake 38 = .ok (.iload_n 1, 1) := by decide +kernel
theorem dX6_stake_39 : decode cX6_stake 39 = .ok (.iaload, 1) := by decide +kernel
theorem dX6_stake_40 : decode cX6_stake 40 = .ok (.iload_n 3, 1) := by decide +kernel
theorem dX6_stake_41 : decode cX6_stake 41 = .ok (.if_icmp .ge 6, 3) := by decide +kernel
theorem dX6_stake_44 : decode cX6_stake 44 = .ok (.bipush (-3), 2) := by decide +kernel
theorem dX6_stake_46 : decode cX6_stake 46 = .ok (.ireturn, 1) := by decide +kernel
theorem dX6_stake_47 : decode cX6_stake 47 = .ok (.aload_n 0, 1) := by decide +kernel
theorem dX6_stake_48 : decode cX6_stake 48 = .ok (.getfield 26, 3) := by decide +kernel
theorem dX6_stake_51 : decode cX6_stake 51 = .ok (.iload_n 1, 1) := by decide +kernel
theorem dX6_stake_52 : decode cX6_stake 52 = .ok (.aload_n 0, 1) := by decide +kernel
theorem dX6_stake_53 : decode cX6_stake 53 = .ok (.getfield 26, 3) := by decide +kernel
theorem dX6_stake_56 : decode cX6_stake 56 = .ok (.iload_n 1, 1) := by decide +kernel
theorem dX6_stake_57 : decode cX6_stake 57 = .ok (.iaload, 1) := by decide +kernel
theorem dX6_stake_58 : decode cX6_stake 58 = .ok (.iload_n 3, 1) := by decide +kernel
theorem dX6_stake_59 : decode cX6_stake 59 = .ok (.isub, 1) := by decide +kernel
theorem dX6_stake_60 : decode cX6_stake 60 = .ok (.iastore, 1) := by decide +kernel
theorem dX6_stake_61 : decode cX6_stake 61 = .ok (.aload_n 0, 1) := by decide +kernel
theorem dX6_stake_62 : decode cX6_stake 62 = .ok (.getfield 46, 3) := by decide +kernel
theorem dX6_stake_65 : decode cX6_stake 65 = .ok (.bipush 10, 2) := by decide +kernel
theorem dX6_stake_67 : decode cX6_stake 67 = .ok (.iload_n 2, 1) := by decide +kernel
theorem dX6_stake_68 : decode cX6_stake 68 = .ok (.imul, 1) := by decide +kernel
theorem dX6_stake_69 : decode cX6_stake 69 = .ok (.iload_n 1, 1) := by decide +kernel
theorem dX6_stake_70 : decode cX6_stake 70 = .ok (.iadd, 1) := by decide +kernel
theorem dX6_stake_71 : decode cX6_stake 71 = .ok (.aload_n 0, 1) := by decide +kernel
theorem dX6_stake_72 : decode cX6_stake 72 = .ok (.getfield 46, 3) := by decide +kernel
theorem dX6_stake_75 : decode cX6_stake 75 = .ok (.bipush 10, 2) := by decide +kernel
theorem dX6_stake_77 : decode cX6_stake 77 = .ok (.iload_n 2, 1) := by decide +kernel
theorem dX6_stake_78 : decode cX6_stake 78 = .ok (.imul, 1) := by decide +kernel
theorem dX6_stake_79 : decode cX6_stake 79 = .ok (.iload_n 1, 1) := by decide +kernel
theorem dX6_stake_80 : decode cX6_stake 80 = .ok (.iadd, 1) := by decide +kernel
theorem dX6_stake_81 : decode cX6_stake 81 = .ok (.iaload, 1) := by decide +kernel
theorem dX6_stake_82 : decode cX6_stake 82 = .ok (.iload_n 3, 1) := by decide +kernel
theorem dX6_stake_83 : decode cX6_stake 83 = .ok (.iadd, 1) := by decide +kernel
theorem dX6_stake_84 : decode cX6_stake 84 = .ok (.iastore, 1) := by decide +kernel
theorem dX6_stake_85 : decode cX6_stake 85 = .ok (.aload_n 0, 1) := by decide +kernel
theorem dX6_stake_86 : decode cX6_stake 86 = .ok (.getfield 46, 3) := by decide +kernel
theorem dX6_stake_89 : decode cX6_stake 89 = .ok (.bipush 10, 2) := by decide +kernel
theorem dX6_stake_91 : decode cX6_stake 91 = .ok (.iload_n 2, 1) := by decide +kernel
theorem dX6_stake_92 : decode cX6_stake 92 = .ok (.imul, 1) := by decide +kernel
theorem dX6_stake_93 : decode cX6_stake 93 = .ok (.iload_n 1, 1) := by decide +kernel
theorem dX6_stake_94 : decode cX6_stake 94 = .ok (.iadd, 1) := by decide +kernel
theorem dX6_stake_95 : decode cX6_stake 95 = .ok (.iaload, 1) := by decide +kernel
theorem dX6_stake_96 : decode cX6_stake 96 = .ok (.ireturn, 1) := by decide +kernel
theorem dX6_draw_0 : decode cX6_draw 0 = .ok (.aload_n 0, 1) := by decide +kernel
theorem dX6_draw_1 : decode cX6_draw 1 = .ok (.iconst 0, 1) := by decide +kernel
theorem dX6_draw_2 : decode cX6_draw 2 = .ok (.putfield 1, 3) := by decide +kernel
theorem dX6_draw_5 : decode cX6_draw 5 = .ok (.iload_n 1, 1) := by decide +kernel
theorem dX6_draw_6 : decode cX6_draw 6 = .ok (.invokestatic 92, 3) := by decide +kernel
theorem dX6_draw_9 : decode cX6_draw 9 = .ok (.ifCond .ne 23, 3) := by decide +kernel
theorem dX6_draw_12 : decode cX6_draw 12 = .ok (.aload_n 0, 1) := by decide +kernel
theorem dX6_draw_13 : decode cX6_draw 13 = .ok (.iload_n 2, 1) := by decide +kernel
theorem dX6_draw_14 : decode cX6_draw 14 = .ok (.invokevirtual 103, 3) := by decide +kernel
theorem dX6_draw_17 : decode cX6_draw 17 = .ok (.ifCond .ne 15, 3) := by decide +kernel
theorem dX6_draw_20 : decode cX6_draw 20 = .ok (.iload_n 3, 1) := by decide +kernel
theorem dX6_draw_21 : decode cX6_draw 21 = .ok (.i2l, 1) := by decide +kernel
theorem dX6_draw_22 : decode cX6_draw 22 = .ok (.lconst 1, 1) := by decide +kernel
theorem dX6_draw_23 : decode cX6_draw 23 = .ok (.ldc2_w 90, 3) := by decide +kernel
theorem dX6_draw_26 : decode cX6_draw 26 = .ok (.invokestatic 76, 3) := by decide +kernel
theorem dX6_draw_29 : decode cX6_draw 29 = .ok (.ifCond .ne 5, 3) := by decide +kernel
theorem dX6_draw_32 : decode cX6_draw 32 = .ok (.iconst (-1), 1) := by decide +kernel
theorem dX6_draw_33 : decode cX6_draw 33 = .ok (.ireturn, 1) := by decide +kernel
theorem dX6_draw_34 : decode cX6_draw 34 = .ok (.aload_n 0, 1) := by decide +kernel
theorem dX6_draw_35 : decode cX6_draw 35 = .ok (.getfield 46, 3) := by decide +kernel
theorem dX6_draw_38 : decode cX6_draw 38 = .ok (.bipush 10, 2) := by decide +kernel
theorem dX6_draw_40 : decode cX6_draw 40 = .ok (.iload_n 2, 1) := by decide +kernel
theorem dX6_draw_41 : decode cX6_draw 41 = .ok (.imul, 1) := by decide +kernel
theorem dX6_draw_42 : decode cX6_draw 42 = .ok (.iload_n 1, 1) := by decide +kernel
theorem dX6_draw_43 : decode cX6_draw 43 = .ok (.iadd, 1) := by decide +kernel
theorem dX6_draw_44 : decode cX6_draw 44 = .ok (.iaload, 1) := by decide +kernel
theorem dX6_draw_45 : decode cX6_draw 45 = .ok (.iload_n 3, 1) := by decide +kernel
theorem dX6_draw_46 : decode cX6_draw 46 = .ok (.if_icmp .ge 6, 3) := by decide +kernel
theorem dX6_draw_49 : decode cX6_draw 49 = .ok (.bipush (-3), 2) := by decide +kernel
theorem dX6_draw_51 : decode cX6_draw 51 = .ok (.ireturn, 1) := by decide +kernel
theorem dX6_draw_52 : decode cX6_draw 52 = .ok (.aload_n 0, 1) := by decide +kernel
theorem dX6_draw_53 : decode cX6_draw 53 = .ok (.getfield 42, 3) := by decide +kernel
theorem dX6_draw_56 : decode cX6_draw 56 = .ok (.iload_n 2, 1) := by decide +kernel
theorem dX6_draw_57 : decode cX6_draw 57 = .ok (.baload, 1) := by decide +kernel
theorem dX6_draw_58 : decode cX6_draw 58 = .ok (.ifCond .eq 6, 3) := by decide +kernel
theorem dX6_draw_61 : decode cX6_draw 61 = .ok (.bipush (-4), 2) := by decide +kernel
theorem dX6_draw_63 : decode cX6_draw 63 = .ok (.ireturn, 1) := by decide +kernel
theorem dX6_draw_64 : decode cX6_draw 64 = .ok (.aload_n 0, 1) := by decide +kernel
theorem dX6_draw_65 : decode cX6_draw 65 = .ok (.getfield 46, 3) := by decide +kernel
theorem dX6_draw_68 : decode cX6_draw 68 = .ok (.bipush 10, 2) := by decide +kernel
theorem dX6_draw_70 : decode cX6_draw 70 = .ok (.iload_n 2, 1) := by decide +kernel
theorem dX6_draw_71 : decode cX6_draw 71 = .ok (.imul, 1) := by decide +kernel
theorem dX6_draw_72 : decode cX6_draw 72 = .ok (.iload_n 1, 1) := by decide +kernel
theorem dX6_draw_73 : decode cX6_draw 73 = .ok (.iadd, 1) := by decide +kernel
theorem dX6_draw_74 : decode cX6_draw 74 = .ok (.aload_n 0, 1) := by decide +kernel
theorem dX6_draw_75 : decode cX6_draw 75 = .ok (.getfield 46, 3) := by decide +kernel
theorem dX6_draw_78 : decode cX6_draw 78 = .ok (.bipush 10, 2) := by decide +kernel
theorem dX6_draw_80 : decode cX6_draw 80 = .ok (.iload_n 2, 1) := by decide +kernel
theorem dX6_draw_81 : decode cX6_draw 81 = .ok (.imul, 1) := by decide +kernel
theorem dX6_draw_82 : decode cX6_draw 82 = .ok (.iload_n 1, 1) := by decide +kernel
theorem dX6_draw_83 : decode cX6_draw 83 = .ok (.iadd, 1) := by decide +kernel
theorem dX6_draw_84 : decode cX6_draw 84 = .ok (.iaload, 1) := by decide +kernel
theorem dX6_draw_85 : decode cX6_draw 85 = .ok (.iload_n 3, 1) := by decide +kernel
theorem dX6_draw_86 : decode cX6_draw 86 = .ok (.isub, 1) := by decide +kernel
theorem dX6_draw_87 : decode cX6_draw 87 = .ok (.iastore, 1) := by decide +kernel
theorem dX6_draw_88 : decode cX6_draw 88 = .ok (.aload_n 0, 1) := by decide +kernel
theorem dX6_draw_89 : decode cX6_draw 89 = .ok (.getfield 52, 3) := by decide +kernel
theorem dX6_draw_92 : decode cX6_draw 92 = .ok (.bipush 110, 2) := by decide +kernel
theorem dX6_draw_94 : decode cX6_draw 94 = .ok (.iload_n 1, 1) := by decide +kernel
theorem dX6_draw_95 : decode cX6_draw 95 = .ok (.imul, 1) := by decide +kernel
theorem dX6_draw_96 : decode cX6_draw 96 = .ok (.aload_n 0, 1) := by decide +kernel
theorem dX6_draw_97 : decode cX6_draw 97 = .ok (.getfield 83, 3) := by decide +kernel
theorem dX6_draw_100 : decode cX6_draw 100 = .ok (.iadd, 1) := by decide +kernel
theorem dX6_draw_101 : decode cX6_draw 101 = .ok (.aload_n 0, 1) := by decide +kernel
theorem dX6_draw_102 : decode cX6_draw 102 = .ok (.getfield 13, 3) := by decide +kernel
theorem dX6_draw_105 : decode cX6_draw 105 = .ok (.iadd, 1) := by decide +kernel
theorem dX6_draw_106 : decode cX6_draw 106 = .ok (.aload_n 0, 1) := by decide +kernel
theorem dX6_draw_107 : decode cX6_draw 107 = .ok (.getfield 52, 3) := by decide +kernel
theorem dX6_draw_110 : decode cX6_draw 110 = .ok (.bipush 110, 2) := by decide +kernel
theorem dX6_draw_112 : decode cX6_draw 112 = .ok (.iload_n 1, 1) := by decide +kernel
theorem dX6_draw_113 : decode cX6_draw 113 = .ok (.imul, 1) := by decide +kernel
theorem dX6_draw_114 : decode cX6_draw 114 = .ok (.aload_n 0, 1) := by decide +kernel
theorem dX6_draw_115 : decode cX6_draw 115 = .ok (.getfield 83, 3) := by decide +kernel
theorem dX6_draw_118 : decode cX6_draw 118 = .ok (.iadd, 1) := by decide +kernel
theorem dX6_draw_119 : decode cX6_draw 119 = .ok (.aload_n 0, 1) := by decide +kernel
theorem dX6_draw_120 : decode cX6_draw 120 = .ok (.getfield 13, 3) := by decide +kernel
theorem dX6_draw_123 : decode cX6_draw 123 = .ok (.iadd, 1) := by decide +kernel
theorem dX6_draw_124 : decode cX6_draw 124 = .ok (.iaload, 1) := by decide +kernel
theorem dX6_draw_125 : decode cX6_draw 125 = .ok (.iload_n 3, 1) := by decide +kernel
theorem dX6_draw_126 : decode cX6_draw 126 = .ok (.iadd, 1) := by decide +kernel
theorem dX6_draw_127 : decode cX6_draw 127 = .ok (.iastore, 1) := by decide +kernel
theorem dX6_draw_128 : decode cX6_draw 128 = .ok (.aload_n 0, 1) := by decide +kernel
theorem dX6_draw_129 : decode cX6_draw 129 = .ok (.getfield 46, 3) := by decide +kernel
theorem dX6_draw_132 : decode cX6_draw 132 = .ok (.bipush 10, 2) := by decide +kernel
theorem dX6_draw_134 : decode cX6_draw 134 = .ok (.iload_n 2, 1) := by decide +kernel
theorem dX6_draw_135 : decode cX6_draw 135 = .ok (.imul, 1) := by decide +kernel
theorem dX6_draw_136 : decode cX6_draw 136 = .ok (.iload_n 1, 1) := by decide +kernel
theorem dX6_draw_137 : decode cX6_draw 137 = .ok (.iadd, 1) := by decide +kernel
theorem dX6_draw_138 : decode cX6_draw 138 = .ok (.iaload, 1) := by decide +kernel
theorem dX6_draw_139 : decode cX6_draw 139 = .ok (.ireturn, 1) := by decide +kernel
theorem dX6_join_0 : decode cX6_join 0 = .ok (.aload_n 0, 1) := by decide +kernel
theorem dX6_join_1 : decode cX6_join 1 = .ok (.iconst 0, 1) := by decide +kernel
theorem dX6_join_2 : decode cX6_join 2 = .ok (.putfield 1, 3) := by decide +kernel
theorem dX6_join_5 : decode cX6_join 5 = .ok (.aload_n 0, 1) := by decide +kernel
theorem dX6_join_6 : decode cX6_join 6 = .ok (.iload_n 1, 1) := by decide +kernel
theorem dX6_join_7 : decode cX6_join 7 = .ok (.invokevirtual 103, 3) := by decide +kernel
theorem dX6_join_10 : decode cX6_join 10 = .ok (.ifCond .eq 5, 3) := by decide +kernel
theorem dX6_join_13 : decode cX6_join 13 = .ok (.iconst (-1), 1) := by decide +kernel
theorem dX6_join_14 : decode cX6_join 14 = .ok (.ireturn, 1) := by decide +kernel
theorem dX6_join_15 : decode cX6_join 15 = .ok (.aload_n 0, 1) := by decide +kernel
theorem dX6_join_16 : decode cX6_join 16 = .ok (.getfield 36, 3) := by decide +kernel
theorem dX6_join_19 : decode cX6_join 19 = .ok (.iload_n 1, 1) := by decide +kernel
theorem dX6_join_20 : decode cX6_join 20 = .ok (.iaload, 1) := by decide +kernel
theorem dX6_join_21 : decode cX6_join 21 = .ok (.ifCond .eq 6, 3) := by decide +kernel
theorem dX6_join_24 : decode cX6_join 24 = .ok (.bipush (-4), 2) := by decide +kernel
theorem dX6_join_26 : decode cX6_join 26 = .ok (.ireturn, 1) := by decide +kernel
theorem dX6_join_27 : decode cX6_join 27 = .ok (.aload_n 0, 1) := by decide +kernel
theorem dX6_join_28 : decode cX6_join 28 = .ok (.getfield 36, 3) := by decide +kernel
theorem dX6_join_31 : decode cX6_join 31 = .ok (.iload_n 1, 1) := by decide +kernel
theorem dX6_join_32 : decode cX6_join 32 = .ok (.iconst 1, 1) := by decide +kernel
theorem dX6_join_33 : decode cX6_join 33 = .ok (.iastore, 1) := by decide +kernel
theorem dX6_join_34 : decode cX6_join 34 = .ok (.aload_n 0, 1) := by decide +kernel
theorem dX6_join_35 : decode cX6_join 35 = .ok (.getfield 83, 3) := by decide +kernel
theorem dX6_join_38 : decode cX6_join 38 = .ok (.iconst 1, 1) := by decide +kernel
theorem dX6_join_39 : decode cX6_join 39 = .ok (.iadd, 1) := by decide +kernel
theorem dX6_join_40 : decode cX6_join 40 = .ok (.ireturn, 1) := by decide +kernel
theorem dX6_leave_0 : decode cX6_leave 0 = .ok (.aload_n 0, 1) := by decide +kernel
theorem dX6_leave_1 : decode cX6_leave 1 = .ok (.iconst 0, 1) := by decide +kernel
theorem dX6_leave_2 : decode cX6_leave 2 = .ok (.putfield 1, 3) := by decide +kernel
theorem dX6_leave_5 : decode cX6_leave 5 = .ok (.aload_n 0, 1) := by decide +kernel
theorem dX6_leave_6 : decode cX6_leave 6 = .ok (.iload_n 1, 1) := by decide +kernel
theorem dX6_leave_7 : decode cX6_leave 7 = .ok (.invokevirtual 103, 3) := by decide +kernel
theorem dX6_leave_10 : decode cX6_leave 10 = .ok (.ifCond .eq 5, 3) := by decide +kernel
theorem dX6_leave_13 : decode cX6_leave 13 = .ok (.iconst (-1), 1) := by decide +kernel
theorem dX6_leave_14 : decode cX6_leave 14 = .ok (.ireturn, 1) := by decide +kernel
theorem dX6_leave_15 : decode cX6_leave 15 = .ok (.aload_n 0, 1) := by decide +kernel
theorem dX6_leave_16 : decode cX6_leave 16 = .ok (.getfield 36, 3) := by decide +kernel
theorem dX6_leave_19 : decode cX6_leave 19 = .ok (.iload_n 1, 1) := by decide +kernel
theorem dX6_leave_20 : decode cX6_leave 20 = .ok (.iaload, 1) := by decide +kernel
theorem dX6_leave_21 : decode cX6_leave 21 = .ok (.iconst 2, 1) := by decide +kernel
theorem dX6_leave_22 : decode cX6_leave 22 = .ok (.if_icmp .ne 12, 3) := by decide +kernel
theorem dX6_leave_25 : decode cX6_leave 25 = .ok (.aload_n 0, 1) := by decide +kernel
theorem dX6_leave_26 : decode cX6_leave 26 = .ok (.getfield 42, 3) := by decide +kernel
theorem dX6_leave_29 : decode cX6_leave 29 = .ok (.iload_n 1, 1) := by decide +kernel
theorem dX6_leave_30 : decode cX6_leave 30 = .ok (.baload, 1) := by decide +kernel
theorem dX6_leave_31 : decode cX6_leave 31 = .ok (.ifCond .eq 6, 3) := by decide +kernel
theorem dX6_leave_34 : decode cX6_leave 34 = .ok (.bipush (-4), 2) := by decide +kernel
theorem dX6_leave_36 : decode cX6_leave 36 = .ok (.ireturn, 1) := by decide +kernel
theorem dX6_leave_37 : decode cX6_leave 37 = .ok (.aload_n 0, 1) := by decide +kernel
theorem dX6_leave_38 : decode cX6_leave 38 = .ok (.getfield 36, 3) := by decide +kernel
theorem dX6_leave_41 : decode cX6_leave 41 = .ok (.iload_n 1, 1) := by decide +kernel
theorem dX6_leave_42 : decode cX6_leave 42 = .ok (.iconst 3, 1) := by decide +kernel
theorem dX6_leave_43 : decode cX6_leave 43 = .ok (.iastore, 1) := by decide +kernel
theorem dX6_leave_44 : decode cX6_leave 44 = .ok (.aload_n 0, 1) := by decide +kernel
theorem dX6_leave_45 : decode cX6_leave 45 = .ok (.getfield 39, 3) := by decide +kernel
theorem dX6_leave_48 : decode cX6_leave 48 = .ok (.iload_n 1, 1) := by decide +kernel
theorem dX6_leave_49 : decode cX6_leave 49 = .ok (.aload_n 0, 1) := by decide +kernel
theorem dX6_leave_50 : decode cX6_leave 50 = .ok (.getfield 83, 3) := by decide +kernel
theorem dX6_leave_53 : decode cX6_leave 53 = .ok (.aload_n 0, 1) := by decide +kernel
theorem dX6_leave_54 : decode cX6_leave 54 = .ok (.getfield 13, 3) := by decide +kernel
theorem dX6_leave_57 : decode cX6_leave 57 = .ok (.iadd, 1) := by decide +kernel
theorem dX6_leave_58 : decode cX6_leave 58 = .ok (.iastore, 1) := by decide +kernel
theorem dX6_leave_59 : decode cX6_leave 59 = .ok (.aload_n 0, 1) := by decide +kernel
theorem dX6_leave_60 : decode cX6_leave 60 = .ok (.getfield 39, 3) := by decide +kernel
theorem dX6_leave_63 : decode cX6_leave 63 = .ok (.iload_n 1, 1) := by decide +kernel
theorem dX6_leave_64 : decode cX6_leave 64 = .ok (.iaload, 1) := by decide +kernel
theorem dX6_leave_65 : decode cX6_leave 65 = .ok (.ireturn, 1) := by decide +kernel
theorem dX6_freeze_0 : decode cX6_freeze 0 = .ok (.aload_n 0, 1) := by decide +kernel
theorem dX6_freeze_1 : decode cX6_freeze 1 = .ok (.iconst 0, 1) := by decide +kernel
theorem dX6_freeze_2 : decode cX6_freeze 2 = .ok (.putfield 1, 3) := by decide +kernel
theorem dX6_freeze_5 : decode cX6_freeze 5 = .ok (.aload_n 0, 1) := by decide +kernel
theorem dX6_freeze_6 : decode cX6_freeze 6 = .ok (.iload_n 1, 1) := by decide +kernel
theorem dX6_freeze_7 : decode cX6_freeze 7 = .ok (.invokevirtual 103, 3) := by decide +kernel
theorem dX6_freeze_10 : decode cX6_freeze 10 = .ok (.ifCond .eq 5, 3) := by decide +kernel
theorem dX6_freeze_13 : decode cX6_freeze 13 = .ok (.iconst (-1), 1) := by decide +kernel
theorem dX6_freeze_14 : decode cX6_freeze 14 = .ok (.ireturn, 1) := by decide +kernel
theorem dX6_freeze_15 : decode cX6_freeze 15 = .ok (.aload_n 0, 1) := by decide +kernel
theorem dX6_freeze_16 : decode cX6_freeze 16 = .ok (.getfield 42, 3) := by decide +kernel
theorem dX6_freeze_19 : decode cX6_freeze 19 = .ok (.iload_n 1, 1) := by decide +kernel
theorem dX6_freeze_20 : decode cX6_freeze 20 = .ok (.baload, 1) := by decide +kernel
theorem dX6_freeze_21 : decode cX6_freeze 21 = .ok (.ifCond .eq 7, 3) := by decide +kernel
theorem dX6_freeze_24 : decode cX6_freeze 24 = .ok (.iconst 1, 1) := by decide +kernel
theorem dX6_freeze_25 : decode cX6_freeze 25 = .ok (.goto 4, 3) := by decide +kernel
theorem dX6_freeze_28 : decode cX6_freeze 28 = .ok (.iconst 0, 1) := by decide +kernel
theorem dX6_freeze_29 : decode cX6_freeze 29 = .ok (.istore_n 3, 1) := by decide +kernel
theorem dX6_freeze_30 : decode cX6_freeze 30 = .ok (.aload_n 0, 1) := by decide +kernel
theorem dX6_freeze_31 : decode cX6_freeze 31 = .ok (.getfield 42, 3) := by decide +kernel
theorem dX6_freeze_34 : decode cX6_freeze 34 = .ok (.iload_n 1, 1) := by decide +kernel
theorem dX6_freeze_35 : decode cX6_freeze 35 = .ok (.iload_n 2, 1) := by decide +kernel
theorem dX6_freeze_36 : decode cX6_freeze 36 = .ok (.bastore, 1) := by decide +kernel
theorem dX6_freeze_37 : decode cX6_freeze 37 = .ok (.iload_n 3, 1) := by decide +kernel
theorem dX6_freeze_38 : decode cX6_freeze 38 = .ok (.ireturn, 1) := by decide +kernel
theorem dX6_deal_0 : decode cX6_deal 0 = .ok (.lconst 0, 1) := by decide +kernel
theorem dX6_deal_1 : decode cX6_deal 1 = .ok (.lstore_n 3, 1) := by decide +kernel
theorem dX6_deal_2 : decode cX6_deal 2 = .ok (.iconst 0, 1) := by decide +kernel
theorem dX6_deal_3 : decode cX6_deal 3 = .ok (.istore 5, 2) := by decide +kernel
theorem dX6_deal_5 : decode cX6_deal 5 = .ok (.iload 5, 2) := by decide +kernel
theorem dX6_deal_7 : decode cX6_deal 7 = .ok (.iload_n 2, 1) := by decide +kernel
theorem dX6_deal_8 : decode cX6_deal 8 = .ok (.if_icmp .ge 19, 3) := by decide +kernel
theorem dX6_deal_11 : decode cX6_deal 11 = .ok (.lload_n 3, 1) := by decide +kernel
theorem dX6_deal_12 : decode cX6_deal 12 = .ok (.aload_n 0, 1) := by decide +kernel
theorem dX6_deal_13 : decode cX6_deal 13 = .ok (.getfield 64, 3) := by decide +kernel
theorem dX6_deal_16 : decode cX6_deal 16 = .ok (.iload 5, 2) := by decide +kernel
theorem dX6_deal_18 : decode cX6_deal 18 = .ok (.laload, 1) := by decide +kernel
theorem dX6_deal_19 : decode cX6_deal 19 = .ok (.ladd, 1) := by decide +kernel
theorem dX6_deal_20 : decode cX6_deal 20 = .ok (.lstore_n 3, 1) := by decide +kernel
theorem dX6_deal_21 : decode cX6_deal 21 = .ok (.iinc 5 1, 3) := by decide +kernel
theorem dX6_deal_24 : decode cX6_deal 24 = .ok (.goto (-19), 3) := by decide +kernel
theorem dX6_deal_27 : decode cX6_deal 27 = .ok (.iload_n 1, 1) := by decide +kernel
theorem dX6_deal_28 : decode cX6_deal 28 = .ok (.istore 5, 2) := by decide +kernel
theorem dX6_deal_30 : decode cX6_deal 30 = .ok (.iconst 0, 1) := by decide +kernel
theorem dX6_deal_31 : decode cX6_deal 31 = .ok (.istore 6, 2) := by decide +kernel
theorem dX6_deal_33 : decode cX6_deal 33 = .ok (.iload 6, 2) := by decide +kernel
theorem dX6_deal_35 : decode cX6_deal 35 = .ok (.iload_n 2, 1) := by decide +kernel
theorem dX6_deal_36 : decode cX6_deal 36 = .ok (.if_icmp .ge 41, 3) := by decide +kernel
theorem dX6_deal_39 : decode cX6_deal 39 = .ok (.aload_n 0, 1) := by decide +kernel
theorem dX6_deal_40 : decode cX6_deal 40 = .ok (.getfield 68, 3) := by decide +kernel
theorem dX6_deal_43 : decode cX6_deal 43 = .ok (.iload 6, 2) := by decide +kernel
theorem dX6_deal_45 : decode cX6_deal 45 = .ok (.iload_n 1, 1) := by decide +kernel
theorem dX6_deal_46 : decode cX6_deal 46 = .ok (.i2l, 1) := by decide +kernel
theorem dX6_deal_47 : decode cX6_deal 47 = .ok (.aload_n 0, 1) := by decide +kernel
theorem dX6_deal_48 : decode cX6_deal 48 = .ok (.getfield 64, 3) := by decide +kernel
theorem dX6_deal_51 : decode cX6_deal 51 = .ok (.iload 6, 2) := by decide +kernel
theorem dX6_deal_53 : decode cX6_deal 53 = .ok (.laload, 1) := by decide +kernel
theorem dX6_deal_54 : decode cX6_deal 54 = .ok (.lmul, 1) := by decide +kernel
theorem dX6_deal_55 : decode cX6_deal 55 = .ok (.lload_n 3, 1) := by decide +kernel
theorem dX6_deal_56 : decode cX6_deal 56 = .ok (.ldiv, 1) := by decide +kernel
theorem dX6_deal_57 : decode cX6_deal 57 = .ok (.l2i, 1) := by decide +kernel
theorem dX6_deal_58 : decode cX6_deal 58 = .ok (.iastore, 1) := by decide +kernel
theorem dX6_deal_59 : decode cX6_deal 59 = .ok (.iload 5, 2) := by decide +kernel
theorem dX6_deal_61 : decode cX6_deal 61 = .ok (.aload_n 0, 1) := by decide +kernel
theorem dX6_deal_62 : decode cX6_deal 62 = .ok (.getfield 68, 3) := by decide +kernel
theorem dX6_deal_65 : decode cX6_deal 65 = .ok (.iload 6, 2) := by decide +kernel
theorem dX6_deal_67 : decode cX6_deal 67 = .ok (.iaload, 1) := by decide +kernel
theorem dX6_deal_68 : decode cX6_deal 68 = .ok (.isub, 1) := by decide +kernel
theorem dX6_deal_69 : decode cX6_deal 69 = .ok (.istore 5, 2) := by decide +kernel
theorem dX6_deal_71 : decode cX6_deal 71 = .ok (.iinc 6 1, 3) := by decide +kernel
theorem dX6_deal_74 : decode cX6_deal 74 = .ok (.goto (-41), 3) := by decide +kernel
theorem dX6_deal_77 : decode cX6_deal 77 = .ok (.iconst 0, 1) := by decide +kernel
theorem dX6_deal_78 : decode cX6_deal 78 = .ok (.istore 6, 2) := by decide +kernel
theorem dX6_deal_80 : decode cX6_deal 80 = .ok (.iload 6, 2) := by decide +kernel
theorem dX6_deal_82 : decode cX6_deal 82 = .ok (.iload 5, 2) := by decide +kernel
theorem dX6_deal_84 : decode cX6_deal 84 = .ok (.if_icmp .ge 134, 3) := by decide +kernel
theorem dX6_deal_87 : decode cX6_deal 87 = .ok (.iconst 0, 1) := by decide +kernel
theorem dX6_deal_88 : decode cX6_deal 88 = .ok (.istore 7, 2) := by decide +kernel
theorem dX6_deal_90 : decode cX6_deal 90 = .ok (.iload 7, 2) := by decide +kernel
theorem dX6_deal_92 : decode cX6_deal 92 = .ok (.iload_n 2, 1) := by decide +kernel
theorem dX6_deal_93 : decode cX6_deal 93 = .ok (.if_icmp .ge 119, 3) := by decide +kernel
theorem dX6_deal_96 : decode cX6_deal 96 = .ok (.iconst 0, 1) := by decide +kernel
theorem dX6_deal_97 : decode cX6_deal 97 = .ok (.istore 8, 2) := by decide +kernel
theorem dX6_deal_99 : decode cX6_deal 99 = .ok (.iconst 0, 1) := by decide +kernel
theorem dX6_deal_100 : decode cX6_deal 100 = .ok (.istore 9, 2) := by decide +kernel
theorem dX6_deal_102 : decode cX6_deal 102 = .ok (.iload 9, 2) := by decide +kernel
theorem dX6_deal_104 : decode cX6_deal 104 = .ok (.iload_n 2, 1) := by decide +kernel
theorem dX6_deal_105 : decode cX6_deal 105 = .ok (.if_icmp .ge 68, 3) := by decide +kernel
theorem dX6_deal_108 : decode cX6_deal 108 = .ok (.iload_n 1, 1) := by decide +kernel
theorem dX6_deal_109 : decode cX6_deal 109 = .ok (.i2l, 1) := by decide +kernel
theorem dX6_deal_110 : decode cX6_deal 110 = .ok (.aload_n 0, 1) := by decide +kernel
theorem dX6_deal_111 : decode cX6_deal 111 = .ok (.getfield 64, 3) := by decide +kernel
theorem dX6_deal_114 : decode cX6_deal 114 = .ok (.iload 9, 2) := by decide +kernel
theorem dX6_deal_116 : decode cX6_deal 116 = .ok (.laload, 1) := by decide +kernel
theorem dX6_deal_117 : decode cX6_deal 117 = .ok (.lmul, 1) := by decide +kernel
theorem dX6_deal_118 : decode cX6_deal 118 = .ok (.lload_n 3, 1) := by decide +kernel
theorem dX6_deal_119 : decode cX6_deal 119 = .ok (.lrem, 1) := by decide +kernel
theorem dX6_deal_120 : decode cX6_deal 120 = .ok (.iload_n 1, 1) := by decide +kernel
theorem dX6_deal_121 : decode cX6_deal 121 = .ok (.i2l, 1) := by decide +kernel
theorem dX6_deal_122 : decode cX6_deal 122 = .ok (.aload_n 0, 1) := by decide +kernel
theorem dX6_deal_123 : decode cX6_deal 123 = .ok (.getfield 64, 3) := by decide +kernel
theorem dX6_deal_126 : decode cX6_deal 126 = .ok (.iload 7, 2) := by decide +kernel
theorem dX6_deal_128 : decode cX6_deal 128 = .ok (.laload, 1) := by decide +kernel
theorem dX6_deal_129 : decode cX6_deal 129 = .ok (.lmul, 1) := by decide +kernel
theorem dX6_deal_130 : decode cX6_deal 130 = .ok (.lload_n 3, 1) := by decide +kernel
theorem dX6_deal_131 : decode cX6_deal 131 = .ok (.lrem, 1) := by decide +kernel
theorem dX6_deal_132 : decode cX6_deal 132 = .ok (.lsub, 1) := by decide +kernel
theorem dX6_deal_133 : decode cX6_deal 133 = .ok (.lstore 10, 2) := by decide +kernel
theorem dX6_deal_135 : decode cX6_deal 135 = .ok (.lload 10, 2) := by decide +kernel
theorem dX6_deal_137 : decode cX6_deal 137 = .ok (.lconst 0, 1) := by decide +kernel
theorem dX6_deal_138 : decode cX6_deal 138 = .ok (.lcmp, 1) := by decide +kernel
theorem dX6_deal_139 : decode cX6_deal 139 = .ok (.ifCond .gt 17, 3) := by decide +kernel
theorem dX6_deal_142 : decode cX6_deal 142 = .ok (.lload 10, 2) := by decide +kernel
theorem dX6_deal_144 : decode cX6_deal 144 = .ok (.lconst 0, 1) := by decide +kernel
theorem dX6_deal_145 : decode cX6_deal 145 = .ok (.lcmp, 1) := by decide +kernel
theorem dX6_deal_146 : decode cX6_deal 146 = .ok (.ifCond .ne 17, 3) := by decide +kernel
theorem dX6_deal_149 : decode cX6_deal 149 = .ok (.iload 9, 2) := by decide +kernel
theorem dX6_deal_151 : decode cX6_deal 151 = .ok (.iload 7, 2) := by decide +kernel
theorem dX6_deal_153 : decode cX6_deal 153 = .ok (.if_icmp .ge 10, 3) := by decide +kernel
theorem dX6_deal_156 : decode cX6_deal 156 = .ok (.iload 8, 2) := by decide +kernel
theorem dX6_deal_158 : decode cX6_deal 158 = .ok (.iconst 1, 1) := by decide +kernel
theorem dX6_deal_159 : decode cX6_deal 159 = .ok (.iadd, 1) := by decide +kernel
theorem dX6_deal_160 : decode cX6_deal 160 = .ok (.goto 5, 3) := by decide +kernel
theorem dX6_deal_163 : decode cX6_deal 163 = .ok (.iload 8, 2) := by decide +kernel
theorem dX6_deal_165 : decode cX6_deal 165 = .ok (.istore 8, 2) := by decide +kernel
theorem dX6_deal_167 : decode cX6_deal 167 = .ok (.iinc 9 1, 3) := by decide +kernel
theorem dX6_deal_170 : decode cX6_deal 170 = .ok (.goto (-68), 3) := by decide +kernel
theorem dX6_deal_173 : decode cX6_deal 173 = .ok (.aload_n 0, 1) := by decide +kernel
theorem dX6_deal_174 : decode cX6_deal 174 = .ok (.getfield 68, 3) := by decide +kernel
theorem dX6_deal_177 : decode cX6_deal 177 = .ok (.iload 7, 2) := by decide +kernel
theorem dX6_deal_179 : decode cX6_deal 179 = .ok (.iload 8, 2) := by decide +kernel
theorem dX6_deal_181 : decode cX6_deal 181 = .ok (.iload 6, 2) := by decide +kernel
theorem dX6_deal_183 : decode cX6_deal 183 = .ok (.if_icmp .ne 15, 3) := by decide +kernel
theorem dX6_deal_186 : decode cX6_deal 186 = .ok (.aload_n 0, 1) := by decide +kernel
theorem dX6_deal_187 : decode cX6_deal 187 = .ok (.getfield 68, 3) := by decide +kernel
theorem dX6_deal_190 : decode cX6_deal 190 = .ok (.iload 7, 2) := by decide +kernel
theorem dX6_deal_192 : decode cX6_deal 192 = .ok (.iaload, 1) := by decide +kernel
theorem dX6_deal_193 : decode cX6_deal 193 = .ok (.iconst 1, 1) := by decide +kernel
theorem dX6_deal_194 : decode cX6_deal 194 = .ok (.iadd, 1) := by decide +kernel
theorem dX6_deal_195 : decode cX6_deal 195 = .ok (.goto 10, 3) := by decide +kernel
theorem dX6_deal_198 : decode cX6_deal 198 = .ok (.aload_n 0, 1) := by decide +kernel
theorem dX6_deal_199 : decode cX6_deal 199 = .ok (.getfield 68, 3) := by decide +kernel
theorem dX6_deal_202 : decode cX6_deal 202 = .ok (.iload 7, 2) := by decide +kernel
theorem dX6_deal_204 : decode cX6_deal 204 = .ok (.iaload, 1) := by decide +kernel
theorem dX6_deal_205 : decode cX6_deal 205 = .ok (.iastore, 1) := by decide +kernel
theorem dX6_deal_206 : decode cX6_deal 206 = .ok (.iinc 7 1, 3) := by decide +kernel
theorem dX6_deal_209 : decode cX6_deal 209 = .ok (.goto (-119), 3) := by decide +kernel
theorem dX6_deal_212 : decode cX6_deal 212 = .ok (.iinc 6 1, 3) := by decide +kernel
theorem dX6_deal_215 : decode cX6_deal 215 = .ok (.goto (-135), 3) := by decide +kernel
theorem dX6_deal_218 : decode cX6_deal 218 = .ok (.return_, 1) := by decide +kernel
theorem dX6_allOf_0 : decode cX6_allOf 0 = .ok (.iconst 0, 1) := by decide +kernel
theorem dX6_allOf_1 : decode cX6_allOf 1 = .ok (.istore_n 2, 1) := by decide +kernel
theorem dX6_allOf_2 : decode cX6_allOf 2 = .ok (.iconst 0, 1) := by decide +kernel
theorem dX6_allOf_3 : decode cX6_allOf 3 = .ok (.istore_n 3, 1) := by decide +kernel
theorem dX6_allOf_4 : decode cX6_allOf 4 = .ok (.iload_n 3, 1) := by decide +kernel
theorem dX6_allOf_5 : decode cX6_allOf 5 = .ok (.bipush 8, 2) := by decide +kernel
theorem dX6_allOf_7 : decode cX6_allOf 7 = .ok (.if_icmp .ge 23, 3) := by decide +kernel
theorem dX6_allOf_10 : decode cX6_allOf 10 = .ok (.iload_n 2, 1) := by decide +kernel
theorem dX6_allOf_11 : decode cX6_allOf 11 = .ok (.aload_n 0, 1) := by decide +kernel
theorem dX6_allOf_12 : decode cX6_allOf 12 = .ok (.getfield 55, 3) := by decide +kernel
theorem dX6_allOf_15 : decode cX6_allOf 15 = .ok (.bipush 8, 2) := by decide +kernel
theorem dX6_allOf_17 : decode cX6_allOf 17 = .ok (.iload_n 1, 1) := by decide +kernel
theorem dX6_allOf_18 : decode cX6_allOf 18 = .ok (.imul, 1) := by decide +kernel
theorem dX6_allOf_19 : decode cX6_allOf 19 = .ok (.iload_n 3, 1) := by decide +kernel
theorem dX6_allOf_20 : decode cX6_allOf 20 = .ok (.iadd, 1) := by decide +kernel
theorem dX6_allOf_21 : decode cX6_allOf 21 = .ok (.iaload, 1) := by decide +kernel
theorem dX6_allOf_22 : decode cX6_allOf 22 = .ok (.iadd, 1) := by decide +kernel
theorem dX6_allOf_23 : decode cX6_allOf 23 = .ok (.istore_n 2, 1) := by decide +kernel
theorem dX6_allOf_24 : decode cX6_allOf 24 = .ok (.iinc 3 1, 3) := by decide +kernel
theorem dX6_allOf_27 : decode cX6_allOf 27 = .ok (.goto (-23), 3) := by decide +kernel
theorem dX6_allOf_30 : decode cX6_allOf 30 = .ok (.iload_n 2, 1) := by decide +kernel
theorem dX6_allOf_31 : decode cX6_allOf 31 = .ok (.ireturn, 1) := by decide +kernel
theorem dX6_payFor_0 : decode cX6_payFor 0 = .ok (.aload_n 0, 1) := by decide +kernel
theorem dX6_payFor_1 : decode cX6_payFor 1 = .ok (.getfield 16, 3) := by decide +kernel
theorem dX6_payFor_4 : decode cX6_payFor 4 = .ok (.istore_n 2, 1) := by decide +kernel
theorem dX6_payFor_5 : decode cX6_payFor 5 = .ok (.iconst 0, 1) := by decide +kernel
theorem dX6_payFor_6 : decode cX6_payFor 6 = .ok (.istore_n 3, 1) := by decide +kernel
theorem dX6_payFor_7 : decode cX6_payFor 7 = .ok (.iload_n 3, 1) := by decide +kernel
theorem dX6_payFor_8 : decode cX6_payFor 8 = .ok (.iload_n 1, 1) := by decide +kernel
theorem dX6_payFor_9 : decode cX6_payFor 9 = .ok (.aload_n 0, 1) := by decide +kernel
theorem dX6_payFor_10 : decode cX6_payFor 10 = .ok (.getfield 19, 3) := by decide +kernel
theorem dX6_payFor_13 : decode cX6_payFor 13 = .ok (.idiv, 1) := by decide +kernel
theorem dX6_payFor_14 : decode cX6_payFor 14 = .ok (.if_icmp .ge 17, 3) := by decide +kernel
theorem dX6_payFor_17 : decode cX6_payFor 17 = .ok (.iload_n 2, 1) := by decide +kernel
theorem dX6_payFor_18 : decode cX6_payFor 18 = .ok (.ifCond .le 13, 3) := by decide +kernel
theorem dX6_payFor_21 : decode cX6_payFor 21 = .ok (.iload_n 2, 1) := by decide +kernel
theorem dX6_payFor_22 : decode cX6_payFor 22 = .ok (.iconst 2, 1) := by decide +kernel
theorem dX6_payFor_23 : decode cX6_payFor 23 = .ok (.idiv, 1) := by decide +kernel
theorem dX6_payFor_24 : decode cX6_payFor 24 = .ok (.istore_n 2, 1) := by decide +kernel
theorem dX6_payFor_25 : decode cX6_payFor 25 = .ok (.iinc 3 1, 3) := by decide +kernel
theorem dX6_payFor_28 : decode cX6_payFor 28 = .ok (.goto (-21), 3) := by decide +kernel
theorem dX6_payFor_31 : decode cX6_payFor 31 = .ok (.aload_n 0, 1) := by decide +kernel
theorem dX6_payFor_32 : decode cX6_payFor 32 = .ok (.iload_n 1, 1) := by decide +kernel
theorem dX6_payFor_33 : decode cX6_payFor 33 = .ok (.invokevirtual 106, 3) := by decide +kernel
theorem dX6_payFor_36 : decode cX6_payFor 36 = .ok (.ifCond .ne 4, 3) := by decide +kernel
theorem dX6_payFor_39 : decode cX6_payFor 39 = .ok (.return_, 1) := by decide +kernel
theorem dX6_payFor_40 : decode cX6_payFor 40 = .ok (.iconst 0, 1) := by decide +kernel
theorem dX6_payFor_41 : decode cX6_payFor 41 = .ok (.istore_n 3, 1) := by decide +kernel
theorem dX6_payFor_42 : decode cX6_payFor 42 = .ok (.iload_n 3, 1) := by decide +kernel
theorem dX6_payFor_43 : decode cX6_payFor 43 = .ok (.bipush 8, 2) := by decide +kernel
theorem dX6_payFor_45 : decode cX6_payFor 45 = .ok (.if_icmp .ge 27, 3) := by decide +kernel
theorem dX6_payFor_48 : decode cX6_payFor 48 = .ok (.aload_n 0, 1) := by decide +kernel
theorem dX6_payFor_49 : decode cX6_payFor 49 = .ok (.getfield 64, 3) := by decide +kernel
theorem dX6_payFor_52 : decode cX6_payFor 52 = .ok (.iload_n 3, 1) := by decide +kernel
theorem dX6_payFor_53 : decode cX6_payFor 53 = .ok (.aload_n 0, 1) := by decide +kernel
theorem dX6_payFor_54 : decode cX6_payFor 54 = .ok (.getfield 55, 3) := by decide +kernel
theorem dX6_payFor_57 : decode cX6_payFor 57 = .ok (.bipush 8, 2) := by decide +kernel
theorem dX6_payFor_59 : decode cX6_payFor 59 = .ok (.iload_n 1, 1) := by decide +kernel
theorem dX6_payFor_60 : decode cX6_payFor 60 = .ok (.imul, 1) := by decide +kernel
theorem dX6_payFor_61 : decode cX6_payFor 61 = .ok (.iload_n 3, 1) := by decide +kernel
theorem dX6_payFor_62 : decode cX6_payFor 62 = .ok (.iadd, 1) := by decide +kernel
theorem dX6_payFor_63 : decode cX6_payFor 63 = .ok (.iaload, 1) := by decide +kernel
theorem dX6_payFor_64 : decode cX6_payFor 64 = .ok (.i2l, 1) := by decide +kernel
theorem dX6_payFor_65 : decode cX6_payFor 65 = .ok (.lastore, 1) := by decide +kernel
theorem dX6_payFor_66 : decode cX6_payFor 66 = .ok (.iinc 3 1, 3) := by decide +kernel
theorem dX6_payFor_69 : decode cX6_payFor 69 = .ok (.goto (-27), 3) := by decide +kernel
theorem dX6_payFor_72 : decode cX6_payFor 72 = .ok (.aload_n 0, 1) := by decide +kernel
theorem dX6_payFor_73 : decode cX6_payFor 73 = .ok (.iload_n 2, 1) := by decide +kernel
theorem dX6_payFor_74 : decode cX6_payFor 74 = .ok (.bipush 8, 2) := by decide +kernel
theorem dX6_payFor_76 : decode cX6_payFor 76 = .ok (.invokevirtual 110, 3) := by decide +kernel
theorem dX6_payFor_79 : decode cX6_payFor 79 = .ok (.iconst 0, 1) := by decide +kernel
theorem dX6_payFor_80 : decode cX6_payFor 80 = .ok (.istore_n 3, 1) := by decide +kernel
theorem dX6_payFor_81 : decode cX6_payFor 81 = .ok (.iload_n 3, 1) := by decide +kernel
theorem dX6_payFor_82 : decode cX6_payFor 82 = .ok (.bipush 8, 2) := by decide +kernel
theorem dX6_payFor_84 : decode cX6_payFor 84 = .ok (.if_icmp .ge 26, 3) := by decide +kernel
theorem dX6_payFor_87 : decode cX6_payFor 87 = .ok (.aload_n 0, 1) := by decide +kernel
theorem dX6_payFor_88 : decode cX6_payFor 88 = .ok (.getfield 58, 3) := by decide +kernel
theorem dX6_payFor_91 : decode cX6_payFor 91 = .ok (.bipush 8, 2) := by decide +kernel
theorem dX6_payFor_93 : decode cX6_payFor 93 = .ok (.iload_n 1, 1) := by decide +kernel
theorem dX6_payFor_94 : decode cX6_payFor 94 = .ok (.imul, 1) := by decide +kernel
theorem dX6_payFor_95 : decode cX6_payFor 95 = .ok (.iload_n 3, 1) := by decide +kernel
theorem dX6_payFor_96 : decode cX6_payFor 96 = .ok (.iadd, 1) := by decide +kernel
theorem dX6_payFor_97 : decode cX6_payFor 97 = .ok (.aload_n 0, 1) := by decide +kernel
theorem dX6_payFor_98 : decode cX6_payFor 98 = .ok (.getfield 68, 3) := by decide +kernel
theorem dX6_payFor_101 : decode cX6_payFor 101 = .ok (.iload_n 3, 1) := by decide +kernel
theorem dX6_payFor_102 : decode cX6_payFor 102 = .ok (.iaload, 1) := by decide +kernel
theorem dX6_payFor_103 : decode cX6_payFor 103 = .ok (.iastore, 1) := by decide +kernel
theorem dX6_payFor_104 : decode cX6_payFor 104 = .ok (.iinc 3 1, 3) := by decide +kernel
theorem dX6_payFor_107 : decode cX6_payFor 107 = .ok (.goto (-26), 3) := by decide +kernel
theorem dX6_payFor_110 : decode cX6_payFor 110 = .ok (.aload_n 0, 1) := by decide +kernel
theorem dX6_payFor_111 : decode cX6_payFor 111 = .ok (.getfield 61, 3) := by decide +kernel
theorem dX6_payFor_114 : decode cX6_payFor 114 = .ok (.iload_n 1, 1) := by decide +kernel
theorem dX6_payFor_115 : decode cX6_payFor 115 = .ok (.iload_n 2, 1) := by decide +kernel
theorem dX6_payFor_116 : decode cX6_payFor 116 = .ok (.iastore, 1) := by decide +kernel
theorem dX6_payFor_117 : decode cX6_payFor 117 = .ok (.aload_n 0, 1) := by decide +kernel
theorem dX6_payFor_118 : decode cX6_payFor 118 = .ok (.aload_n 0, 1) := by decide +kernel
theorem dX6_payFor_119 : decode cX6_payFor 119 = .ok (.getfield 114, 3) := by decide +kernel
theorem dX6_payFor_122 : decode cX6_payFor 122 = .ok (.iload_n 2, 1) := by decide +kernel
theorem dX6_payFor_123 : decode cX6_payFor 123 = .ok (.iadd, 1) := by decide +kernel
theorem dX6_payFor_124 : decode cX6_payFor 124 = .ok (.putfield 114, 3) := by decide +kernel
theorem dX6_payFor_127 : decode cX6_payFor 127 = .ok (.iconst 0, 1) := by decide +kernel
theorem dX6_payFor_128 : decode cX6_payFor 128 = .ok (.istore_n 3, 1) := by decide +kernel
theorem dX6_payFor_129 : decode cX6_payFor 129 = .ok (.iload_n 3, 1) := by decide +kernel
theorem dX6_payFor_130 : decode cX6_payFor 130 = .ok (.bipush 8, 2) := by decide +kernel
theorem dX6_payFor_132 : decode cX6_payFor 132 = .ok (.if_icmp .ge 165, 3) := by decide +kernel
theorem dX6_payFor_135 : decode cX6_payFor 135 = .ok (.aload_n 0, 1) := by decide +kernel
theorem dX6_payFor_136 : decode cX6_payFor 136 = .ok (.getfield 55, 3) := by decide +kernel
theorem dX6_payFor_139 : decode cX6_payFor 139 = .ok (.bipush 8, 2) := by decide +kernel
theorem dX6_payFor_141 : decode cX6_payFor 141 = .ok (.iload_n 1, 1) := by decide +kernel
theorem dX6_payFor_142 : decode cX6_payFor 142 = .ok (.imul, 1) := by decide +kernel
theorem dX6_payFor_143 : decode cX6_payFor 143 = .ok (.iload_n 3, 1) := by decide +kernel
theorem dX6_payFor_144 : decode cX6_payFor 144 = .ok (.iadd, 1) := by decide +kernel
theorem dX6_payFor_145 : decode cX6_payFor 145 = .ok (.iaload, 1) := by decide +kernel
theorem dX6_payFor_146 : decode cX6_payFor 146 = .ok (.ifCond .le 145, 3) := by decide +kernel
theorem dX6_payFor_149 : decode cX6_payFor 149 = .ok (.aload_n 0, 1) := by decide +kernel
theorem dX6_payFor_150 : decode cX6_payFor 150 = .ok (.getfield 58, 3) := by decide +kernel
theorem dX6_payFor_153 : decode cX6_payFor 153 = .ok (.bipush 8, 2) := by decide +kernel
theorem dX6_payFor_155 : decode cX6_payFor 155 = .ok (.iload_n 1, 1) := by decide +kernel
theorem dX6_payFor_156 : decode cX6_payFor 156 = .ok (.imul, 1) := by decide +kernel
theorem dX6_payFor_157 : decode cX6_payFor 157 = .ok (.iload_n 3, 1) := by decide +kernel
theorem dX6_payFor_158 : decode cX6_payFor 158 = .ok (.iadd, 1) := by decide +kernel
theorem dX6_payFor_159 : decode cX6_payFor 159 = .ok (.iaload, 1) := by decide +kernel
theorem dX6_payFor_160 : decode cX6_payFor 160 = .ok (.aload_n 0, 1) := by decide +kernel
theorem dX6_payFor_161 : decode cX6_payFor 161 = .ok (.getfield 33, 3) := by decide +kernel
theorem dX6_payFor_164 : decode cX6_payFor 164 = .ok (.iload_n 3, 1) := by decide +kernel
theorem dX6_payFor_165 : decode cX6_payFor 165 = .ok (.iaload, 1) := by decide +kernel
theorem dX6_payFor_166 : decode cX6_payFor 166 = .ok (.imul, 1) := by decide +kernel
theorem dX6_payFor_167 : decode cX6_payFor 167 = .ok (.bipush 100, 2) := by decide +kernel
theorem dX6_payFor_169 : decode cX6_payFor 169 = .ok (.idiv, 1) := by decide +kernel
theorem dX6_payFor_170 : decode cX6_payFor 170 = .ok (.istore 4, 2) := by decide +kernel
theorem dX6_payFor_172 : decode cX6_payFor 172 = .ok (.aload_n 0, 1) := by decide +kernel
theorem dX6_payFor_173 : decode cX6_payFor 173 = .ok (.getfield 26, 3) := by decide +kernel
theorem dX6_payFor_176 : decode cX6_payFor 176 = .ok (.aload_n 0, 1) := by decide +kernel
theorem dX6_payFor_177 : decode cX6_payFor 177 = .ok (.getfield 30, 3) := by decide +kernel
theorem dX6_payFor_180 : decode cX6_payFor 180 = .ok (.iload_n 3, 1) := by decide +kernel
theorem dX6_payFor_181 : decode cX6_payFor 181 = .ok (.iaload, 1) := by decide +kernel
theorem dX6_payFor_182 : decode cX6_payFor 182 = .ok (.aload_n 0, 1) := by decide +kernel
theorem dX6_payFor_183 : decode cX6_payFor 183 = .ok (.getfield 26, 3) := by decide +kernel
theorem dX6_payFor_186 : decode cX6_payFor 186 = .ok (.aload_n 0, 1) := by decide +kernel
theorem dX6_payFor_187 : decode cX6_payFor 187 = .ok (.getfield 30, 3) := by decide +kernel
theorem dX6_payFor_190 : decode cX6_payFor 190 = .ok (.iload_n 3, 1) := by decide +kernel
theorem dX6_payFor_191 : decode cX6_payFor 191 = .ok (.iaload, 1) := by decide +kernel
theorem dX6_payFor_192 : decode cX6_payFor 192 = .ok (.iaload, 1) := by decide +kernel
theorem dX6_payFor_193 : decode cX6_payFor 193 = .ok (.iload 4, 2) := by decide +kernel
theorem dX6_payFor_195 : decode cX6_payFor 195 = .ok (.iadd, 1) := by decide +kernel
theorem dX6_payFor_196 : decode cX6_payFor 196 = .ok (.iastore, 1) := by decide +kernel
theorem dX6_payFor_197 : decode cX6_payFor 197 = .ok (.iconst 0, 1) := by decide +kernel
theorem dX6_payFor_198 : decode cX6_payFor 198 = .ok (.istore 5, 2) := by decide +kernel
theorem dX6_payFor_200 : decode cX6_payFor 200 = .ok (.iload 5, 2) := by decide +kernel
theorem dX6_payFor_202 : decode cX6_payFor 202 = .ok (.bipush 10, 2) := by decide +kernel
theorem dX6_payFor_204 : decode cX6_payFor 204 = .ok (.if_icmp .ge 29, 3) := by decide +kernel
theorem dX6_payFor_207 : decode cX6_payFor 207 = .ok (.aload_n 0, 1) := by decide +kernel
theorem dX6_payFor_208 : decode cX6_payFor 208 = .ok (.getfield 64, 3) := by decide +kernel
theorem dX6_payFor_211 : decode cX6_payFor 211 = .ok (.iload 5, 2) := by decide +kernel
theorem dX6_payFor_213 : decode cX6_payFor 213 = .ok (.aload_n 0, 1) := by decide +kernel
theorem dX6_payFor_214 : decode cX6_payFor 214 = .ok (.getfield 49, 3) := by decide +kernel
theorem dX6_payFor_217 : decode cX6_payFor 217 = .ok (.bipush 10, 2) := by decide +kernel
theorem dX6_payFor_219 : decode cX6_payFor 219 = .ok (.iload_n 3, 1) := by decide +kernel
theorem dX6_payFor_220 : decode cX6_payFor 220 = .ok (.imul, 1) := by decide +kernel
theorem dX6_payFor_221 : decode cX6_payFor 221 = .ok (.iload 5, 2) := by decide +kernel
theorem dX6_payFor_223 : decode cX6_payFor 223 = .ok (.iadd, 1) := by decide +kernel
theorem dX6_payFor_224 : decode cX6_payFor 224 = .ok (.iaload, 1) := by decide +kernel
theorem dX6_payFor_225 : decode cX6_payFor 225 = .ok (.i2l, 1) := by decide +kernel
theorem dX6_payFor_226 : decode cX6_payFor 226 = .ok (.lastore, 1) := by decide +kernel
theorem dX6_payFor_227 : decode cX6_payFor 227 = .ok (.iinc 5 1, 3) := by decide +kernel
theorem dX6_payFor_230 : decode cX6_payFor 230 = .ok (.goto (-30), 3) := by decide +kernel
theorem dX6_payFor_233 : decode cX6_payFor 233 = .ok (.aload_n 0, 1) := by decide +kernel
theorem dX6_payFor_234 : decode cX6_payFor 234 = .ok (.aload_n 0, 1) := by decide +kernel
theorem dX6_payFor_235 : decode cX6_payFor 235 = .ok (.getfield 58, 3) := by decide +kernel
theorem dX6_payFor_238 : decode cX6_payFor 238 = .ok (.bipush 8, 2) := by decide +kernel
theorem dX6_payFor_240 : decode cX6_payFor 240 = .ok (.iload_n 1, 1) := by decide +kernel
theorem dX6_payFor_241 : decode cX6_payFor 241 = .ok (.imul, 1) := by decide +kernel
theorem dX6_payFor_242 : decode cX6_payFor 242 = .ok (.iload_n 3, 1) := by decide +kernel
theorem dX6_payFor_243 : decode cX6_payFor 243 = .ok (.iadd, 1) := by decide +kernel
theorem dX6_payFor_244 : decode cX6_payFor 244 = .ok (.iaload, 1) := by decide +kernel
theorem dX6_payFor_245 : decode cX6_payFor 245 = .ok (.iload 4, 2) := by decide +kernel
theorem dX6_payFor_247 : decode cX6_payFor 247 = .ok (.isub, 1) := by decide +kernel
theorem dX6_payFor_248 : decode cX6_payFor 248 = .ok (.bipush 10, 2) := by decide +kernel
theorem dX6_payFor_250 : decode cX6_payFor 250 = .ok (.invokevirtual 110, 3) := by decide +kernel
theorem dX6_payFor_253 : decode cX6_payFor 253 = .ok (.iconst 0, 1) := by decide +kernel
theorem dX6_payFor_254 : decode cX6_payFor 254 = .ok (.istore 5, 2) := by decide +kernel
theorem dX6_payFor_256 : decode cX6_payFor 256 = .ok (.iload 5, 2) := by decide +kernel
theorem dX6_payFor_258 : decode cX6_payFor 258 = .ok (.bipush 10, 2) := by decide +kernel
theorem dX6_payFor_260 : decode cX6_payFor 260 = .ok (.if_icmp .ge 31, 3) := by decide +kernel
theorem dX6_payFor_263 : decode cX6_payFor 263 = .ok (.aload_n 0, 1) := by decide +kernel
theorem dX6_payFor_264 : decode cX6_payFor 264 = .ok (.getfield 26, 3) := by decide +kernel
theorem dX6_payFor_267 : decode cX6_payFor 267 = .ok (.iload 5, 2) := by decide +kernel
theorem dX6_payFor_269 : decode cX6_payFor 269 = .ok (.aload_n 0, 1) := by decide +kernel
theorem dX6_payFor_270 : decode cX6_payFor 270 = .ok (.getfield 26, 3) := by decide +kernel
theorem dX6_payFor_273 : decode cX6_payFor 273 = .ok (.iload 5, 2) := by decide +kernel
theorem dX6_payFor_275 : decode cX6_payFor 275 = .ok (.iaload, 1) := by decide +kernel
theorem dX6_payFor_276 : decode cX6_payFor 276 = .ok (.aload_n 0, 1) := by decide +kernel
theorem dX6_payFor_277 : decode cX6_payFor 277 = .ok (.getfield 68, 3) := by decide +kernel
theorem dX6_payFor_280 : decode cX6_payFor 280 = .ok (.iload 5, 2) := by decide +kernel
theorem dX6_payFor_282 : decode cX6_payFor 282 = .ok (.iaload, 1) := by decide +kernel
theorem dX6_payFor_283 : decode cX6_payFor 283 = .ok (.iadd, 1) := by decide +kernel
theorem dX6_payFor_284 : decode cX6_payFor 284 = .ok (.iastore, 1) := by decide +kernel
theorem dX6_payFor_285 : decode cX6_payFor 285 = .ok (.iinc 5 1, 3) := by decide +kernel
theorem dX6_payFor_288 : decode cX6_payFor 288 = .ok (.goto (-32), 3) := by decide +kernel
theorem dX6_payFor_291 : decode cX6_payFor 291 = .ok (.iinc 3 1, 3) := by decide +kernel
theorem dX6_payFor_294 : decode cX6_payFor 294 = .ok (.goto (-165), 3) := by decide +kernel
theorem dX6_payFor_297 : decode cX6_payFor 297 = .ok (.return_, 1) := by decide +kernel
theorem dX6_fix_0 : decode cX6_fix 0 = .ok (.iconst 0, 1) := by decide +kernel
theorem dX6_fix_1 : decode cX6_fix 1 = .ok (.istore_n 1, 1) := by decide +kernel
