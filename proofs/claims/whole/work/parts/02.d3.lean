theorem dX6_fix_2 : decode cX6_fix 2 = .ok (.iload_n 1, 1) := by decide +kernel
theorem dX6_fix_3 : decode cX6_fix 3 = .ok (.bipush 80, 2) := by decide +kernel
theorem dX6_fix_5 : decode cX6_fix 5 = .ok (.if_icmp .ge 21, 3) := by decide +kernel
theorem dX6_fix_8 : decode cX6_fix 8 = .ok (.aload_n 0, 1) := by decide +kernel
theorem dX6_fix_9 : decode cX6_fix 9 = .ok (.getfield 49, 3) := by decide +kernel
theorem dX6_fix_12 : decode cX6_fix 12 = .ok (.iload_n 1, 1) := by decide +kernel
theorem dX6_fix_13 : decode cX6_fix 13 = .ok (.aload_n 0, 1) := by decide +kernel
theorem dX6_fix_14 : decode cX6_fix 14 = .ok (.getfield 46, 3) := by decide +kernel
theorem dX6_fix_17 : decode cX6_fix 17 = .ok (.iload_n 1, 1) := by decide +kernel
theorem dX6_fix_18 : decode cX6_fix 18 = .ok (.iaload, 1) := by decide +kernel
theorem dX6_fix_19 : decode cX6_fix 19 = .ok (.iastore, 1) := by decide +kernel
theorem dX6_fix_20 : decode cX6_fix 20 = .ok (.iinc 1 1, 3) := by decide +kernel
theorem dX6_fix_23 : decode cX6_fix 23 = .ok (.goto (-21), 3) := by decide +kernel
theorem dX6_fix_26 : decode cX6_fix 26 = .ok (.iconst 0, 1) := by decide +kernel
theorem dX6_fix_27 : decode cX6_fix 27 = .ok (.istore_n 1, 1) := by decide +kernel
theorem dX6_fix_28 : decode cX6_fix 28 = .ok (.iload_n 1, 1) := by decide +kernel
theorem dX6_fix_29 : decode cX6_fix 29 = .ok (.aload_n 0, 1) := by decide +kernel
theorem dX6_fix_30 : decode cX6_fix 30 = .ok (.getfield 80, 3) := by decide +kernel
theorem dX6_fix_33 : decode cX6_fix 33 = .ok (.if_icmp .ge 88, 3) := by decide +kernel
theorem dX6_fix_36 : decode cX6_fix 36 = .ok (.aload_n 0, 1) := by decide +kernel
theorem dX6_fix_37 : decode cX6_fix 37 = .ok (.iload_n 1, 1) := by decide +kernel
theorem dX6_fix_38 : decode cX6_fix 38 = .ok (.invokevirtual 117, 3) := by decide +kernel
theorem dX6_fix_41 : decode cX6_fix 41 = .ok (.istore_n 2, 1) := by decide +kernel
theorem dX6_fix_42 : decode cX6_fix 42 = .ok (.aload_n 0, 1) := by decide +kernel
theorem dX6_fix_43 : decode cX6_fix 43 = .ok (.getfield 36, 3) := by decide +kernel
theorem dX6_fix_46 : decode cX6_fix 46 = .ok (.iload_n 1, 1) := by decide +kernel
theorem dX6_fix_47 : decode cX6_fix 47 = .ok (.iaload, 1) := by decide +kernel
theorem dX6_fix_48 : decode cX6_fix 48 = .ok (.iconst 2, 1) := by decide +kernel
theorem dX6_fix_49 : decode cX6_fix 49 = .ok (.if_icmp .eq 13, 3) := by decide +kernel
theorem dX6_fix_52 : decode cX6_fix 52 = .ok (.aload_n 0, 1) := by decide +kernel
theorem dX6_fix_53 : decode cX6_fix 53 = .ok (.getfield 36, 3) := by decide +kernel
theorem dX6_fix_56 : decode cX6_fix 56 = .ok (.iload_n 1, 1) := by decide +kernel
theorem dX6_fix_57 : decode cX6_fix 57 = .ok (.iaload, 1) := by decide +kernel
theorem dX6_fix_58 : decode cX6_fix 58 = .ok (.iconst 3, 1) := by decide +kernel
theorem dX6_fix_59 : decode cX6_fix 59 = .ok (.if_icmp .ne 16, 3) := by decide +kernel
theorem dX6_fix_62 : decode cX6_fix 62 = .ok (.aload_n 0, 1) := by decide +kernel
theorem dX6_fix_63 : decode cX6_fix 63 = .ok (.getfield 42, 3) := by decide +kernel
theorem dX6_fix_66 : decode cX6_fix 66 = .ok (.iload_n 1, 1) := by decide +kernel
theorem dX6_fix_67 : decode cX6_fix 67 = .ok (.baload, 1) := by decide +kernel
theorem dX6_fix_68 : decode cX6_fix 68 = .ok (.ifCond .ne 7, 3) := by decide +kernel
theorem dX6_fix_71 : decode cX6_fix 71 = .ok (.iconst 1, 1) := by decide +kernel
theorem dX6_fix_72 : decode cX6_fix 72 = .ok (.goto 4, 3) := by decide +kernel
theorem dX6_fix_75 : decode cX6_fix 75 = .ok (.iconst 0, 1) := by decide +kernel
theorem dX6_fix_76 : decode cX6_fix 76 = .ok (.istore_n 3, 1) := by decide +kernel
theorem dX6_fix_77 : decode cX6_fix 77 = .ok (.aload_n 0, 1) := by decide +kernel
theorem dX6_fix_78 : decode cX6_fix 78 = .ok (.getfield 55, 3) := by decide +kernel
theorem dX6_fix_81 : decode cX6_fix 81 = .ok (.bipush 8, 2) := by decide +kernel
theorem dX6_fix_83 : decode cX6_fix 83 = .ok (.aload_n 0, 1) := by decide +kernel
theorem dX6_fix_84 : decode cX6_fix 84 = .ok (.getfield 83, 3) := by decide +kernel
theorem dX6_fix_87 : decode cX6_fix 87 = .ok (.imul, 1) := by decide +kernel
theorem dX6_fix_88 : decode cX6_fix 88 = .ok (.iload_n 1, 1) := by decide +kernel
theorem dX6_fix_89 : decode cX6_fix 89 = .ok (.iadd, 1) := by decide +kernel
theorem dX6_fix_90 : decode cX6_fix 90 = .ok (.iload_n 3, 1) := by decide +kernel
theorem dX6_fix_91 : decode cX6_fix 91 = .ok (.ifCond .ne 7, 3) := by decide +kernel
theorem dX6_fix_94 : decode cX6_fix 94 = .ok (.iconst 0, 1) := by decide +kernel
theorem dX6_fix_95 : decode cX6_fix 95 = .ok (.goto 19, 3) := by decide +kernel
theorem dX6_fix_98 : decode cX6_fix 98 = .ok (.iload_n 2, 1) := by decide +kernel
theorem dX6_fix_99 : decode cX6_fix 99 = .ok (.aload_n 0, 1) := by decide +kernel
theorem dX6_fix_100 : decode cX6_fix 100 = .ok (.getfield 23, 3) := by decide +kernel
theorem dX6_fix_103 : decode cX6_fix 103 = .ok (.if_icmp .le 10, 3) := by decide +kernel
theorem dX6_fix_106 : decode cX6_fix 106 = .ok (.aload_n 0, 1) := by decide +kernel
theorem dX6_fix_107 : decode cX6_fix 107 = .ok (.getfield 23, 3) := by decide +kernel
theorem dX6_fix_110 : decode cX6_fix 110 = .ok (.goto 4, 3) := by decide +kernel
theorem dX6_fix_113 : decode cX6_fix 113 = .ok (.iload_n 2, 1) := by decide +kernel
theorem dX6_fix_114 : decode cX6_fix 114 = .ok (.iastore, 1) := by decide +kernel
theorem dX6_fix_115 : decode cX6_fix 115 = .ok (.iinc 1 1, 3) := by decide +kernel
theorem dX6_fix_118 : decode cX6_fix 118 = .ok (.goto (-90), 3) := by decide +kernel
theorem dX6_fix_121 : decode cX6_fix 121 = .ok (.return_, 1) := by decide +kernel
theorem dX6_about5_0 : decode cX6_about5 0 = .ok (.iconst 0, 1) := by decide +kernel
theorem dX6_about5_1 : decode cX6_about5 1 = .ok (.istore_n 2, 1) := by decide +kernel
theorem dX6_about5_2 : decode cX6_about5 2 = .ok (.iconst 0, 1) := by decide +kernel
theorem dX6_about5_3 : decode cX6_about5 3 = .ok (.istore_n 3, 1) := by decide +kernel
theorem dX6_about5_4 : decode cX6_about5 4 = .ok (.iload_n 3, 1) := by decide +kernel
theorem dX6_about5_5 : decode cX6_about5 5 = .ok (.bipush 10, 2) := by decide +kernel
theorem dX6_about5_7 : decode cX6_about5 7 = .ok (.if_icmp .ge 23, 3) := by decide +kernel
theorem dX6_about5_10 : decode cX6_about5 10 = .ok (.iload_n 2, 1) := by decide +kernel
theorem dX6_about5_11 : decode cX6_about5 11 = .ok (.aload_n 0, 1) := by decide +kernel
theorem dX6_about5_12 : decode cX6_about5 12 = .ok (.getfield 46, 3) := by decide +kernel
theorem dX6_about5_15 : decode cX6_about5 15 = .ok (.bipush 10, 2) := by decide +kernel
theorem dX6_about5_17 : decode cX6_about5 17 = .ok (.iload_n 1, 1) := by decide +kernel
theorem dX6_about5_18 : decode cX6_about5 18 = .ok (.imul, 1) := by decide +kernel
theorem dX6_about5_19 : decode cX6_about5 19 = .ok (.iload_n 3, 1) := by decide +kernel
theorem dX6_about5_20 : decode cX6_about5 20 = .ok (.iadd, 1) := by decide +kernel
theorem dX6_about5_21 : decode cX6_about5 21 = .ok (.iaload, 1) := by decide +kernel
theorem dX6_about5_22 : decode cX6_about5 22 = .ok (.iadd, 1) := by decide +kernel
theorem dX6_about5_23 : decode cX6_about5 23 = .ok (.istore_n 2, 1) := by decide +kernel
theorem dX6_about5_24 : decode cX6_about5 24 = .ok (.iinc 3 1, 3) := by decide +kernel
theorem dX6_about5_27 : decode cX6_about5 27 = .ok (.goto (-23), 3) := by decide +kernel
theorem dX6_about5_30 : decode cX6_about5 30 = .ok (.iload_n 2, 1) := by decide +kernel
theorem dX6_about5_31 : decode cX6_about5 31 = .ok (.ireturn, 1) := by decide +kernel
theorem dX6_advance_0 : decode cX6_advance 0 = .ok (.aload_n 0, 1) := by decide +kernel
theorem dX6_advance_1 : decode cX6_advance 1 = .ok (.iconst 0, 1) := by decide +kernel
theorem dX6_advance_2 : decode cX6_advance 2 = .ok (.putfield 1, 3) := by decide +kernel
theorem dX6_advance_5 : decode cX6_advance 5 = .ok (.iload_n 1, 1) := by decide +kernel
theorem dX6_advance_6 : decode cX6_advance 6 = .ok (.i2l, 1) := by decide +kernel
theorem dX6_advance_7 : decode cX6_advance 7 = .ok (.lconst 1, 1) := by decide +kernel
theorem dX6_advance_8 : decode cX6_advance 8 = .ok (.ldc2_w 101, 3) := by decide +kernel
theorem dX6_advance_11 : decode cX6_advance 11 = .ok (.invokestatic 76, 3) := by decide +kernel
theorem dX6_advance_14 : decode cX6_advance 14 = .ok (.ifCond .ne 5, 3) := by decide +kernel
theorem dX6_advance_17 : decode cX6_advance 17 = .ok (.iconst (-1), 1) := by decide +kernel
theorem dX6_advance_18 : decode cX6_advance 18 = .ok (.ireturn, 1) := by decide +kernel
theorem dX6_advance_19 : decode cX6_advance 19 = .ok (.aload_n 0, 1) := by decide +kernel
theorem dX6_advance_20 : decode cX6_advance 20 = .ok (.getfield 83, 3) := by decide +kernel
theorem dX6_advance_23 : decode cX6_advance 23 = .ok (.iload_n 1, 1) := by decide +kernel
theorem dX6_advance_24 : decode cX6_advance 24 = .ok (.iadd, 1) := by decide +kernel
theorem dX6_advance_25 : decode cX6_advance 25 = .ok (.bipush 100, 2) := by decide +kernel
theorem dX6_advance_27 : decode cX6_advance 27 = .ok (.if_icmp .le 6, 3) := by decide +kernel
theorem dX6_advance_30 : decode cX6_advance 30 = .ok (.bipush (-3), 2) := by decide +kernel
theorem dX6_advance_32 : decode cX6_advance 32 = .ok (.ireturn, 1) := by decide +kernel
theorem dX6_advance_33 : decode cX6_advance 33 = .ok (.iconst 0, 1) := by decide +kernel
theorem dX6_advance_34 : decode cX6_advance 34 = .ok (.istore_n 2, 1) := by decide +kernel
theorem dX6_advance_35 : decode cX6_advance 35 = .ok (.iload_n 2, 1) := by decide +kernel
theorem dX6_advance_36 : decode cX6_advance 36 = .ok (.iload_n 1, 1) := by decide +kernel
theorem dX6_advance_37 : decode cX6_advance 37 = .ok (.if_icmp .ge 168, 3) := by decide +kernel
theorem dX6_advance_40 : decode cX6_advance 40 = .ok (.aload_n 0, 1) := by decide +kernel
theorem dX6_advance_41 : decode cX6_advance 41 = .ok (.aload_n 0, 1) := by decide +kernel
theorem dX6_advance_42 : decode cX6_advance 42 = .ok (.getfield 83, 3) := by decide +kernel
theorem dX6_advance_45 : decode cX6_advance 45 = .ok (.invokevirtual 120, 3) := by decide +kernel
theorem dX6_advance_48 : decode cX6_advance 48 = .ok (.aload_n 0, 1) := by decide +kernel
theorem dX6_advance_49 : decode cX6_advance 49 = .ok (.dup, 1) := by decide +kernel
theorem dX6_advance_50 : decode cX6_advance 50 = .ok (.getfield 83, 3) := by decide +kernel
theorem dX6_advance_53 : decode cX6_advance 53 = .ok (.iconst 1, 1) := by decide +kernel
theorem dX6_advance_54 : decode cX6_advance 54 = .ok (.iadd, 1) := by decide +kernel
theorem dX6_advance_55 : decode cX6_advance 55 = .ok (.putfield 83, 3) := by decide +kernel
theorem dX6_advance_58 : decode cX6_advance 58 = .ok (.iconst 0, 1) := by decide +kernel
theorem dX6_advance_59 : decode cX6_advance 59 = .ok (.istore_n 3, 1) := by decide +kernel
theorem dX6_advance_60 : decode cX6_advance 60 = .ok (.iload_n 3, 1) := by decide +kernel
theorem dX6_advance_61 : decode cX6_advance 61 = .ok (.bipush 10, 2) := by decide +kernel
theorem dX6_advance_63 : decode cX6_advance 63 = .ok (.if_icmp .ge 51, 3) := by decide +kernel
theorem dX6_advance_66 : decode cX6_advance 66 = .ok (.aload_n 0, 1) := by decide +kernel
theorem dX6_advance_67 : decode cX6_advance 67 = .ok (.getfield 26, 3) := by decide +kernel
theorem dX6_advance_70 : decode cX6_advance 70 = .ok (.iload_n 3, 1) := by decide +kernel
theorem dX6_advance_71 : decode cX6_advance 71 = .ok (.aload_n 0, 1) := by decide +kernel
theorem dX6_advance_72 : decode cX6_advance 72 = .ok (.getfield 26, 3) := by decide +kernel
theorem dX6_advance_75 : decode cX6_advance 75 = .ok (.iload_n 3, 1) := by decide +kernel
theorem dX6_advance_76 : decode cX6_advance 76 = .ok (.iaload, 1) := by decide +kernel
theorem dX6_advance_77 : decode cX6_advance 77 = .ok (.aload_n 0, 1) := by decide +kernel
theorem dX6_advance_78 : decode cX6_advance 78 = .ok (.getfield 52, 3) := by decide +kernel
theorem dX6_advance_81 : decode cX6_advance 81 = .ok (.bipush 110, 2) := by decide +kernel
theorem dX6_advance_83 : decode cX6_advance 83 = .ok (.iload_n 3, 1) := by decide +kernel
theorem dX6_advance_84 : decode cX6_advance 84 = .ok (.imul, 1) := by decide +kernel
theorem dX6_advance_85 : decode cX6_advance 85 = .ok (.aload_n 0, 1) := by decide +kernel
theorem dX6_advance_86 : decode cX6_advance 86 = .ok (.getfield 83, 3) := by decide +kernel
theorem dX6_advance_89 : decode cX6_advance 89 = .ok (.iadd, 1) := by decide +kernel
theorem dX6_advance_90 : decode cX6_advance 90 = .ok (.iaload, 1) := by decide +kernel
theorem dX6_advance_91 : decode cX6_advance 91 = .ok (.iadd, 1) := by decide +kernel
theorem dX6_advance_92 : decode cX6_advance 92 = .ok (.iastore, 1) := by decide +kernel
theorem dX6_advance_93 : decode cX6_advance 93 = .ok (.aload_n 0, 1) := by decide +kernel
theorem dX6_advance_94 : decode cX6_advance 94 = .ok (.getfield 52, 3) := by decide +kernel
theorem dX6_advance_97 : decode cX6_advance 97 = .ok (.bipush 110, 2) := by decide +kernel
theorem dX6_advance_99 : decode cX6_advance 99 = .ok (.iload_n 3, 1) := by decide +kernel
theorem dX6_advance_100 : decode cX6_advance 100 = .ok (.imul, 1) := by decide +kernel
theorem dX6_advance_101 : decode cX6_advance 101 = .ok (.aload_n 0, 1) := by decide +kernel
theorem dX6_advance_102 : decode cX6_advance 102 = .ok (.getfield 83, 3) := by decide +kernel
theorem dX6_advance_105 : decode cX6_advance 105 = .ok (.iadd, 1) := by decide +kernel
theorem dX6_advance_106 : decode cX6_advance 106 = .ok (.iconst 0, 1) := by decide +kernel
theorem dX6_advance_107 : decode cX6_advance 107 = .ok (.iastore, 1) := by decide +kernel
theorem dX6_advance_108 : decode cX6_advance 108 = .ok (.iinc 3 1, 3) := by decide +kernel
theorem dX6_advance_111 : decode cX6_advance 111 = .ok (.goto (-51), 3) := by decide +kernel
theorem dX6_advance_114 : decode cX6_advance 114 = .ok (.iconst 0, 1) := by decide +kernel
theorem dX6_advance_115 : decode cX6_advance 115 = .ok (.istore_n 3, 1) := by decide +kernel
theorem dX6_advance_116 : decode cX6_advance 116 = .ok (.iload_n 3, 1) := by decide +kernel
theorem dX6_advance_117 : decode cX6_advance 117 = .ok (.aload_n 0, 1) := by decide +kernel
theorem dX6_advance_118 : decode cX6_advance 118 = .ok (.getfield 80, 3) := by decide +kernel
theorem dX6_advance_121 : decode cX6_advance 121 = .ok (.if_icmp .ge 74, 3) := by decide +kernel
theorem dX6_advance_124 : decode cX6_advance 124 = .ok (.aload_n 0, 1) := by decide +kernel
theorem dX6_advance_125 : decode cX6_advance 125 = .ok (.getfield 36, 3) := by decide +kernel
theorem dX6_advance_128 : decode cX6_advance 128 = .ok (.iload_n 3, 1) := by decide +kernel
theorem dX6_advance_129 : decode cX6_advance 129 = .ok (.iaload, 1) := by decide +kernel
theorem dX6_advance_130 : decode cX6_advance 130 = .ok (.iconst 3, 1) := by decide +kernel
theorem dX6_advance_131 : decode cX6_advance 131 = .ok (.if_icmp .ne 20, 3) := by decide +kernel
theorem dX6_advance_134 : decode cX6_advance 134 = .ok (.aload_n 0, 1) := by decide +kernel
theorem dX6_advance_135 : decode cX6_advance 135 = .ok (.getfield 39, 3) := by decide +kernel
theorem dX6_advance_138 : decode cX6_advance 138 = .ok (.iload_n 3, 1) := by decide +kernel
theorem dX6_advance_139 : decode cX6_advance 139 = .ok (.iaload, 1) := by decide +kernel
theorem dX6_advance_140 : decode cX6_advance 140 = .ok (.aload_n 0, 1) := by decide +kernel
theorem dX6_advance_141 : decode cX6_advance 141 = .ok (.getfield 83, 3) := by decide +kernel
theorem dX6_advance_144 : decode cX6_advance 144 = .ok (.if_icmp .ne 7, 3) := by decide +kernel
theorem dX6_advance_147 : decode cX6_advance 147 = .ok (.iconst 1, 1) := by decide +kernel
theorem dX6_advance_148 : decode cX6_advance 148 = .ok (.goto 4, 3) := by decide +kernel
theorem dX6_advance_151 : decode cX6_advance 151 = .ok (.iconst 0, 1) := by decide +kernel
theorem dX6_advance_152 : decode cX6_advance 152 = .ok (.istore 4, 2) := by decide +kernel
theorem dX6_advance_154 : decode cX6_advance 154 = .ok (.aload_n 0, 1) := by decide +kernel
theorem dX6_advance_155 : decode cX6_advance 155 = .ok (.getfield 36, 3) := by decide +kernel
theorem dX6_advance_158 : decode cX6_advance 158 = .ok (.iload_n 3, 1) := by decide +kernel
theorem dX6_advance_159 : decode cX6_advance 159 = .ok (.iload 4, 2) := by decide +kernel
theorem dX6_advance_161 : decode cX6_advance 161 = .ok (.ifCond .eq 7, 3) := by decide +kernel
theorem dX6_advance_164 : decode cX6_advance 164 = .ok (.iconst 0, 1) := by decide +kernel
theorem dX6_advance_165 : decode cX6_advance 165 = .ok (.goto 23, 3) := by decide +kernel
theorem dX6_advance_168 : decode cX6_advance 168 = .ok (.aload_n 0, 1) := by decide +kernel
theorem dX6_advance_169 : decode cX6_advance 169 = .ok (.getfield 36, 3) := by decide +kernel
theorem dX6_advance_172 : decode cX6_advance 172 = .ok (.iload_n 3, 1) := by decide +kernel
theorem dX6_advance_173 : decode cX6_advance 173 = .ok (.iaload, 1) := by decide +kernel
theorem dX6_advance_174 : decode cX6_advance 174 = .ok (.iconst 1, 1) := by decide +kernel
theorem dX6_advance_175 : decode cX6_advance 175 = .ok (.if_icmp .ne 7, 3) := by decide +kernel
theorem dX6_advance_178 : decode cX6_advance 178 = .ok (.iconst 2, 1) := by decide +kernel
theorem dX6_advance_179 : decode cX6_advance 179 = .ok (.goto 9, 3) := by decide +kernel
theorem dX6_advance_182 : decode cX6_advance 182 = .ok (.aload_n 0, 1) := by decide +kernel
theorem dX6_advance_183 : decode cX6_advance 183 = .ok (.getfield 36, 3) := by decide +kernel
theorem dX6_advance_186 : decode cX6_advance 186 = .ok (.iload_n 3, 1) := by decide +kernel
theorem dX6_advance_187 : decode cX6_advance 187 = .ok (.iaload, 1) := by decide +kernel
theorem dX6_advance_188 : decode cX6_advance 188 = .ok (.iastore, 1) := by decide +kernel
theorem dX6_advance_189 : decode cX6_advance 189 = .ok (.iinc 3 1, 3) := by decide +kernel
theorem dX6_advance_192 : decode cX6_advance 192 = .ok (.goto (-76), 3) := by decide +kernel
theorem dX6_advance_195 : decode cX6_advance 195 = .ok (.aload_n 0, 1) := by decide +kernel
theorem dX6_advance_196 : decode cX6_advance 196 = .ok (.invokevirtual 124, 3) := by decide +kernel
theorem dX6_advance_199 : decode cX6_advance 199 = .ok (.iinc 2 1, 3) := by decide +kernel
theorem dX6_advance_202 : decode cX6_advance 202 = .ok (.goto (-167), 3) := by decide +kernel
theorem dX6_advance_205 : decode cX6_advance 205 = .ok (.aload_n 0, 1) := by decide +kernel
theorem dX6_advance_206 : decode cX6_advance 206 = .ok (.getfield 83, 3) := by decide +kernel
theorem dX6_advance_209 : decode cX6_advance 209 = .ok (.ireturn, 1) := by decide +kernel
theorem dX6_balance_0 : decode cX6_balance 0 = .ok (.aload_n 0, 1) := by decide +kernel
theorem dX6_balance_1 : decode cX6_balance 1 = .ok (.iconst 0, 1) := by decide +kernel
theorem dX6_balance_2 : decode cX6_balance 2 = .ok (.putfield 1, 3) := by decide +kernel
theorem dX6_balance_5 : decode cX6_balance 5 = .ok (.iload_n 1, 1) := by decide +kernel
theorem dX6_balance_6 : decode cX6_balance 6 = .ok (.invokestatic 92, 3) := by decide +kernel
theorem dX6_balance_9 : decode cX6_balance 9 = .ok (.ifCond .eq 7, 3) := by decide +kernel
theorem dX6_balance_12 : decode cX6_balance 12 = .ok (.iconst (-1), 1) := by decide +kernel
theorem dX6_balance_13 : decode cX6_balance 13 = .ok (.goto 9, 3) := by decide +kernel
theorem dX6_balance_16 : decode cX6_balance 16 = .ok (.aload_n 0, 1) := by decide +kernel
theorem dX6_balance_17 : decode cX6_balance 17 = .ok (.getfield 26, 3) := by decide +kernel
theorem dX6_balance_20 : decode cX6_balance 20 = .ok (.iload_n 1, 1) := by decide +kernel
theorem dX6_balance_21 : decode cX6_balance 21 = .ok (.iaload, 1) := by decide +kernel
theorem dX6_balance_22 : decode cX6_balance 22 = .ok (.ireturn, 1) := by decide +kernel
theorem dX6_staked_0 : decode cX6_staked 0 = .ok (.aload_n 0, 1) := by decide +kernel
theorem dX6_staked_1 : decode cX6_staked 1 = .ok (.iconst 0, 1) := by decide +kernel
theorem dX6_staked_2 : decode cX6_staked 2 = .ok (.putfield 1, 3) := by decide +kernel
theorem dX6_staked_5 : decode cX6_staked 5 = .ok (.iload_n 1, 1) := by decide +kernel
theorem dX6_staked_6 : decode cX6_staked 6 = .ok (.invokestatic 92, 3) := by decide +kernel
theorem dX6_staked_9 : decode cX6_staked 9 = .ok (.ifCond .ne 16, 3) := by decide +kernel
theorem dX6_staked_12 : decode cX6_staked 12 = .ok (.iload_n 2, 1) := by decide +kernel
theorem dX6_staked_13 : decode cX6_staked 13 = .ok (.iconst (-1), 1) := by decide +kernel
theorem dX6_staked_14 : decode cX6_staked 14 = .ok (.if_icmp .eq 13, 3) := by decide +kernel
theorem dX6_staked_17 : decode cX6_staked 17 = .ok (.aload_n 0, 1) := by decide +kernel
theorem dX6_staked_18 : decode cX6_staked 18 = .ok (.iload_n 2, 1) := by decide +kernel
theorem dX6_staked_19 : decode cX6_staked 19 = .ok (.invokevirtual 103, 3) := by decide +kernel
theorem dX6_staked_22 : decode cX6_staked 22 = .ok (.ifCond .eq 5, 3) := by decide +kernel
theorem dX6_staked_25 : decode cX6_staked 25 = .ok (.iconst (-1), 1) := by decide +kernel
theorem dX6_staked_26 : decode cX6_staked 26 = .ok (.ireturn, 1) := by decide +kernel
theorem dX6_staked_27 : decode cX6_staked 27 = .ok (.iconst 0, 1) := by decide +kernel
theorem dX6_staked_28 : decode cX6_staked 28 = .ok (.istore_n 3, 1) := by decide +kernel
theorem dX6_staked_29 : decode cX6_staked 29 = .ok (.iconst 0, 1) := by decide +kernel
theorem dX6_staked_30 : decode cX6_staked 30 = .ok (.istore 4, 2) := by decide +kernel
theorem dX6_staked_32 : decode cX6_staked 32 = .ok (.iload 4, 2) := by decide +kernel
theorem dX6_staked_34 : decode cX6_staked 34 = .ok (.aload_n 0, 1) := by decide +kernel
theorem dX6_staked_35 : decode cX6_staked 35 = .ok (.getfield 80, 3) := by decide +kernel
theorem dX6_staked_38 : decode cX6_staked 38 = .ok (.if_icmp .ge 39, 3) := by decide +kernel
theorem dX6_staked_41 : decode cX6_staked 41 = .ok (.iload_n 2, 1) := by decide +kernel
theorem dX6_staked_42 : decode cX6_staked 42 = .ok (.iconst (-1), 1) := by decide +kernel
theorem dX6_staked_43 : decode cX6_staked 43 = .ok (.if_icmp .eq 9, 3) := by decide +kernel
theorem dX6_staked_46 : decode cX6_staked 46 = .ok (.iload_n 2, 1) := by decide +kernel
theorem dX6_staked_47 : decode cX6_staked 47 = .ok (.iload 4, 2) := by decide +kernel
theorem dX6_staked_49 : decode cX6_staked 49 = .ok (.if_icmp .ne 20, 3) := by decide +kernel
theorem dX6_staked_52 : decode cX6_staked 52 = .ok (.iload_n 3, 1) := by decide +kernel
theorem dX6_staked_53 : decode cX6_staked 53 = .ok (.aload_n 0, 1) := by decide +kernel
theorem dX6_staked_54 : decode cX6_staked 54 = .ok (.getfield 46, 3) := by decide +kernel
theorem dX6_staked_57 : decode cX6_staked 57 = .ok (.bipush 10, 2) := by decide +kernel
theorem dX6_staked_59 : decode cX6_staked 59 = .ok (.iload 4, 2) := by decide +kernel
theorem dX6_staked_61 : decode cX6_staked 61 = .ok (.imul, 1) := by decide +kernel
theorem dX6_staked_62 : decode cX6_staked 62 = .ok (.iload_n 1, 1) := by decide +kernel
theorem dX6_staked_63 : decode cX6_staked 63 = .ok (.iadd, 1) := by decide +kernel
theorem dX6_staked_64 : decode cX6_staked 64 = .ok (.iaload, 1) := by decide +kernel
theorem dX6_staked_65 : decode cX6_staked 65 = .ok (.iadd, 1) := by decide +kernel
theorem dX6_staked_66 : decode cX6_staked 66 = .ok (.goto 4, 3) := by decide +kernel
theorem dX6_staked_69 : decode cX6_staked 69 = .ok (.iload_n 3, 1) := by decide +kernel
theorem dX6_staked_70 : decode cX6_staked 70 = .ok (.istore_n 3, 1) := by decide +kernel
theorem dX6_staked_71 : decode cX6_staked 71 = .ok (.iinc 4 1, 3) := by decide +kernel
theorem dX6_staked_74 : decode cX6_staked 74 = .ok (.goto (-42), 3) := by decide +kernel
theorem dX6_staked_77 : decode cX6_staked 77 = .ok (.iload_n 3, 1) := by decide +kernel
theorem dX6_staked_78 : decode cX6_staked 78 = .ok (.ireturn, 1) := by decide +kernel
theorem dX6_drawnOf_0 : decode cX6_drawnOf 0 = .ok (.iconst 0, 1) := by decide +kernel
theorem dX6_drawnOf_1 : decode cX6_drawnOf 1 = .ok (.istore_n 2, 1) := by decide +kernel
theorem dX6_drawnOf_2 : decode cX6_drawnOf 2 = .ok (.iconst 0, 1) := by decide +kernel
theorem dX6_drawnOf_3 : decode cX6_drawnOf 3 = .ok (.istore_n 3, 1) := by decide +kernel
theorem dX6_drawnOf_4 : decode cX6_drawnOf 4 = .ok (.iload_n 3, 1) := by decide +kernel
theorem dX6_drawnOf_5 : decode cX6_drawnOf 5 = .ok (.bipush 110, 2) := by decide +kernel
theorem dX6_drawnOf_7 : decode cX6_drawnOf 7 = .ok (.if_icmp .ge 23, 3) := by decide +kernel
theorem dX6_drawnOf_10 : decode cX6_drawnOf 10 = .ok (.iload_n 2, 1) := by decide +kernel
theorem dX6_drawnOf_11 : decode cX6_drawnOf 11 = .ok (.aload_n 0, 1) := by decide +kernel
theorem dX6_drawnOf_12 : decode cX6_drawnOf 12 = .ok (.getfield 52, 3) := by decide +kernel
theorem dX6_drawnOf_15 : decode cX6_drawnOf 15 = .ok (.bipush 110, 2) := by decide +kernel
theorem dX6_drawnOf_17 : decode cX6_drawnOf 17 = .ok (.iload_n 1, 1) := by decide +kernel
theorem dX6_drawnOf_18 : decode cX6_drawnOf 18 = .ok (.imul, 1) := by decide +kernel
theorem dX6_drawnOf_19 : decode cX6_drawnOf 19 = .ok (.iload_n 3, 1) := by decide +kernel
theorem dX6_drawnOf_20 : decode cX6_drawnOf 20 = .ok (.iadd, 1) := by decide +kernel
theorem dX6_drawnOf_21 : decode cX6_drawnOf 21 = .ok (.iaload, 1) := by decide +kernel
theorem dX6_drawnOf_22 : decode cX6_drawnOf 22 = .ok (.iadd, 1) := by decide +kernel
theorem dX6_drawnOf_23 : decode cX6_drawnOf 23 = .ok (.istore_n 2, 1) := by decide +kernel
theorem dX6_drawnOf_24 : decode cX6_drawnOf 24 = .ok (.iinc 3 1, 3) := by decide +kernel
theorem dX6_drawnOf_27 : decode cX6_drawnOf 27 = .ok (.goto (-23), 3) := by decide +kernel
theorem dX6_drawnOf_30 : decode cX6_drawnOf 30 = .ok (.iload_n 2, 1) := by decide +kernel
theorem dX6_drawnOf_31 : decode cX6_drawnOf 31 = .ok (.ireturn, 1) := by decide +kernel
theorem dX6_drawn_0 : decode cX6_drawn 0 = .ok (.aload_n 0, 1) := by decide +kernel
theorem dX6_drawn_1 : decode cX6_drawn 1 = .ok (.iconst 0, 1) := by decide +kernel
theorem dX6_drawn_2 : decode cX6_drawn 2 = .ok (.putfield 1, 3) := by decide +kernel
theorem dX6_drawn_5 : decode cX6_drawn 5 = .ok (.iload_n 1, 1) := by decide +kernel
theorem dX6_drawn_6 : decode cX6_drawn 6 = .ok (.invokestatic 92, 3) := by decide +kernel
theorem dX6_drawn_9 : decode cX6_drawn 9 = .ok (.ifCond .ne 20, 3) := by decide +kernel
theorem dX6_drawn_12 : decode cX6_drawn 12 = .ok (.iload_n 2, 1) := by decide +kernel
theorem dX6_drawn_13 : decode cX6_drawn 13 = .ok (.iconst (-1), 1) := by decide +kernel
theorem dX6_drawn_14 : decode cX6_drawn 14 = .ok (.if_icmp .eq 17, 3) := by decide +kernel
theorem dX6_drawn_17 : decode cX6_drawn 17 = .ok (.iload_n 2, 1) := by decide +kernel
theorem dX6_drawn_18 : decode cX6_drawn 18 = .ok (.i2l, 1) := by decide +kernel
theorem dX6_drawn_19 : decode cX6_drawn 19 = .ok (.lconst 1, 1) := by decide +kernel
theorem dX6_drawn_20 : decode cX6_drawn 20 = .ok (.ldc2_w 127, 3) := by decide +kernel
theorem dX6_drawn_23 : decode cX6_drawn 23 = .ok (.invokestatic 76, 3) := by decide +kernel
theorem dX6_drawn_26 : decode cX6_drawn 26 = .ok (.ifCond .ne 5, 3) := by decide +kernel
theorem dX6_drawn_29 : decode cX6_drawn 29 = .ok (.iconst (-1), 1) := by decide +kernel
theorem dX6_drawn_30 : decode cX6_drawn 30 = .ok (.ireturn, 1) := by decide +kernel
theorem dX6_drawn_31 : decode cX6_drawn 31 = .ok (.iload_n 2, 1) := by decide +kernel
theorem dX6_drawn_32 : decode cX6_drawn 32 = .ok (.iconst (-1), 1) := by decide +kernel
theorem dX6_drawn_33 : decode cX6_drawn 33 = .ok (.if_icmp .ne 11, 3) := by decide +kernel
theorem dX6_drawn_36 : decode cX6_drawn 36 = .ok (.aload_n 0, 1) := by decide +kernel
theorem dX6_drawn_37 : decode cX6_drawn 37 = .ok (.iload_n 1, 1) := by decide +kernel
theorem dX6_drawn_38 : decode cX6_drawn 38 = .ok (.invokevirtual 129, 3) := by decide +kernel
theorem dX6_drawn_41 : decode cX6_drawn 41 = .ok (.goto 14, 3) := by decide +kernel
theorem dX6_drawn_44 : decode cX6_drawn 44 = .ok (.aload_n 0, 1) := by decide +kernel
theorem dX6_drawn_45 : decode cX6_drawn 45 = .ok (.getfield 52, 3) := by decide +kernel
theorem dX6_drawn_48 : decode cX6_drawn 48 = .ok (.bipush 110, 2) := by decide +kernel
theorem dX6_drawn_50 : decode cX6_drawn 50 = .ok (.iload_n 1, 1) := by decide +kernel
theorem dX6_drawn_51 : decode cX6_drawn 51 = .ok (.imul, 1) := by decide +kernel
theorem dX6_drawn_52 : decode cX6_drawn 52 = .ok (.iload_n 2, 1) := by decide +kernel
theorem dX6_drawn_53 : decode cX6_drawn 53 = .ok (.iadd, 1) := by decide +kernel
theorem dX6_drawn_54 : decode cX6_drawn 54 = .ok (.iaload, 1) := by decide +kernel
theorem dX6_drawn_55 : decode cX6_drawn 55 = .ok (.ireturn, 1) := by decide +kernel
theorem dX6_about_0 : decode cX6_about 0 = .ok (.aload_n 0, 1) := by decide +kernel
theorem dX6_about_1 : decode cX6_about 1 = .ok (.iconst 0, 1) := by decide +kernel
theorem dX6_about_2 : decode cX6_about 2 = .ok (.putfield 1, 3) := by decide +kernel
theorem dX6_about_5 : decode cX6_about 5 = .ok (.aload_n 0, 1) := by decide +kernel
theorem dX6_about_6 : decode cX6_about 6 = .ok (.iload_n 1, 1) := by decide +kernel
theorem dX6_about_7 : decode cX6_about 7 = .ok (.invokevirtual 103, 3) := by decide +kernel
theorem dX6_about_10 : decode cX6_about 10 = .ok (.ifCond .eq 5, 3) := by decide +kernel
theorem dX6_about_13 : decode cX6_about 13 = .ok (.iconst (-1), 1) := by decide +kernel
theorem dX6_about_14 : decode cX6_about 14 = .ok (.ireturn, 1) := by decide +kernel
theorem dX6_about_15 : decode cX6_about 15 = .ok (.iload_n 2, 1) := by decide +kernel
theorem dX6_about_16 : decode cX6_about 16 = .ok (.tableswitch 104 0 5 #[40, 47, 62, 84, 91, 98], 40) := by decide +kernel
theorem dX6_about_56 : decode cX6_about 56 = .ok (.aload_n 0, 1) := by decide +kernel
theorem dX6_about_57 : decode cX6_about 57 = .ok (.getfield 36, 3) := by decide +kernel
theorem dX6_about_60 : decode cX6_about 60 = .ok (.iload_n 1, 1) := by decide +kernel
theorem dX6_about_61 : decode cX6_about 61 = .ok (.iaload, 1) := by decide +kernel
theorem dX6_about_62 : decode cX6_about 62 = .ok (.ireturn, 1) := by decide +kernel
theorem dX6_about_63 : decode cX6_about 63 = .ok (.aload_n 0, 1) := by decide +kernel
theorem dX6_about_64 : decode cX6_about 64 = .ok (.getfield 42, 3) := by decide +kernel
theorem dX6_about_67 : decode cX6_about 67 = .ok (.iload_n 1, 1) := by decide +kernel
theorem dX6_about_68 : decode cX6_about 68 = .ok (.baload, 1) := by decide +kernel
theorem dX6_about_69 : decode cX6_about 69 = .ok (.ifCond .eq 7, 3) := by decide +kernel
theorem dX6_about_72 : decode cX6_about 72 = .ok (.iconst 1, 1) := by decide +kernel
theorem dX6_about_73 : decode cX6_about 73 = .ok (.goto 4, 3) := by decide +kernel
theorem dX6_about_76 : decode cX6_about 76 = .ok (.iconst 0, 1) := by decide +kernel
theorem dX6_about_77 : decode cX6_about 77 = .ok (.ireturn, 1) := by decide +kernel
theorem dX6_about_78 : decode cX6_about 78 = .ok (.aload_n 0, 1) := by decide +kernel
theorem dX6_about_79 : decode cX6_about 79 = .ok (.getfield 36, 3) := by decide +kernel
theorem dX6_about_82 : decode cX6_about 82 = .ok (.iload_n 1, 1) := by decide +kernel
theorem dX6_about_83 : decode cX6_about 83 = .ok (.iaload, 1) := by decide +kernel
theorem dX6_about_84 : decode cX6_about 84 = .ok (.iconst 3, 1) := by decide +kernel
theorem dX6_about_85 : decode cX6_about 85 = .ok (.if_icmp .ne 12, 3) := by decide +kernel
theorem dX6_about_88 : decode cX6_about 88 = .ok (.aload_n 0, 1) := by decide +kernel
theorem dX6_about_89 : decode cX6_about 89 = .ok (.getfield 39, 3) := by decide +kernel
theorem dX6_about_92 : decode cX6_about 92 = .ok (.iload_n 1, 1) := by decide +kernel
theorem dX6_about_93 : decode cX6_about 93 = .ok (.iaload, 1) := by decide +kernel
theorem dX6_about_94 : decode cX6_about 94 = .ok (.goto 5, 3) := by decide +kernel
theorem dX6_about_97 : decode cX6_about 97 = .ok (.bipush (-2), 2) := by decide +kernel
theorem dX6_about_99 : decode cX6_about 99 = .ok (.ireturn, 1) := by decide +kernel
theorem dX6_about_100 : decode cX6_about 100 = .ok (.aload_n 0, 1) := by decide +kernel
theorem dX6_about_101 : decode cX6_about 101 = .ok (.getfield 30, 3) := by decide +kernel
theorem dX6_about_104 : decode cX6_about 104 = .ok (.iload_n 1, 1) := by decide +kernel
theorem dX6_about_105 : decode cX6_about 105 = .ok (.iaload, 1) := by decide +kernel
theorem dX6_about_106 : decode cX6_about 106 = .ok (.ireturn, 1) := by decide +kernel
theorem dX6_about_107 : decode cX6_about 107 = .ok (.aload_n 0, 1) := by decide +kernel
theorem dX6_about_108 : decode cX6_about 108 = .ok (.getfield 33, 3) := by decide +kernel
theorem dX6_about_111 : decode cX6_about 111 = .ok (.iload_n 1, 1) := by decide +kernel
theorem dX6_about_112 : decode cX6_about 112 = .ok (.iaload, 1) := by decide +kernel
theorem dX6_about_113 : decode cX6_about 113 = .ok (.ireturn, 1) := by decide +kernel
theorem dX6_about_114 : decode cX6_about 114 = .ok (.aload_n 0, 1) := by decide +kernel
theorem dX6_about_115 : decode cX6_about 115 = .ok (.iload_n 1, 1) := by decide +kernel
theorem dX6_about_116 : decode cX6_about 116 = .ok (.invokevirtual 117, 3) := by decide +kernel
theorem dX6_about_119 : decode cX6_about 119 = .ok (.ireturn, 1) := by decide +kernel
theorem dX6_about_120 : decode cX6_about 120 = .ok (.iconst (-1), 1) := by decide +kernel
theorem dX6_about_121 : decode cX6_about 121 = .ok (.ireturn, 1) := by decide +kernel
theorem dX6_weight_0 : decode cX6_weight 0 = .ok (.aload_n 0, 1) := by decide +kernel
theorem dX6_weight_1 : decode cX6_weight 1 = .ok (.iconst 0, 1) := by decide +kernel
theorem dX6_weight_2 : decode cX6_weight 2 = .ok (.putfield 1, 3) := by decide +kernel
theorem dX6_weight_5 : decode cX6_weight 5 = .ok (.aload_n 0, 1) := by decide +kernel
theorem dX6_weight_6 : decode cX6_weight 6 = .ok (.iload_n 2, 1) := by decide +kernel
theorem dX6_weight_7 : decode cX6_weight 7 = .ok (.invokevirtual 132, 3) := by decide +kernel
theorem dX6_weight_10 : decode cX6_weight 10 = .ok (.ifCond .ne 16, 3) := by decide +kernel
theorem dX6_weight_13 : decode cX6_weight 13 = .ok (.iload_n 1, 1) := by decide +kernel
theorem dX6_weight_14 : decode cX6_weight 14 = .ok (.iconst (-1), 1) := by decide +kernel
theorem dX6_weight_15 : decode cX6_weight 15 = .ok (.if_icmp .eq 13, 3) := by decide +kernel
theorem dX6_weight_18 : decode cX6_weight 18 = .ok (.aload_n 0, 1) := by decide +kernel
theorem dX6_weight_19 : decode cX6_weight 19 = .ok (.iload_n 1, 1) := by decide +kernel
theorem dX6_weight_20 : decode cX6_weight 20 = .ok (.invokevirtual 103, 3) := by decide +kernel
theorem dX6_weight_23 : decode cX6_weight 23 = .ok (.ifCond .eq 5, 3) := by decide +kernel
theorem dX6_weight_26 : decode cX6_weight 26 = .ok (.iconst (-1), 1) := by decide +kernel
theorem dX6_weight_27 : decode cX6_weight 27 = .ok (.ireturn, 1) := by decide +kernel
theorem dX6_weight_28 : decode cX6_weight 28 = .ok (.iload_n 1, 1) := by decide +kernel
theorem dX6_weight_29 : decode cX6_weight 29 = .ok (.iconst (-1), 1) := by decide +kernel
theorem dX6_weight_30 : decode cX6_weight 30 = .ok (.if_icmp .ne 11, 3) := by decide +kernel
theorem dX6_weight_33 : decode cX6_weight 33 = .ok (.aload_n 0, 1) := by decide +kernel
theorem dX6_weight_34 : decode cX6_weight 34 = .ok (.iload_n 2, 1) := by decide +kernel
theorem dX6_weight_35 : decode cX6_weight 35 = .ok (.invokevirtual 106, 3) := by decide +kernel
theorem dX6_weight_38 : decode cX6_weight 38 = .ok (.goto 14, 3) := by decide +kernel
theorem dX6_weight_41 : decode cX6_weight 41 = .ok (.aload_n 0, 1) := by decide +kernel
theorem dX6_weight_42 : decode cX6_weight 42 = .ok (.getfield 55, 3) := by decide +kernel
theorem dX6_weight_45 : decode cX6_weight 45 = .ok (.bipush 8, 2) := by decide +kernel
theorem dX6_weight_47 : decode cX6_weight 47 = .ok (.iload_n 2, 1) := by decide +kernel
theorem dX6_weight_48 : decode cX6_weight 48 = .ok (.imul, 1) := by decide +kernel
theorem dX6_weight_49 : decode cX6_weight 49 = .ok (.iload_n 1, 1) := by decide +kernel
theorem dX6_weight_50 : decode cX6_weight 50 = .ok (.iadd, 1) := by decide +kernel
theorem dX6_weight_51 : decode cX6_weight 51 = .ok (.iaload, 1) := by decide +kernel
theorem dX6_weight_52 : decode cX6_weight 52 = .ok (.ireturn, 1) := by decide +kernel
theorem dX6_reward_0 : decode cX6_reward 0 = .ok (.aload_n 0, 1) := by decide +kernel
theorem dX6_reward_1 : decode cX6_reward 1 = .ok (.iconst 0, 1) := by decide +kernel
theorem dX6_reward_2 : decode cX6_reward 2 = .ok (.putfield 1, 3) := by decide +kernel
theorem dX6_reward_5 : decode cX6_reward 5 = .ok (.iload_n 2, 1) := by decide +kernel
theorem dX6_reward_6 : decode cX6_reward 6 = .ok (.i2l, 1) := by decide +kernel
theorem dX6_reward_7 : decode cX6_reward 7 = .ok (.lconst 0, 1) := by decide +kernel
theorem dX6_reward_8 : decode cX6_reward 8 = .ok (.aload_n 0, 1) := by decide +kernel
theorem dX6_reward_9 : decode cX6_reward 9 = .ok (.getfield 83, 3) := by decide +kernel
theorem dX6_reward_12 : decode cX6_reward 12 = .ok (.iconst 1, 1) := by decide +kernel
theorem dX6_reward_13 : decode cX6_reward 13 = .ok (.isub, 1) := by decide +kernel
theorem dX6_reward_14 : decode cX6_reward 14 = .ok (.i2l, 1) := by decide +kernel
theorem dX6_reward_15 : decode cX6_reward 15 = .ok (.invokestatic 76, 3) := by decide +kernel
theorem dX6_reward_18 : decode cX6_reward 18 = .ok (.ifCond .eq 16, 3) := by decide +kernel
theorem dX6_reward_21 : decode cX6_reward 21 = .ok (.iload_n 1, 1) := by decide +kernel
theorem dX6_reward_22 : decode cX6_reward 22 = .ok (.iconst (-1), 1) := by decide +kernel
theorem dX6_reward_23 : decode cX6_reward 23 = .ok (.if_icmp .eq 13, 3) := by decide +kernel
theorem dX6_reward_26 : decode cX6_reward 26 = .ok (.aload_n 0, 1) := by decide +kernel
theorem dX6_reward_27 : decode cX6_reward 27 = .ok (.iload_n 1, 1) := by decide +kernel
theorem dX6_reward_28 : decode cX6_reward 28 = .ok (.invokevirtual 103, 3) := by decide +kernel
theorem dX6_reward_31 : decode cX6_reward 31 = .ok (.ifCond .eq 5, 3) := by decide +kernel
theorem dX6_reward_34 : decode cX6_reward 34 = .ok (.iconst (-1), 1) := by decide +kernel
theorem dX6_reward_35 : decode cX6_reward 35 = .ok (.ireturn, 1) := by decide +kernel
theorem dX6_reward_36 : decode cX6_reward 36 = .ok (.iload_n 1, 1) := by decide +kernel
theorem dX6_reward_37 : decode cX6_reward 37 = .ok (.iconst (-1), 1) := by decide +kernel
theorem dX6_reward_38 : decode cX6_reward 38 = .ok (.if_icmp .ne 12, 3) := by decide +kernel
theorem dX6_reward_41 : decode cX6_reward 41 = .ok (.aload_n 0, 1) := by decide +kernel
theorem dX6_reward_42 : decode cX6_reward 42 = .ok (.getfield 61, 3) := by decide +kernel
theorem dX6_reward_45 : decode cX6_reward 45 = .ok (.iload_n 2, 1) := by decide +kernel
theorem dX6_reward_46 : decode cX6_reward 46 = .ok (.iaload, 1) := by decide +kernel
theorem dX6_reward_47 : decode cX6_reward 47 = .ok (.goto 14, 3) := by decide +kernel
theorem dX6_reward_50 : decode cX6_reward 50 = .ok (.aload_n 0, 1) := by decide +kernel
theorem dX6_reward_51 : decode cX6_reward 51 = .ok (.getfield 58, 3) := by decide +kernel
theorem dX6_reward_54 : decode cX6_reward 54 = .ok (.bipush 8, 2) := by decide +kernel
theorem dX6_reward_56 : decode cX6_reward 56 = .ok (.iload_n 2, 1) := by decide +kernel
theorem dX6_reward_57 : decode cX6_reward 57 = .ok (.imul, 1) := by decide +kernel
theorem dX6_reward_58 : decode cX6_reward 58 = .ok (.iload_n 1, 1) := by decide +kernel
theorem dX6_reward_59 : decode cX6_reward 59 = .ok (.iadd, 1) := by decide +kernel
theorem dX6_reward_60 : decode cX6_reward 60 = .ok (.iaload, 1) := by decide +kernel
theorem dX6_reward_61 : decode cX6_reward 61 = .ok (.ireturn, 1) := by decide +kernel
theorem dX6_noBits_0 : decode cX6_noBits 0 = .ok (.iload_n 1, 1) := by decide +kernel
theorem dX6_noBits_1 : decode cX6_noBits 1 = .ok (.i2l, 1) := by decide +kernel
theorem dX6_noBits_2 : decode cX6_noBits 2 = .ok (.lconst 0, 1) := by decide +kernel
theorem dX6_noBits_3 : decode cX6_noBits 3 = .ok (.iconst 1, 1) := by decide +kernel
theorem dX6_noBits_4 : decode cX6_noBits 4 = .ok (.aload_n 0, 1) := by decide +kernel
theorem dX6_noBits_5 : decode cX6_noBits 5 = .ok (.getfield 80, 3) := by decide +kernel
theorem dX6_noBits_8 : decode cX6_noBits 8 = .ok (.ishl, 1) := by decide +kernel
theorem dX6_noBits_9 : decode cX6_noBits 9 = .ok (.iconst 1, 1) := by decide +kernel
theorem dX6_noBits_10 : decode cX6_noBits 10 = .ok (.isub, 1) := by decide +kernel
theorem dX6_noBits_11 : decode cX6_noBits 11 = .ok (.i2l, 1) := by decide +kernel
theorem dX6_noBits_12 : decode cX6_noBits 12 = .ok (.invokestatic 76, 3) := by decide +kernel
theorem dX6_noBits_15 : decode cX6_noBits 15 = .ok (.ifCond .ne 7, 3) := by decide +kernel
theorem dX6_noBits_18 : decode cX6_noBits 18 = .ok (.iconst 1, 1) := by decide +kernel
theorem dX6_noBits_19 : decode cX6_noBits 19 = .ok (.goto 4, 3) := by decide +kernel
theorem dX6_noBits_22 : decode cX6_noBits 22 = .ok (.iconst 0, 1) := by decide +kernel
theorem dX6_noBits_23 : decode cX6_noBits 23 = .ok (.ireturn, 1) := by decide +kernel
theorem dX6_weightOf_0 : decode cX6_weightOf 0 = .ok (.iconst 0, 1) := by decide +kernel
theorem dX6_weightOf_1 : decode cX6_weightOf 1 = .ok (.istore_n 3, 1) := by decide +kernel
theorem dX6_weightOf_2 : decode cX6_weightOf 2 = .ok (.iconst 0, 1) := by decide +kernel
theorem dX6_weightOf_3 : decode cX6_weightOf 3 = .ok (.istore 4, 2) := by decide +kernel
theorem dX6_weightOf_5 : decode cX6_weightOf 5 = .ok (.iload 4, 2) := by decide +kernel
theorem dX6_weightOf_7 : decode cX6_weightOf 7 = .ok (.bipush 8, 2) := by decide +kernel
theorem dX6_weightOf_9 : decode cX6_weightOf 9 = .ok (.if_icmp .ge 38, 3) := by decide +kernel
theorem dX6_weightOf_12 : decode cX6_weightOf 12 = .ok (.iload_n 2, 1) := by decide +kernel
theorem dX6_weightOf_13 : decode cX6_weightOf 13 = .ok (.iload 4, 2) := by decide +kernel
theorem dX6_weightOf_15 : decode cX6_weightOf 15 = .ok (.ishr, 1) := by decide +kernel
theorem dX6_weightOf_16 : decode cX6_weightOf 16 = .ok (.iconst 1, 1) := by decide +kernel
theorem dX6_weightOf_17 : decode cX6_weightOf 17 = .ok (.iand, 1) := by decide +kernel
theorem dX6_weightOf_18 : decode cX6_weightOf 18 = .ok (.iconst 1, 1) := by decide +kernel
theorem dX6_weightOf_19 : decode cX6_weightOf 19 = .ok (.if_icmp .ne 20, 3) := by decide +kernel
theorem dX6_weightOf_22 : decode cX6_weightOf 22 = .ok (.iload_n 3, 1) := by decide +kernel
theorem dX6_weightOf_23 : decode cX6_weightOf 23 = .ok (.aload_n 0, 1) := by decide +kernel
theorem dX6_weightOf_24 : decode cX6_weightOf 24 = .ok (.getfield 55, 3) := by decide +kernel
theorem dX6_weightOf_27 : decode cX6_weightOf 27 = .ok (.bipush 8, 2) := by decide +kernel
theorem dX6_weightOf_29 : decode cX6_weightOf 29 = .ok (.iload_n 1, 1) := by decide +kernel
theorem dX6_weightOf_30 : decode cX6_weightOf 30 = .ok (.imul, 1) := by decide +kernel
theorem dX6_weightOf_31 : decode cX6_weightOf 31 = .ok (.iload 4, 2) := by decide +kernel
theorem dX6_weightOf_33 : decode cX6_weightOf 33 = .ok (.iadd, 1) := by decide +kernel
theorem dX6_weightOf_34 : decode cX6_weightOf 34 = .ok (.iaload, 1) := by decide +kernel
theorem dX6_weightOf_35 : decode cX6_weightOf 35 = .ok (.iadd, 1) := by decide +kernel
theorem dX6_weightOf_36 : decode cX6_weightOf 36 = .ok (.goto 4, 3) := by decide +kernel
theorem dX6_weightOf_39 : decode cX6_weightOf 39 = .ok (.iload_n 3, 1) := by decide +kernel
theorem dX6_weightOf_40 : decode cX6_weightOf 40 = .ok (.istore_n 3, 1) := by decide +kernel
theorem dX6_weightOf_41 : decode cX6_weightOf 41 = .ok (.iinc 4 1, 3) := by decide +kernel
theorem dX6_weightOf_44 : decode cX6_weightOf 44 = .ok (.goto (-39), 3) := by decide +kernel
theorem dX6_weightOf_47 : decode cX6_weightOf 47 = .ok (.iload_n 3, 1) := by decide +kernel
theorem dX6_weightOf_48 : decode cX6_weightOf 48 = .ok (.ireturn, 1) := by decide +kernel
theorem dX6_isGood_0 : decode cX6_isGood 0 = .ok (.ldc2_w 135, 3) := by decide +kernel
theorem dX6_isGood_3 : decode cX6_isGood 3 = .ok (.aload_n 0, 1) := by decide +kernel
theorem dX6_isGood_4 : decode cX6_isGood 4 = .ok (.iload_n 1, 1) := by decide +kernel
theorem dX6_isGood_5 : decode cX6_isGood 5 = .ok (.iload_n 2, 1) := by decide +kernel
theorem dX6_isGood_6 : decode cX6_isGood 6 = .ok (.invokevirtual 137, 3) := by decide +kernel
theorem dX6_isGood_9 : decode cX6_isGood 9 = .ok (.i2l, 1) := by decide +kernel
theorem dX6_isGood_10 : decode cX6_isGood 10 = .ok (.lmul, 1) := by decide +kernel
theorem dX6_isGood_11 : decode cX6_isGood 11 = .ok (.ldc2_w 141, 3) := by decide +kernel
theorem dX6_isGood_14 : decode cX6_isGood 14 = .ok (.aload_n 0, 1) := by decide +kernel
theorem dX6_isGood_15 : decode cX6_isGood 15 = .ok (.iload_n 1, 1) := by decide +kernel
theorem dX6_isGood_16 : decode cX6_isGood 16 = .ok (.invokevirtual 106, 3) := by decide +kernel
theorem dX6_isGood_19 : decode cX6_isGood 19 = .ok (.i2l, 1) := by decide +kernel
theorem dX6_isGood_20 : decode cX6_isGood 20 = .ok (.lmul, 1) := by decide +kernel
theorem dX6_isGood_21 : decode cX6_isGood 21 = .ok (.lcmp, 1) := by decide +kernel
theorem dX6_isGood_22 : decode cX6_isGood 22 = .ok (.ifCond .le 7, 3) := by decide +kernel
theorem dX6_isGood_25 : decode cX6_isGood 25 = .ok (.iconst 1, 1) := by decide +kernel
theorem dX6_isGood_26 : decode cX6_isGood 26 = .ok (.goto 4, 3) := by decide +kernel
theorem dX6_isGood_29 : decode cX6_isGood 29 = .ok (.iconst 0, 1) := by decide +kernel
theorem dX6_isGood_30 : decode cX6_isGood 30 = .ok (.ireturn, 1) := by decide +kernel
theorem dX6_may_0 : decode cX6_may 0 = .ok (.aload_n 0, 1) := by decide +kernel
theorem dX6_may_1 : decode cX6_may 1 = .ok (.iload_n 2, 1) := by decide +kernel
theorem dX6_may_2 : decode cX6_may 2 = .ok (.iload_n 3, 1) := by decide +kernel
theorem dX6_may_3 : decode cX6_may 3 = .ok (.invokevirtual 143, 3) := by decide +kernel
theorem dX6_may_6 : decode cX6_may 6 = .ok (.ifCond .eq 28, 3) := by decide +kernel
theorem dX6_may_9 : decode cX6_may 9 = .ok (.ldc2_w 135, 3) := by decide +kernel
theorem dX6_may_12 : decode cX6_may 12 = .ok (.aload_n 0, 1) := by decide +kernel
theorem dX6_may_13 : decode cX6_may 13 = .ok (.iload_n 1, 1) := by decide +kernel
theorem dX6_may_14 : decode cX6_may 14 = .ok (.iload_n 3, 1) := by decide +kernel
theorem dX6_may_15 : decode cX6_may 15 = .ok (.invokevirtual 137, 3) := by decide +kernel
theorem dX6_may_18 : decode cX6_may 18 = .ok (.i2l, 1) := by decide +kernel
theorem dX6_may_19 : decode cX6_may 19 = .ok (.lmul, 1) := by decide +kernel
theorem dX6_may_20 : decode cX6_may 20 = .ok (.aload_n 0, 1) := by decide +kernel
theorem dX6_may_21 : decode cX6_may 21 = .ok (.iload_n 1, 1) := by decide +kernel
theorem dX6_may_22 : decode cX6_may 22 = .ok (.invokevirtual 106, 3) := by decide +kernel
theorem dX6_may_25 : decode cX6_may 25 = .ok (.i2l, 1) := by decide +kernel
theorem dX6_may_26 : decode cX6_may 26 = .ok (.lcmp, 1) := by decide +kernel
theorem dX6_may_27 : decode cX6_may 27 = .ok (.ifCond .le 7, 3) := by decide +kernel
theorem dX6_may_30 : decode cX6_may 30 = .ok (.iconst 1, 1) := by decide +kernel
theorem dX6_may_31 : decode cX6_may 31 = .ok (.goto 4, 3) := by decide +kernel
theorem dX6_may_34 : decode cX6_may 34 = .ok (.iconst 0, 1) := by decide +kernel
theorem dX6_may_35 : decode cX6_may 35 = .ok (.ireturn, 1) := by decide +kernel
theorem dX6_judge_0 : decode cX6_judge 0 = .ok (.aload_n 0, 1) := by decide +kernel
theorem dX6_judge_1 : decode cX6_judge 1 = .ok (.iconst 0, 1) := by decide +kernel
theorem dX6_judge_2 : decode cX6_judge 2 = .ok (.putfield 1, 3) := by decide +kernel
theorem dX6_judge_5 : decode cX6_judge 5 = .ok (.aload_n 0, 1) := by decide +kernel
theorem dX6_judge_6 : decode cX6_judge 6 = .ok (.iload_n 1, 1) := by decide +kernel
theorem dX6_judge_7 : decode cX6_judge 7 = .ok (.invokevirtual 132, 3) := by decide +kernel
theorem dX6_judge_10 : decode cX6_judge 10 = .ok (.ifCond .ne 11, 3) := by decide +kernel
theorem dX6_judge_13 : decode cX6_judge 13 = .ok (.aload_n 0, 1) := by decide +kernel
theorem dX6_judge_14 : decode cX6_judge 14 = .ok (.iload_n 2, 1) := by decide +kernel
theorem dX6_judge_15 : decode cX6_judge 15 = .ok (.invokevirtual 147, 3) := by decide +kernel
theorem dX6_judge_18 : decode cX6_judge 18 = .ok (.ifCond .eq 7, 3) := by decide +kernel
theorem dX6_judge_21 : decode cX6_judge 21 = .ok (.iconst (-1), 1) := by decide +kernel
theorem dX6_judge_22 : decode cX6_judge 22 = .ok (.goto 17, 3) := by decide +kernel
theorem dX6_judge_25 : decode cX6_judge 25 = .ok (.aload_n 0, 1) := by decide +kernel
theorem dX6_judge_26 : decode cX6_judge 26 = .ok (.iload_n 1, 1) := by decide +kernel
theorem dX6_judge_27 : decode cX6_judge 27 = .ok (.iload_n 2, 1) := by decide +kernel
theorem dX6_judge_28 : decode cX6_judge 28 = .ok (.invokevirtual 143, 3) := by decide +kernel
theorem dX6_judge_31 : decode cX6_judge 31 = .ok (.ifCond .eq 7, 3) := by decide +kernel
theorem dX6_judge_34 : decode cX6_judge 34 = .ok (.iconst 1, 1) := by decide +kernel
theorem dX6_judge_35 : decode cX6_judge 35 = .ok (.goto 4, 3) := by decide +kernel
theorem dX6_judge_38 : decode cX6_judge 38 = .ok (.iconst 0, 1) := by decide +kernel
theorem dX6_judge_39 : decode cX6_judge 39 = .ok (.ireturn, 1) := by decide +kernel
theorem dX6_jump_0 : decode cX6_jump 0 = .ok (.aload_n 0, 1) := by decide +kernel
theorem dX6_jump_1 : decode cX6_jump 1 = .ok (.iconst 0, 1) := by decide +kernel
theorem dX6_jump_2 : decode cX6_jump 2 = .ok (.putfield 1, 3) := by decide +kernel
theorem dX6_jump_5 : decode cX6_jump 5 = .ok (.aload_n 0, 1) := by decide +kernel
theorem dX6_jump_6 : decode cX6_jump 6 = .ok (.iload_n 1, 1) := by decide +kernel
theorem dX6_jump_7 : decode cX6_jump 7 = .ok (.invokevirtual 132, 3) := by decide +kernel
theorem dX6_jump_10 : decode cX6_jump 10 = .ok (.ifCond .ne 24, 3) := by decide +kernel
theorem dX6_jump_13 : decode cX6_jump 13 = .ok (.aload_n 0, 1) := by decide +kernel
theorem dX6_jump_14 : decode cX6_jump 14 = .ok (.iload_n 2, 1) := by decide +kernel
theorem dX6_jump_15 : decode cX6_jump 15 = .ok (.invokevirtual 132, 3) := by decide +kernel
theorem dX6_jump_18 : decode cX6_jump 18 = .ok (.ifCond .ne 16, 3) := by decide +kernel
theorem dX6_jump_21 : decode cX6_jump 21 = .ok (.iload_n 1, 1) := by decide +kernel
theorem dX6_jump_22 : decode cX6_jump 22 = .ok (.iload_n 2, 1) := by decide +kernel
theorem dX6_jump_23 : decode cX6_jump 23 = .ok (.if_icmp .ge 11, 3) := by decide +kernel
theorem dX6_jump_26 : decode cX6_jump 26 = .ok (.aload_n 0, 1) := by decide +kernel
theorem dX6_jump_27 : decode cX6_jump 27 = .ok (.iload_n 3, 1) := by decide +kernel
theorem dX6_jump_28 : decode cX6_jump 28 = .ok (.invokevirtual 147, 3) := by decide +kernel
theorem dX6_jump_31 : decode cX6_jump 31 = .ok (.ifCond .eq 7, 3) := by decide +kernel
theorem dX6_jump_34 : decode cX6_jump 34 = .ok (.iconst (-1), 1) := by decide +kernel
theorem dX6_jump_35 : decode cX6_jump 35 = .ok (.goto 18, 3) := by decide +kernel
theorem dX6_jump_38 : decode cX6_jump 38 = .ok (.aload_n 0, 1) := by decide +kernel
theorem dX6_jump_39 : decode cX6_jump 39 = .ok (.iload_n 1, 1) := by decide +kernel
theorem dX6_jump_40 : decode cX6_jump 40 = .ok (.iload_n 2, 1) := by decide +kernel
theorem dX6_jump_41 : decode cX6_jump 41 = .ok (.iload_n 3, 1) := by decide +kernel
theorem dX6_jump_42 : decode cX6_jump 42 = .ok (.invokevirtual 150, 3) := by decide +kernel
theorem dX6_jump_45 : decode cX6_jump 45 = .ok (.ifCond .eq 7, 3) := by decide +kernel
theorem dX6_jump_48 : decode cX6_jump 48 = .ok (.iconst 1, 1) := by decide +kernel
theorem dX6_jump_49 : decode cX6_jump 49 = .ok (.goto 4, 3) := by decide +kernel
theorem dX6_jump_52 : decode cX6_jump 52 = .ok (.iconst 0, 1) := by decide +kernel
theorem dX6_jump_53 : decode cX6_jump 53 = .ok (.ireturn, 1) := by decide +kernel
theorem dX6_overlap_0 : decode cX6_overlap 0 = .ok (.aload_n 0, 1) := by decide +kernel
theorem dX6_overlap_1 : decode cX6_overlap 1 = .ok (.iconst 0, 1) := by decide +kernel
theorem dX6_overlap_2 : decode cX6_overlap 2 = .ok (.putfield 1, 3) := by decide +kernel
theorem dX6_overlap_5 : decode cX6_overlap 5 = .ok (.aload_n 0, 1) := by decide +kernel
theorem dX6_overlap_6 : decode cX6_overlap 6 = .ok (.iload_n 1, 1) := by decide +kernel
theorem dX6_overlap_7 : decode cX6_overlap 7 = .ok (.invokevirtual 132, 3) := by decide +kernel
theorem dX6_overlap_10 : decode cX6_overlap 10 = .ok (.ifCond .ne 11, 3) := by decide +kernel
theorem dX6_overlap_13 : decode cX6_overlap 13 = .ok (.aload_n 0, 1) := by decide +kernel
theorem dX6_overlap_14 : decode cX6_overlap 14 = .ok (.iload_n 2, 1) := by decide +kernel
theorem dX6_overlap_15 : decode cX6_overlap 15 = .ok (.invokevirtual 132, 3) := by decide +kernel
theorem dX6_overlap_18 : decode cX6_overlap 18 = .ok (.ifCond .eq 5, 3) := by decide +kernel
theorem dX6_overlap_21 : decode cX6_overlap 21 = .ok (.iconst (-1), 1) := by decide +kernel
theorem dX6_overlap_22 : decode cX6_overlap 22 = .ok (.ireturn, 1) := by decide +kernel
theorem dX6_overlap_23 : decode cX6_overlap 23 = .ok (.iconst 0, 1) := by decide +kernel
theorem dX6_overlap_24 : decode cX6_overlap 24 = .ok (.istore_n 3, 1) := by decide +kernel
theorem dX6_overlap_25 : decode cX6_overlap 25 = .ok (.iconst 0, 1) := by decide +kernel
theorem dX6_overlap_26 : decode cX6_overlap 26 = .ok (.istore 4, 2) := by decide +kernel
theorem dX6_overlap_28 : decode cX6_overlap 28 = .ok (.iload 4, 2) := by decide +kernel
theorem dX6_overlap_30 : decode cX6_overlap 30 = .ok (.bipush 8, 2) := by decide +kernel
theorem dX6_overlap_32 : decode cX6_overlap 32 = .ok (.if_icmp .ge 54, 3) := by decide +kernel
theorem dX6_overlap_35 : decode cX6_overlap 35 = .ok (.aload_n 0, 1) := by decide +kernel
theorem dX6_overlap_36 : decode cX6_overlap 36 = .ok (.getfield 55, 3) := by decide +kernel
theorem dX6_overlap_39 : decode cX6_overlap 39 = .ok (.bipush 8, 2) := by decide +kernel
theorem dX6_overlap_41 : decode cX6_overlap 41 = .ok (.iload_n 1, 1) := by decide +kernel
theorem dX6_overlap_42 : decode cX6_overlap 42 = .ok (.imul, 1) := by decide +kernel
theorem dX6_overlap_43 : decode cX6_overlap 43 = .ok (.iload 4, 2) := by decide +kernel
theorem dX6_overlap_45 : decode cX6_overlap 45 = .ok (.iadd, 1) := by decide +kernel
theorem dX6_overlap_46 : decode cX6_overlap 46 = .ok (.iaload, 1) := by decide +kernel
theorem dX6_overlap_47 : decode cX6_overlap 47 = .ok (.istore 5, 2) := by decide +kernel
theorem dX6_overlap_49 : decode cX6_overlap 49 = .ok (.aload_n 0, 1) := by decide +kernel
theorem dX6_overlap_50 : decode cX6_overlap 50 = .ok (.getfield 55, 3) := by decide +kernel
theorem dX6_overlap_53 : decode cX6_overlap 53 = .ok (.bipush 8, 2) := by decide +kernel
theorem dX6_overlap_55 : decode cX6_overlap 55 = .ok (.iload_n 2, 1) := by decide +kernel
theorem dX6_overlap_56 : decode cX6_overlap 56 = .ok (.imul, 1) := by decide +kernel
theorem dX6_overlap_57 : decode cX6_overlap 57 = .ok (.iload 4, 2) := by decide +kernel
theorem dX6_overlap_59 : decode cX6_overlap 59 = .ok (.iadd, 1) := by decide +kernel
theorem dX6_overlap_60 : decode cX6_overlap 60 = .ok (.iaload, 1) := by decide +kernel
theorem dX6_overlap_61 : decode cX6_overlap 61 = .ok (.istore 6, 2) := by decide +kernel
theorem dX6_overlap_63 : decode cX6_overlap 63 = .ok (.iload_n 3, 1) := by decide +kernel
theorem dX6_overlap_64 : decode cX6_overlap 64 = .ok (.iload 5, 2) := by decide +kernel
theorem dX6_overlap_66 : decode cX6_overlap 66 = .ok (.iload 6, 2) := by decide +kernel
theorem dX6_overlap_68 : decode cX6_overlap 68 = .ok (.if_icmp .ge 8, 3) := by decide +kernel
theorem dX6_overlap_71 : decode cX6_overlap 71 = .ok (.iload 5, 2) := by decide +kernel
theorem dX6_overlap_73 : decode cX6_overlap 73 = .ok (.goto 5, 3) := by decide +kernel
theorem dX6_overlap_76 : decode cX6_overlap 76 = .ok (.iload 6, 2) := by decide +kernel
theorem dX6_overlap_78 : decode cX6_overlap 78 = .ok (.iadd, 1) := by decide +kernel
theorem dX6_overlap_79 : decode cX6_overlap 79 = .ok (.istore_n 3, 1) := by decide +kernel
theorem dX6_overlap_80 : decode cX6_overlap 80 = .ok (.iinc 4 1, 3) := by decide +kernel
theorem dX6_overlap_83 : decode cX6_overlap 83 = .ok (.goto (-55), 3) := by decide +kernel
theorem dX6_overlap_86 : decode cX6_overlap 86 = .ok (.iload_n 3, 1) := by decide +kernel
theorem dX6_overlap_87 : decode cX6_overlap 87 = .ok (.ireturn, 1) := by decide +kernel
theorem dX6_present_0 : decode cX6_present 0 = .ok (.iconst 0, 1) := by decide +kernel
theorem dX6_present_1 : decode cX6_present 1 = .ok (.istore_n 2, 1) := by decide +kernel
theorem dX6_present_2 : decode cX6_present 2 = .ok (.iconst 0, 1) := by decide +kernel
theorem dX6_present_3 : decode cX6_present 3 = .ok (.istore_n 3, 1) := by decide +kernel
theorem dX6_present_4 : decode cX6_present 4 = .ok (.iload_n 3, 1) := by decide +kernel
theorem dX6_present_5 : decode cX6_present 5 = .ok (.bipush 8, 2) := by decide +kernel
theorem dX6_present_7 : decode cX6_present 7 = .ok (.if_icmp .ge 33, 3) := by decide +kernel
theorem dX6_present_10 : decode cX6_present 10 = .ok (.aload_n 0, 1) := by decide +kernel
theorem dX6_present_11 : decode cX6_present 11 = .ok (.getfield 55, 3) := by decide +kernel
theorem dX6_present_14 : decode cX6_present 14 = .ok (.bipush 8, 2) := by decide +kernel
theorem dX6_present_16 : decode cX6_present 16 = .ok (.iload_n 1, 1) := by decide +kernel
theorem dX6_present_17 : decode cX6_present 17 = .ok (.imul, 1) := by decide +kernel
theorem dX6_present_18 : decode cX6_present 18 = .ok (.iload_n 3, 1) := by decide +kernel
theorem dX6_present_19 : decode cX6_present 19 = .ok (.iadd, 1) := by decide +kernel
theorem dX6_present_20 : decode cX6_present 20 = .ok (.iaload, 1) := by decide +kernel
theorem dX6_present_21 : decode cX6_present 21 = .ok (.ifCond .le 11, 3) := by decide +kernel
theorem dX6_present_24 : decode cX6_present 24 = .ok (.iload_n 2, 1) := by decide +kernel
theorem dX6_present_25 : decode cX6_present 25 = .ok (.iconst 1, 1) := by decide +kernel
theorem dX6_present_26 : decode cX6_present 26 = .ok (.iload_n 3, 1) := by decide +kernel
theorem dX6_present_27 : decode cX6_present 27 = .ok (.ishl, 1) := by decide +kernel
theorem dX6_present_28 : decode cX6_present 28 = .ok (.ior, 1) := by decide +kernel
theorem dX6_present_29 : decode cX6_present 29 = .ok (.goto 4, 3) := by decide +kernel
theorem dX6_present_32 : decode cX6_present 32 = .ok (.iload_n 2, 1) := by decide +kernel
theorem dX6_present_33 : decode cX6_present 33 = .ok (.istore_n 2, 1) := by decide +kernel
theorem dX6_present_34 : decode cX6_present 34 = .ok (.iinc 3 1, 3) := by decide +kernel
theorem dX6_present_37 : decode cX6_present 37 = .ok (.goto (-33), 3) := by decide +kernel
theorem dX6_present_40 : decode cX6_present 40 = .ok (.iload_n 2, 1) := by decide +kernel
theorem dX6_present_41 : decode cX6_present 41 = .ok (.ireturn, 1) := by decide +kernel
theorem dX6_nextOf_0 : decode cX6_nextOf 0 = .ok (.bipush (-2), 2) := by decide +kernel
theorem dX6_nextOf_2 : decode cX6_nextOf 2 = .ok (.istore_n 3, 1) := by decide +kernel
theorem dX6_nextOf_3 : decode cX6_nextOf 3 = .ok (.iload_n 1, 1) := by decide +kernel
theorem dX6_nextOf_4 : decode cX6_nextOf 4 = .ok (.iconst 1, 1) := by decide +kernel
theorem dX6_nextOf_5 : decode cX6_nextOf 5 = .ok (.iadd, 1) := by decide +kernel
theorem dX6_nextOf_6 : decode cX6_nextOf 6 = .ok (.istore 4, 2) := by decide +kernel
theorem dX6_nextOf_8 : decode cX6_nextOf 8 = .ok (.iload 4, 2) := by decide +kernel
theorem dX6_nextOf_10 : decode cX6_nextOf 10 = .ok (.iload_n 2, 1) := by decide +kernel
theorem dX6_nextOf_11 : decode cX6_nextOf 11 = .ok (.if_icmp .gt 63, 3) := by decide +kernel
theorem dX6_nextOf_14 : decode cX6_nextOf 14 = .ok (.aload_n 0, 1) := by decide +kernel
theorem dX6_nextOf_15 : decode cX6_nextOf 15 = .ok (.getfield 71, 3) := by decide +kernel
theorem dX6_nextOf_18 : decode cX6_nextOf 18 = .ok (.iload 4, 2) := by decide +kernel
theorem dX6_nextOf_20 : decode cX6_nextOf 20 = .ok (.iaload, 1) := by decide +kernel
theorem dX6_nextOf_21 : decode cX6_nextOf 21 = .ok (.sipush 200, 3) := by decide +kernel
theorem dX6_nextOf_24 : decode cX6_nextOf 24 = .ok (.if_icmp .ge 44, 3) := by decide +kernel
theorem dX6_nextOf_27 : decode cX6_nextOf 27 = .ok (.aload_n 0, 1) := by decide +kernel
theorem dX6_nextOf_28 : decode cX6_nextOf 28 = .ok (.iload_n 1, 1) := by decide +kernel
theorem dX6_nextOf_29 : decode cX6_nextOf 29 = .ok (.iload 4, 2) := by decide +kernel
theorem dX6_nextOf_31 : decode cX6_nextOf 31 = .ok (.aload_n 0, 1) := by decide +kernel
theorem dX6_nextOf_32 : decode cX6_nextOf 32 = .ok (.iload 4, 2) := by decide +kernel
theorem dX6_nextOf_34 : decode cX6_nextOf 34 = .ok (.invokevirtual 154, 3) := by decide +kernel
theorem dX6_nextOf_37 : decode cX6_nextOf 37 = .ok (.invokevirtual 150, 3) := by decide +kernel
theorem dX6_nextOf_40 : decode cX6_nextOf 40 = .ok (.ifCond .eq 28, 3) := by decide +kernel
theorem dX6_nextOf_43 : decode cX6_nextOf 43 = .ok (.iload_n 3, 1) := by decide +kernel
theorem dX6_nextOf_44 : decode cX6_nextOf 44 = .ok (.bipush (-2), 2) := by decide +kernel
theorem dX6_nextOf_46 : decode cX6_nextOf 46 = .ok (.if_icmp .eq 19, 3) := by decide +kernel
theorem dX6_nextOf_49 : decode cX6_nextOf 49 = .ok (.aload_n 0, 1) := by decide +kernel
theorem dX6_nextOf_50 : decode cX6_nextOf 50 = .ok (.getfield 71, 3) := by decide +kernel
theorem dX6_nextOf_53 : decode cX6_nextOf 53 = .ok (.iload 4, 2) := by decide +kernel
theorem dX6_nextOf_55 : decode cX6_nextOf 55 = .ok (.iaload, 1) := by decide +kernel
theorem dX6_nextOf_56 : decode cX6_nextOf 56 = .ok (.aload_n 0, 1) := by decide +kernel
theorem dX6_nextOf_57 : decode cX6_nextOf 57 = .ok (.getfield 71, 3) := by decide +kernel
theorem dX6_nextOf_60 : decode cX6_nextOf 60 = .ok (.iload_n 3, 1) := by decide +kernel
theorem dX6_nextOf_61 : decode cX6_nextOf 61 = .ok (.iaload, 1) := by decide +kernel
theorem dX6_nextOf_62 : decode cX6_nextOf 62 = .ok (.if_icmp .gt 6, 3) := by decide +kernel
theorem dX6_nextOf_65 : decode cX6_nextOf 65 = .ok (.iload 4, 2) := by decide +kernel
theorem dX6_nextOf_67 : decode cX6_nextOf 67 = .ok (.istore_n 3, 1) := by decide +kernel
theorem dX6_nextOf_68 : decode cX6_nextOf 68 = .ok (.iinc 4 1, 3) := by decide +kernel
theorem dX6_nextOf_71 : decode cX6_nextOf 71 = .ok (.goto (-63), 3) := by decide +kernel
theorem dX6_nextOf_74 : decode cX6_nextOf 74 = .ok (.iload_n 3, 1) := by decide +kernel
theorem dX6_nextOf_75 : decode cX6_nextOf 75 = .ok (.ireturn, 1) := by decide +kernel
theorem dX6_way_0 : decode cX6_way 0 = .ok (.aload_n 0, 1) := by decide +kernel
theorem dX6_way_1 : decode cX6_way 1 = .ok (.iconst 0, 1) := by decide +kernel
theorem dX6_way_2 : decode cX6_way 2 = .ok (.putfield 1, 3) := by decide +kernel
theorem dX6_way_5 : decode cX6_way 5 = .ok (.aload_n 0, 1) := by decide +kernel
theorem dX6_way_6 : decode cX6_way 6 = .ok (.iload_n 1, 1) := by decide +kernel
theorem dX6_way_7 : decode cX6_way 7 = .ok (.invokevirtual 132, 3) := by decide +kernel
theorem dX6_way_10 : decode cX6_way 10 = .ok (.ifCond .ne 16, 3) := by decide +kernel
theorem dX6_way_13 : decode cX6_way 13 = .ok (.aload_n 0, 1) := by decide +kernel
theorem dX6_way_14 : decode cX6_way 14 = .ok (.iload_n 2, 1) := by decide +kernel
theorem dX6_way_15 : decode cX6_way 15 = .ok (.invokevirtual 132, 3) := by decide +kernel
theorem dX6_way_18 : decode cX6_way 18 = .ok (.ifCond .ne 8, 3) := by decide +kernel
theorem dX6_way_21 : decode cX6_way 21 = .ok (.iload_n 1, 1) := by decide +kernel
theorem dX6_way_22 : decode cX6_way 22 = .ok (.iload_n 2, 1) := by decide +kernel
theorem dX6_way_23 : decode cX6_way 23 = .ok (.if_icmp .lt 5, 3) := by decide +kernel
theorem dX6_way_26 : decode cX6_way 26 = .ok (.iconst (-1), 1) := by decide +kernel
theorem dX6_way_27 : decode cX6_way 27 = .ok (.ireturn, 1) := by decide +kernel
theorem dX6_way_28 : decode cX6_way 28 = .ok (.aload_n 0, 1) := by decide +kernel
theorem dX6_way_29 : decode cX6_way 29 = .ok (.getfield 71, 3) := by decide +kernel
theorem dX6_way_32 : decode cX6_way 32 = .ok (.iload_n 2, 1) := by decide +kernel
theorem dX6_way_33 : decode cX6_way 33 = .ok (.iconst 0, 1) := by decide +kernel
theorem dX6_way_34 : decode cX6_way 34 = .ok (.iastore, 1) := by decide +kernel
theorem dX6_way_35 : decode cX6_way 35 = .ok (.iload_n 2, 1) := by decide +kernel
theorem dX6_way_36 : decode cX6_way 36 = .ok (.iconst 1, 1) := by decide +kernel
theorem dX6_way_37 : decode cX6_way 37 = .ok (.isub, 1) := by decide +kernel
theorem dX6_way_38 : decode cX6_way 38 = .ok (.istore 4, 2) := by decide +kernel
theorem dX6_way_40 : decode cX6_way 40 = .ok (.iload 4, 2) := by decide +kernel
theorem dX6_way_42 : decode cX6_way 42 = .ok (.iload_n 1, 1) := by decide +kernel
theorem dX6_way_43 : decode cX6_way 43 = .ok (.if_icmp .lt 47, 3) := by decide +kernel
theorem dX6_way_46 : decode cX6_way 46 = .ok (.aload_n 0, 1) := by decide +kernel
theorem dX6_way_47 : decode cX6_way 47 = .ok (.iload 4, 2) := by decide +kernel
theorem dX6_way_49 : decode cX6_way 49 = .ok (.iload_n 2, 1) := by decide +kernel
theorem dX6_way_50 : decode cX6_way 50 = .ok (.invokevirtual 157, 3) := by decide +kernel
theorem dX6_way_53 : decode cX6_way 53 = .ok (.istore 5, 2) := by decide +kernel
theorem dX6_way_55 : decode cX6_way 55 = .ok (.aload_n 0, 1) := by decide +kernel
theorem dX6_way_56 : decode cX6_way 56 = .ok (.getfield 71, 3) := by decide +kernel
theorem dX6_way_59 : decode cX6_way 59 = .ok (.iload 4, 2) := by decide +kernel
theorem dX6_way_61 : decode cX6_way 61 = .ok (.iload 5, 2) := by decide +kernel
theorem dX6_way_63 : decode cX6_way 63 = .ok (.bipush (-2), 2) := by decide +kernel
theorem dX6_way_65 : decode cX6_way 65 = .ok (.if_icmp .ne 9, 3) := by decide +kernel
theorem dX6_way_68 : decode cX6_way 68 = .ok (.sipush 200, 3) := by decide +kernel
theorem dX6_way_71 : decode cX6_way 71 = .ok (.goto 12, 3) := by decide +kernel
theorem dX6_way_74 : decode cX6_way 74 = .ok (.iconst 1, 1) := by decide +kernel
theorem dX6_way_75 : decode cX6_way 75 = .ok (.aload_n 0, 1) := by decide +kernel
theorem dX6_way_76 : decode cX6_way 76 = .ok (.getfield 71, 3) := by decide +kernel
theorem dX6_way_79 : decode cX6_way 79 = .ok (.iload 5, 2) := by decide +kernel
theorem dX6_way_81 : decode cX6_way 81 = .ok (.iaload, 1) := by decide +kernel
theorem dX6_way_82 : decode cX6_way 82 = .ok (.iadd, 1) := by decide +kernel
theorem dX6_way_83 : decode cX6_way 83 = .ok (.iastore, 1) := by decide +kernel
theorem dX6_way_84 : decode cX6_way 84 = .ok (.iinc 4 (-1), 3) := by decide +kernel
theorem dX6_way_87 : decode cX6_way 87 = .ok (.goto (-47), 3) := by decide +kernel
theorem dX6_way_90 : decode cX6_way 90 = .ok (.aload_n 0, 1) := by decide +kernel
theorem dX6_way_91 : decode cX6_way 91 = .ok (.getfield 71, 3) := by decide +kernel
theorem dX6_way_94 : decode cX6_way 94 = .ok (.iload_n 1, 1) := by decide +kernel
theorem dX6_way_95 : decode cX6_way 95 = .ok (.iaload, 1) := by decide +kernel
theorem dX6_way_96 : decode cX6_way 96 = .ok (.sipush 200, 3) := by decide +kernel
theorem dX6_way_99 : decode cX6_way 99 = .ok (.if_icmp .ne 6, 3) := by decide +kernel
theorem dX6_way_102 : decode cX6_way 102 = .ok (.bipush (-2), 2) := by decide +kernel
theorem dX6_way_104 : decode cX6_way 104 = .ok (.ireturn, 1) := by decide +kernel
theorem dX6_way_105 : decode cX6_way 105 = .ok (.iload_n 3, 1) := by decide +kernel
theorem dX6_way_106 : decode cX6_way 106 = .ok (.i2l, 1) := by decide +kernel
theorem dX6_way_107 : decode cX6_way 107 = .ok (.ldc2_w 160, 3) := by decide +kernel
theorem dX6_way_110 : decode cX6_way 110 = .ok (.aload_n 0, 1) := by decide +kernel
theorem dX6_way_111 : decode cX6_way 111 = .ok (.getfield 71, 3) := by decide +kernel
theorem dX6_way_114 : decode cX6_way 114 = .ok (.iload_n 1, 1) := by decide +kernel
theorem dX6_way_115 : decode cX6_way 115 = .ok (.iaload, 1) := by decide +kernel
theorem dX6_way_116 : decode cX6_way 116 = .ok (.i2l, 1) := by decide +kernel
theorem dX6_way_117 : decode cX6_way 117 = .ok (.invokestatic 76, 3) := by decide +kernel
theorem dX6_way_120 : decode cX6_way 120 = .ok (.ifCond .ne 5, 3) := by decide +kernel
theorem dX6_way_123 : decode cX6_way 123 = .ok (.iconst (-1), 1) := by decide +kernel
theorem dX6_way_124 : decode cX6_way 124 = .ok (.ireturn, 1) := by decide +kernel
theorem dX6_way_125 : decode cX6_way 125 = .ok (.iload_n 1, 1) := by decide +kernel
theorem dX6_way_126 : decode cX6_way 126 = .ok (.istore 4, 2) := by decide +kernel
theorem dX6_way_128 : decode cX6_way 128 = .ok (.iconst 0, 1) := by decide +kernel
theorem dX6_way_129 : decode cX6_way 129 = .ok (.istore 5, 2) := by decide +kernel
theorem dX6_way_131 : decode cX6_way 131 = .ok (.iload 5, 2) := by decide +kernel
theorem dX6_way_133 : decode cX6_way 133 = .ok (.iload_n 3, 1) := by decide +kernel
theorem dX6_way_134 : decode cX6_way 134 = .ok (.if_icmp .ge 18, 3) := by decide +kernel
theorem dX6_way_137 : decode cX6_way 137 = .ok (.aload_n 0, 1) := by decide +kernel
theorem dX6_way_138 : decode cX6_way 138 = .ok (.iload 4, 2) := by decide +kernel
theorem dX6_way_140 : decode cX6_way 140 = .ok (.iload_n 2, 1) := by decide +kernel
theorem dX6_way_141 : decode cX6_way 141 = .ok (.invokevirtual 157, 3) := by decide +kernel
theorem dX6_way_144 : decode cX6_way 144 = .ok (.istore 4, 2) := by decide +kernel
theorem dX6_way_146 : decode cX6_way 146 = .ok (.iinc 5 1, 3) := by decide +kernel
theorem dX6_way_149 : decode cX6_way 149 = .ok (.goto (-18), 3) := by decide +kernel
theorem dX6_way_152 : decode cX6_way 152 = .ok (.iload_n 3, 1) := by decide +kernel
theorem dX6_way_153 : decode cX6_way 153 = .ok (.iconst (-1), 1) := by decide +kernel
theorem dX6_way_154 : decode cX6_way 154 = .ok (.if_icmp .ne 12, 3) := by decide +kernel
theorem dX6_way_157 : decode cX6_way 157 = .ok (.aload_n 0, 1) := by decide +kernel
theorem dX6_way_158 : decode cX6_way 158 = .ok (.getfield 71, 3) := by decide +kernel
theorem dX6_way_161 : decode cX6_way 161 = .ok (.iload_n 1, 1) := by decide +kernel
theorem dX6_way_162 : decode cX6_way 162 = .ok (.iaload, 1) := by decide +kernel
theorem dX6_way_163 : decode cX6_way 163 = .ok (.goto 5, 3) := by decide +kernel
theorem dX6_way_166 : decode cX6_way 166 = .ok (.iload 4, 2) := by decide +kernel
theorem dX6_way_168 : decode cX6_way 168 = .ok (.ireturn, 1) := by decide +kernel
theorem dX6_count_0 : decode cX6_count 0 = .ok (.aload_n 0, 1) := by decide +kernel
theorem dX6_count_1 : decode cX6_count 1 = .ok (.iconst 0, 1) := by decide +kernel
theorem dX6_count_2 : decode cX6_count 2 = .ok (.putfield 1, 3) := by decide +kernel
theorem dX6_count_5 : decode cX6_count 5 = .ok (.iconst 0, 1) := by decide +kernel
theorem dX6_count_6 : decode cX6_count 6 = .ok (.istore_n 2, 1) := by decide +kernel
theorem dX6_count_7 : decode cX6_count 7 = .ok (.iload_n 1, 1) := by decide +kernel
theorem dX6_count_8 : decode cX6_count 8 = .ok (.tableswitch 179 0 10 #[60, 65, 70, 75, 80, 80, 80, 159, 164, 169, 174], 60) := by decide +kernel
theorem dX6_count_68 : decode cX6_count 68 = .ok (.aload_n 0, 1) := by decide +kernel
theorem dX6_count_69 : decode cX6_count 69 = .ok (.getfield 83, 3) := by decide +kernel
theorem dX6_count_72 : decode cX6_count 72 = .ok (.ireturn, 1) := by decide +kernel
theorem dX6_count_73 : decode cX6_count 73 = .ok (.aload_n 0, 1) := by decide +kernel
theorem dX6_count_74 : decode cX6_count 74 = .ok (.getfield 80, 3) := by decide +kernel
theorem dX6_count_77 : decode cX6_count 77 = .ok (.ireturn, 1) := by decide +kernel
theorem dX6_count_78 : decode cX6_count 78 = .ok (.aload_n 0, 1) := by decide +kernel
theorem dX6_count_79 : decode cX6_count 79 = .ok (.getfield 98, 3) := by decide +kernel
theorem dX6_count_82 : decode cX6_count 82 = .ok (.ireturn, 1) := by decide +kernel
theorem dX6_count_83 : decode cX6_count 83 = .ok (.aload_n 0, 1) := by decide +kernel
theorem dX6_count_84 : decode cX6_count 84 = .ok (.getfield 114, 3) := by decide +kernel
theorem dX6_count_87 : decode cX6_count 87 = .ok (.ireturn, 1) := by decide +kernel
theorem dX6_count_88 : decode cX6_count 88 = .ok (.iconst 0, 1) := by decide +kernel
theorem dX6_count_89 : decode cX6_count 89 = .ok (.istore_n 3, 1) := by decide +kernel
theorem dX6_count_90 : decode cX6_count 90 = .ok (.iload_n 3, 1) := by decide +kernel
theorem dX6_count_91 : decode cX6_count 91 = .ok (.bipush 10, 2) := by decide +kernel
theorem dX6_count_93 : decode cX6_count 93 = .ok (.if_icmp .ge 43, 3) := by decide +kernel
theorem dX6_count_96 : decode cX6_count 96 = .ok (.iload_n 1, 1) := by decide +kernel
theorem dX6_count_97 : decode cX6_count 97 = .ok (.iconst 4, 1) := by decide +kernel
theorem dX6_count_98 : decode cX6_count 98 = .ok (.if_icmp .ne 14, 3) := by decide +kernel
theorem dX6_count_101 : decode cX6_count 101 = .ok (.iload_n 2, 1) := by decide +kernel
theorem dX6_count_102 : decode cX6_count 102 = .ok (.aload_n 0, 1) := by decide +kernel
theorem dX6_count_103 : decode cX6_count 103 = .ok (.getfield 26, 3) := by decide +kernel
theorem dX6_count_106 : decode cX6_count 106 = .ok (.iload_n 3, 1) := by decide +kernel
theorem dX6_count_107 : decode cX6_count 107 = .ok (.iaload, 1) := by decide +kernel
theorem dX6_count_108 : decode cX6_count 108 = .ok (.iadd, 1) := by decide +kernel
theorem dX6_count_109 : decode cX6_count 109 = .ok (.goto 20, 3) := by decide +kernel
theorem dX6_count_112 : decode cX6_count 112 = .ok (.iload_n 1, 1) := by decide +kernel
theorem dX6_count_113 : decode cX6_count 113 = .ok (.bipush 6, 2) := by decide +kernel
theorem dX6_count_115 : decode cX6_count 115 = .ok (.if_icmp .ne 13, 3) := by decide +kernel
theorem dX6_count_118 : decode cX6_count 118 = .ok (.iload_n 2, 1) := by decide +kernel
theorem dX6_count_119 : decode cX6_count 119 = .ok (.aload_n 0, 1) := by decide +kernel
theorem dX6_count_120 : decode cX6_count 120 = .ok (.iload_n 3, 1) := by decide +kernel
theorem dX6_count_121 : decode cX6_count 121 = .ok (.invokevirtual 129, 3) := by decide +kernel
theorem dX6_count_124 : decode cX6_count 124 = .ok (.iadd, 1) := by decide +kernel
theorem dX6_count_125 : decode cX6_count 125 = .ok (.goto 4, 3) := by decide +kernel
theorem dX6_count_128 : decode cX6_count 128 = .ok (.iload_n 2, 1) := by decide +kernel
theorem dX6_count_129 : decode cX6_count 129 = .ok (.istore_n 2, 1) := by decide +kernel
theorem dX6_count_130 : decode cX6_count 130 = .ok (.iinc 3 1, 3) := by decide +kernel
theorem dX6_count_133 : decode cX6_count 133 = .ok (.goto (-43), 3) := by decide +kernel
theorem dX6_count_136 : decode cX6_count 136 = .ok (.iconst 0, 1) := by decide +kernel
theorem dX6_count_137 : decode cX6_count 137 = .ok (.istore_n 3, 1) := by decide +kernel
theorem dX6_count_138 : decode cX6_count 138 = .ok (.iload_n 3, 1) := by decide +kernel
theorem dX6_count_139 : decode cX6_count 139 = .ok (.aload_n 0, 1) := by decide +kernel
theorem dX6_count_140 : decode cX6_count 140 = .ok (.getfield 80, 3) := by decide +kernel
theorem dX6_count_143 : decode cX6_count 143 = .ok (.if_icmp .ge 22, 3) := by decide +kernel
theorem dX6_count_146 : decode cX6_count 146 = .ok (.iload_n 1, 1) := by decide +kernel
theorem dX6_count_147 : decode cX6_count 147 = .ok (.iconst 5, 1) := by decide +kernel
theorem dX6_count_148 : decode cX6_count 148 = .ok (.if_icmp .ne 17, 3) := by decide +kernel
theorem dX6_count_151 : decode cX6_count 151 = .ok (.iload_n 2, 1) := by decide +kernel
theorem dX6_count_152 : decode cX6_count 152 = .ok (.aload_n 0, 1) := by decide +kernel
theorem dX6_count_153 : decode cX6_count 153 = .ok (.iload_n 3, 1) := by decide +kernel
theorem dX6_count_154 : decode cX6_count 154 = .ok (.invokevirtual 117, 3) := by decide +kernel
theorem dX6_count_157 : decode cX6_count 157 = .ok (.iadd, 1) := by decide +kernel
theorem dX6_count_158 : decode cX6_count 158 = .ok (.istore_n 2, 1) := by decide +kernel
theorem dX6_count_159 : decode cX6_count 159 = .ok (.iinc 3 1, 3) := by decide +kernel
theorem dX6_count_162 : decode cX6_count 162 = .ok (.goto (-24), 3) := by decide +kernel
theorem dX6_count_165 : decode cX6_count 165 = .ok (.iload_n 2, 1) := by decide +kernel
theorem dX6_count_166 : decode cX6_count 166 = .ok (.ireturn, 1) := by decide +kernel
theorem dX6_count_167 : decode cX6_count 167 = .ok (.aload_n 0, 1) := by decide +kernel
theorem dX6_count_168 : decode cX6_count 168 = .ok (.getfield 13, 3) := by decide +kernel
theorem dX6_count_171 : decode cX6_count 171 = .ok (.ireturn, 1) := by decide +kernel
theorem dX6_count_172 : decode cX6_count 172 = .ok (.aload_n 0, 1) := by decide +kernel
theorem dX6_count_173 : decode cX6_count 173 = .ok (.getfield 16, 3) := by decide +kernel
theorem dX6_count_176 : decode cX6_count 176 = .ok (.ireturn, 1) := by decide +kernel
theorem dX6_count_177 : decode cX6_count 177 = .ok (.aload_n 0, 1) := by decide +kernel
theorem dX6_count_178 : decode cX6_count 178 = .ok (.getfield 19, 3) := by decide +kernel
theorem dX6_count_181 : decode cX6_count 181 = .ok (.ireturn, 1) := by decide +kernel
theorem dX6_count_182 : decode cX6_count 182 = .ok (.aload_n 0, 1) := by decide +kernel
theorem dX6_count_183 : decode cX6_count 183 = .ok (.getfield 23, 3) := by decide +kernel
theorem dX6_count_186 : decode cX6_count 186 = .ok (.ireturn, 1) := by decide +kernel
theorem dX6_count_187 : decode cX6_count 187 = .ok (.iconst (-1), 1) := by decide +kernel
theorem dX6_count_188 : decode cX6_count 188 = .ok (.ireturn, 1) := by decide +kernel
