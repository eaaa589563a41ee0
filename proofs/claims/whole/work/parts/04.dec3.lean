theorem dX10_init_0 : decode cX10_init 0 = .ok (.aload_n 0, 1) := by decide +kernel
theorem dX10_init_1 : decode cX10_init 1 = .ok (.invokespecial 1, 3) := by decide +kernel
theorem dX10_init_4 : decode cX10_init 4 = .ok (.aload_n 0, 1) := by decide +kernel
theorem dX10_init_5 : decode cX10_init 5 = .ok (.bipush 120, 2) := by decide +kernel
theorem dX10_init_7 : decode cX10_init 7 = .ok (.newarray .int, 2) := by decide +kernel
theorem dX10_init_9 : decode cX10_init 9 = .ok (.putfield 7, 3) := by decide +kernel
theorem dX10_init_12 : decode cX10_init 12 = .ok (.aload_n 0, 1) := by decide +kernel
theorem dX10_init_13 : decode cX10_init 13 = .ok (.sipush 394, 3) := by decide +kernel
theorem dX10_init_16 : decode cX10_init 16 = .ok (.newarray .int, 2) := by decide +kernel
theorem dX10_init_18 : decode cX10_init 18 = .ok (.putfield 13, 3) := by decide +kernel
theorem dX10_init_21 : decode cX10_init 21 = .ok (.aload_n 0, 1) := by decide +kernel
theorem dX10_init_22 : decode cX10_init 22 = .ok (.bipush 122, 2) := by decide +kernel
theorem dX10_init_24 : decode cX10_init 24 = .ok (.newarray .int, 2) := by decide +kernel
theorem dX10_init_26 : decode cX10_init 26 = .ok (.putfield 16, 3) := by decide +kernel
theorem dX10_init_29 : decode cX10_init 29 = .ok (.aload_n 0, 1) := by decide +kernel
theorem dX10_init_30 : decode cX10_init 30 = .ok (.bipush 122, 2) := by decide +kernel
theorem dX10_init_32 : decode cX10_init 32 = .ok (.newarray .boolean, 2) := by decide +kernel
theorem dX10_init_34 : decode cX10_init 34 = .ok (.putfield 19, 3) := by decide +kernel
theorem dX10_init_37 : decode cX10_init 37 = .ok (.aload_n 0, 1) := by decide +kernel
theorem dX10_init_38 : decode cX10_init 38 = .ok (.bipush 122, 2) := by decide +kernel
theorem dX10_init_40 : decode cX10_init 40 = .ok (.newarray .boolean, 2) := by decide +kernel
theorem dX10_init_42 : decode cX10_init 42 = .ok (.putfield 23, 3) := by decide +kernel
theorem dX10_init_45 : decode cX10_init 45 = .ok (.aload_n 0, 1) := by decide +kernel
theorem dX10_init_46 : decode cX10_init 46 = .ok (.bipush 122, 2) := by decide +kernel
theorem dX10_init_48 : decode cX10_init 48 = .ok (.newarray .boolean, 2) := by decide +kernel
theorem dX10_init_50 : decode cX10_init 50 = .ok (.putfield 26, 3) := by decide +kernel
theorem dX10_init_53 : decode cX10_init 53 = .ok (.aload_n 0, 1) := by decide +kernel
theorem dX10_init_54 : decode cX10_init 54 = .ok (.bipush 122, 2) := by decide +kernel
theorem dX10_init_56 : decode cX10_init 56 = .ok (.newarray .int, 2) := by decide +kernel
theorem dX10_init_58 : decode cX10_init 58 = .ok (.putfield 29, 3) := by decide +kernel
theorem dX10_init_61 : decode cX10_init 61 = .ok (.aload_n 0, 1) := by decide +kernel
theorem dX10_init_62 : decode cX10_init 62 = .ok (.bipush 122, 2) := by decide +kernel
theorem dX10_init_64 : decode cX10_init 64 = .ok (.newarray .int, 2) := by decide +kernel
theorem dX10_init_66 : decode cX10_init 66 = .ok (.putfield 32, 3) := by decide +kernel
theorem dX10_init_69 : decode cX10_init 69 = .ok (.aload_n 0, 1) := by decide +kernel
theorem dX10_init_70 : decode cX10_init 70 = .ok (.sipush 394, 3) := by decide +kernel
theorem dX10_init_73 : decode cX10_init 73 = .ok (.newarray .int, 2) := by decide +kernel
theorem dX10_init_75 : decode cX10_init 75 = .ok (.putfield 35, 3) := by decide +kernel
theorem dX10_init_78 : decode cX10_init 78 = .ok (.aload_n 0, 1) := by decide +kernel
theorem dX10_init_79 : decode cX10_init 79 = .ok (.sipush 394, 3) := by decide +kernel
theorem dX10_init_82 : decode cX10_init 82 = .ok (.newarray .int, 2) := by decide +kernel
theorem dX10_init_84 : decode cX10_init 84 = .ok (.putfield 38, 3) := by decide +kernel
theorem dX10_init_87 : decode cX10_init 87 = .ok (.aload_n 0, 1) := by decide +kernel
theorem dX10_init_88 : decode cX10_init 88 = .ok (.sipush 5516, 3) := by decide +kernel
theorem dX10_init_91 : decode cX10_init 91 = .ok (.newarray .int, 2) := by decide +kernel
theorem dX10_init_93 : decode cX10_init 93 = .ok (.putfield 41, 3) := by decide +kernel
theorem dX10_init_96 : decode cX10_init 96 = .ok (.aload_n 0, 1) := by decide +kernel
theorem dX10_init_97 : decode cX10_init 97 = .ok (.sipush 788, 3) := by decide +kernel
theorem dX10_init_100 : decode cX10_init 100 = .ok (.newarray .int, 2) := by decide +kernel
theorem dX10_init_102 : decode cX10_init 102 = .ok (.putfield 44, 3) := by decide +kernel
theorem dX10_init_105 : decode cX10_init 105 = .ok (.aload_n 0, 1) := by decide +kernel
theorem dX10_init_106 : decode cX10_init 106 = .ok (.iconst 2, 1) := by decide +kernel
theorem dX10_init_107 : decode cX10_init 107 = .ok (.newarray .boolean, 2) := by decide +kernel
theorem dX10_init_109 : decode cX10_init 109 = .ok (.putfield 47, 3) := by decide +kernel
theorem dX10_init_112 : decode cX10_init 112 = .ok (.aload_n 0, 1) := by decide +kernel
theorem dX10_init_113 : decode cX10_init 113 = .ok (.sipush 512, 3) := by decide +kernel
theorem dX10_init_116 : decode cX10_init 116 = .ok (.newarray .boolean, 2) := by decide +kernel
theorem dX10_init_118 : decode cX10_init 118 = .ok (.putfield 50, 3) := by decide +kernel
theorem dX10_init_121 : decode cX10_init 121 = .ok (.aload_n 0, 1) := by decide +kernel
theorem dX10_init_122 : decode cX10_init 122 = .ok (.sipush 512, 3) := by decide +kernel
theorem dX10_init_125 : decode cX10_init 125 = .ok (.newarray .boolean, 2) := by decide +kernel
theorem dX10_init_127 : decode cX10_init 127 = .ok (.putfield 53, 3) := by decide +kernel
theorem dX10_init_130 : decode cX10_init 130 = .ok (.aload_n 0, 1) := by decide +kernel
theorem dX10_init_131 : decode cX10_init 131 = .ok (.sipush 512, 3) := by decide +kernel
theorem dX10_init_134 : decode cX10_init 134 = .ok (.newarray .int, 2) := by decide +kernel
theorem dX10_init_136 : decode cX10_init 136 = .ok (.putfield 56, 3) := by decide +kernel
theorem dX10_init_139 : decode cX10_init 139 = .ok (.aload_n 0, 1) := by decide +kernel
theorem dX10_init_140 : decode cX10_init 140 = .ok (.sipush 512, 3) := by decide +kernel
theorem dX10_init_143 : decode cX10_init 143 = .ok (.newarray .int, 2) := by decide +kernel
theorem dX10_init_145 : decode cX10_init 145 = .ok (.putfield 59, 3) := by decide +kernel
theorem dX10_init_148 : decode cX10_init 148 = .ok (.aload_n 0, 1) := by decide +kernel
theorem dX10_init_149 : decode cX10_init 149 = .ok (.sipush 5632, 3) := by decide +kernel
theorem dX10_init_152 : decode cX10_init 152 = .ok (.newarray .int, 2) := by decide +kernel
theorem dX10_init_154 : decode cX10_init 154 = .ok (.putfield 62, 3) := by decide +kernel
theorem dX10_init_157 : decode cX10_init 157 = .ok (.aload_n 0, 1) := by decide +kernel
theorem dX10_init_158 : decode cX10_init 158 = .ok (.getfield 35, 3) := by decide +kernel
theorem dX10_init_161 : decode cX10_init 161 = .ok (.iconst 0, 1) := by decide +kernel
theorem dX10_init_162 : decode cX10_init 162 = .ok (.iconst 2, 1) := by decide +kernel
theorem dX10_init_163 : decode cX10_init 163 = .ok (.iastore, 1) := by decide +kernel
theorem dX10_init_164 : decode cX10_init 164 = .ok (.iconst 0, 1) := by decide +kernel
theorem dX10_init_165 : decode cX10_init 165 = .ok (.istore_n 1, 1) := by decide +kernel
theorem dX10_init_166 : decode cX10_init 166 = .ok (.iload_n 1, 1) := by decide +kernel
theorem dX10_init_167 : decode cX10_init 167 = .ok (.bipush 32, 2) := by decide +kernel
theorem dX10_init_169 : decode cX10_init 169 = .ok (.if_icmp .ge 19, 3) := by decide +kernel
theorem dX10_init_172 : decode cX10_init 172 = .ok (.aload_n 0, 1) := by decide +kernel
theorem dX10_init_173 : decode cX10_init 173 = .ok (.getfield 35, 3) := by decide +kernel
theorem dX10_init_176 : decode cX10_init 176 = .ok (.bipush 22, 2) := by decide +kernel
theorem dX10_init_178 : decode cX10_init 178 = .ok (.iload_n 1, 1) := by decide +kernel
theorem dX10_init_179 : decode cX10_init 179 = .ok (.iadd, 1) := by decide +kernel
theorem dX10_init_180 : decode cX10_init 180 = .ok (.iconst (-1), 1) := by decide +kernel
theorem dX10_init_181 : decode cX10_init 181 = .ok (.iastore, 1) := by decide +kernel
theorem dX10_init_182 : decode cX10_init 182 = .ok (.iinc 1 1, 3) := by decide +kernel
theorem dX10_init_185 : decode cX10_init 185 = .ok (.goto (-19), 3) := by decide +kernel
theorem dX10_init_188 : decode cX10_init 188 = .ok (.iconst 0, 1) := by decide +kernel
theorem dX10_init_189 : decode cX10_init 189 = .ok (.istore_n 1, 1) := by decide +kernel
theorem dX10_init_190 : decode cX10_init 190 = .ok (.iload_n 1, 1) := by decide +kernel
theorem dX10_init_191 : decode cX10_init 191 = .ok (.sipush 1024, 3) := by decide +kernel
theorem dX10_init_194 : decode cX10_init 194 = .ok (.if_icmp .ge 23, 3) := by decide +kernel
theorem dX10_init_197 : decode cX10_init 197 = .ok (.aload_n 0, 1) := by decide +kernel
theorem dX10_init_198 : decode cX10_init 198 = .ok (.getfield 35, 3) := by decide +kernel
theorem dX10_init_201 : decode cX10_init 201 = .ok (.iconst 1, 1) := by decide +kernel
theorem dX10_init_202 : decode cX10_init 202 = .ok (.iload_n 1, 1) := by decide +kernel
theorem dX10_init_203 : decode cX10_init 203 = .ok (.iload_n 1, 1) := by decide +kernel
theorem dX10_init_204 : decode cX10_init 204 = .ok (.iconst 0, 1) := by decide +kernel
theorem dX10_init_205 : decode cX10_init 205 = .ok (.invokestatic 65, 3) := by decide +kernel
theorem dX10_init_208 : decode cX10_init 208 = .ok (.invokestatic 69, 3) := by decide +kernel
theorem dX10_init_211 : decode cX10_init 211 = .ok (.iinc 1 1, 3) := by decide +kernel
theorem dX10_init_214 : decode cX10_init 214 = .ok (.goto (-24), 3) := by decide +kernel
theorem dX10_init_217 : decode cX10_init 217 = .ok (.return_, 1) := by decide +kernel
theorem dX10_thrown_0 : decode cX10_thrown 0 = .ok (.aload_n 0, 1) := by decide +kernel
theorem dX10_thrown_1 : decode cX10_thrown 1 = .ok (.getfield 73, 3) := by decide +kernel
theorem dX10_thrown_4 : decode cX10_thrown 4 = .ok (.ireturn, 1) := by decide +kernel
theorem dX10_refused_0 : decode cX10_refused 0 = .ok (.aload_n 0, 1) := by decide +kernel
theorem dX10_refused_1 : decode cX10_refused 1 = .ok (.iload_n 1, 1) := by decide +kernel
theorem dX10_refused_2 : decode cX10_refused 2 = .ok (.putfield 73, 3) := by decide +kernel
theorem dX10_refused_5 : decode cX10_refused 5 = .ok (.iload_n 1, 1) := by decide +kernel
theorem dX10_refused_6 : decode cX10_refused 6 = .ok (.ifCond .le 7, 3) := by decide +kernel
theorem dX10_refused_9 : decode cX10_refused 9 = .ok (.iconst 1, 1) := by decide +kernel
theorem dX10_refused_10 : decode cX10_refused 10 = .ok (.goto 4, 3) := by decide +kernel
theorem dX10_refused_13 : decode cX10_refused 13 = .ok (.iconst 0, 1) := by decide +kernel
theorem dX10_refused_14 : decode cX10_refused 14 = .ok (.ireturn, 1) := by decide +kernel
theorem dX10_in_0 : decode cX10_in 0 = .ok (.lload_n 0, 1) := by decide +kernel
theorem dX10_in_1 : decode cX10_in 1 = .ok (.lload_n 2, 1) := by decide +kernel
theorem dX10_in_2 : decode cX10_in 2 = .ok (.lcmp, 1) := by decide +kernel
theorem dX10_in_3 : decode cX10_in 3 = .ok (.ifCond .lt 14, 3) := by decide +kernel
theorem dX10_in_6 : decode cX10_in 6 = .ok (.lload_n 0, 1) := by decide +kernel
theorem dX10_in_7 : decode cX10_in 7 = .ok (.lload 4, 2) := by decide +kernel
theorem dX10_in_9 : decode cX10_in 9 = .ok (.lcmp, 1) := by decide +kernel
theorem dX10_in_10 : decode cX10_in 10 = .ok (.ifCond .gt 7, 3) := by decide +kernel
theorem dX10_in_13 : decode cX10_in 13 = .ok (.iconst 1, 1) := by decide +kernel
theorem dX10_in_14 : decode cX10_in 14 = .ok (.goto 4, 3) := by decide +kernel
theorem dX10_in_17 : decode cX10_in 17 = .ok (.iconst 0, 1) := by decide +kernel
theorem dX10_in_18 : decode cX10_in 18 = .ok (.ireturn, 1) := by decide +kernel
theorem dX10_has_0 : decode cX10_has 0 = .ok (.iload_n 0, 1) := by decide +kernel
theorem dX10_has_1 : decode cX10_has 1 = .ok (.iload_n 1, 1) := by decide +kernel
theorem dX10_has_2 : decode cX10_has 2 = .ok (.ishr, 1) := by decide +kernel
theorem dX10_has_3 : decode cX10_has 3 = .ok (.iconst 1, 1) := by decide +kernel
theorem dX10_has_4 : decode cX10_has 4 = .ok (.iand, 1) := by decide +kernel
theorem dX10_has_5 : decode cX10_has 5 = .ok (.iconst 1, 1) := by decide +kernel
theorem dX10_has_6 : decode cX10_has 6 = .ok (.if_icmp .ne 7, 3) := by decide +kernel
theorem dX10_has_9 : decode cX10_has 9 = .ok (.iconst 1, 1) := by decide +kernel
theorem dX10_has_10 : decode cX10_has 10 = .ok (.goto 4, 3) := by decide +kernel
theorem dX10_has_13 : decode cX10_has 13 = .ok (.iconst 0, 1) := by decide +kernel
theorem dX10_has_14 : decode cX10_has 14 = .ok (.ireturn, 1) := by decide +kernel
theorem dX10_copy_0 : decode cX10_copy 0 = .ok (.iconst 0, 1) := by decide +kernel
theorem dX10_copy_1 : decode cX10_copy 1 = .ok (.istore 5, 2) := by decide +kernel
theorem dX10_copy_3 : decode cX10_copy 3 = .ok (.iload 5, 2) := by decide +kernel
theorem dX10_copy_5 : decode cX10_copy 5 = .ok (.iload 4, 2) := by decide +kernel
theorem dX10_copy_7 : decode cX10_copy 7 = .ok (.if_icmp .ge 21, 3) := by decide +kernel
theorem dX10_copy_10 : decode cX10_copy 10 = .ok (.aload_n 2, 1) := by decide +kernel
theorem dX10_copy_11 : decode cX10_copy 11 = .ok (.iload_n 3, 1) := by decide +kernel
theorem dX10_copy_12 : decode cX10_copy 12 = .ok (.iload 5, 2) := by decide +kernel
theorem dX10_copy_14 : decode cX10_copy 14 = .ok (.iadd, 1) := by decide +kernel
theorem dX10_copy_15 : decode cX10_copy 15 = .ok (.aload_n 0, 1) := by decide +kernel
theorem dX10_copy_16 : decode cX10_copy 16 = .ok (.iload_n 1, 1) := by decide +kernel
theorem dX10_copy_17 : decode cX10_copy 17 = .ok (.iload 5, 2) := by decide +kernel
theorem dX10_copy_19 : decode cX10_copy 19 = .ok (.iadd, 1) := by decide +kernel
theorem dX10_copy_20 : decode cX10_copy 20 = .ok (.iaload, 1) := by decide +kernel
theorem dX10_copy_21 : decode cX10_copy 21 = .ok (.iastore, 1) := by decide +kernel
theorem dX10_copy_22 : decode cX10_copy 22 = .ok (.iinc 5 1, 3) := by decide +kernel
theorem dX10_copy_25 : decode cX10_copy 25 = .ok (.goto (-22), 3) := by decide +kernel
theorem dX10_copy_28 : decode cX10_copy 28 = .ok (.return_, 1) := by decide +kernel
theorem dX10_tenTo_0 : decode cX10_tenTo 0 = .ok (.lconst 1, 1) := by decide +kernel
theorem dX10_tenTo_1 : decode cX10_tenTo 1 = .ok (.lstore_n 1, 1) := by decide +kernel
theorem dX10_tenTo_2 : decode cX10_tenTo 2 = .ok (.iconst 0, 1) := by decide +kernel
theorem dX10_tenTo_3 : decode cX10_tenTo 3 = .ok (.istore_n 3, 1) := by decide +kernel
theorem dX10_tenTo_4 : decode cX10_tenTo 4 = .ok (.iload_n 3, 1) := by decide +kernel
theorem dX10_tenTo_5 : decode cX10_tenTo 5 = .ok (.iload_n 0, 1) := by decide +kernel
theorem dX10_tenTo_6 : decode cX10_tenTo 6 = .ok (.if_icmp .ge 15, 3) := by decide +kernel
theorem dX10_tenTo_9 : decode cX10_tenTo 9 = .ok (.lload_n 1, 1) := by decide +kernel
theorem dX10_tenTo_10 : decode cX10_tenTo 10 = .ok (.ldc2_w 77, 3) := by decide +kernel
theorem dX10_tenTo_13 : decode cX10_tenTo 13 = .ok (.lmul, 1) := by decide +kernel
theorem dX10_tenTo_14 : decode cX10_tenTo 14 = .ok (.lstore_n 1, 1) := by decide +kernel
theorem dX10_tenTo_15 : decode cX10_tenTo 15 = .ok (.iinc 3 1, 3) := by decide +kernel
theorem dX10_tenTo_18 : decode cX10_tenTo 18 = .ok (.goto (-14), 3) := by decide +kernel
theorem dX10_tenTo_21 : decode cX10_tenTo 21 = .ok (.lload_n 1, 1) := by decide +kernel
theorem dX10_tenTo_22 : decode cX10_tenTo 22 = .ok (.lreturn, 1) := by decide +kernel
theorem dX10_count_0 : decode cX10_count 0 = .ok (.iconst 0, 1) := by decide +kernel
theorem dX10_count_1 : decode cX10_count 1 = .ok (.istore_n 1, 1) := by decide +kernel
theorem dX10_count_2 : decode cX10_count 2 = .ok (.iconst 0, 1) := by decide +kernel
theorem dX10_count_3 : decode cX10_count 3 = .ok (.istore_n 2, 1) := by decide +kernel
theorem dX10_count_4 : decode cX10_count 4 = .ok (.iload_n 2, 1) := by decide +kernel
theorem dX10_count_5 : decode cX10_count 5 = .ok (.bipush 10, 2) := by decide +kernel
theorem dX10_count_7 : decode cX10_count 7 = .ok (.if_icmp .ge 17, 3) := by decide +kernel
theorem dX10_count_10 : decode cX10_count 10 = .ok (.iload_n 1, 1) := by decide +kernel
theorem dX10_count_11 : decode cX10_count 11 = .ok (.iload_n 0, 1) := by decide +kernel
theorem dX10_count_12 : decode cX10_count 12 = .ok (.iload_n 2, 1) := by decide +kernel
theorem dX10_count_13 : decode cX10_count 13 = .ok (.ishr, 1) := by decide +kernel
theorem dX10_count_14 : decode cX10_count 14 = .ok (.iconst 1, 1) := by decide +kernel
theorem dX10_count_15 : decode cX10_count 15 = .ok (.iand, 1) := by decide +kernel
theorem dX10_count_16 : decode cX10_count 16 = .ok (.iadd, 1) := by decide +kernel
theorem dX10_count_17 : decode cX10_count 17 = .ok (.istore_n 1, 1) := by decide +kernel
theorem dX10_count_18 : decode cX10_count 18 = .ok (.iinc 2 1, 3) := by decide +kernel
theorem dX10_count_21 : decode cX10_count 21 = .ok (.goto (-17), 3) := by decide +kernel
theorem dX10_count_24 : decode cX10_count 24 = .ok (.iload_n 1, 1) := by decide +kernel
theorem dX10_count_25 : decode cX10_count 25 = .ok (.ireturn, 1) := by decide +kernel
theorem dX10_note_0 : decode cX10_note 0 = .ok (.aload_n 0, 1) := by decide +kernel
theorem dX10_note_1 : decode cX10_note 1 = .ok (.getfield 79, 3) := by decide +kernel
theorem dX10_note_4 : decode cX10_note 4 = .ok (.bipush 14, 2) := by decide +kernel
theorem dX10_note_6 : decode cX10_note 6 = .ok (.if_icmp .ne 31, 3) := by decide +kernel
theorem dX10_note_9 : decode cX10_note 9 = .ok (.aload_n 0, 1) := by decide +kernel
theorem dX10_note_10 : decode cX10_note 10 = .ok (.getfield 41, 3) := by decide +kernel
theorem dX10_note_13 : decode cX10_note 13 = .ok (.sipush 394, 3) := by decide +kernel
theorem dX10_note_16 : decode cX10_note 16 = .ok (.aload_n 0, 1) := by decide +kernel
theorem dX10_note_17 : decode cX10_note 17 = .ok (.getfield 41, 3) := by decide +kernel
theorem dX10_note_20 : decode cX10_note 20 = .ok (.iconst 0, 1) := by decide +kernel
theorem dX10_note_21 : decode cX10_note 21 = .ok (.sipush 5122, 3) := by decide +kernel
theorem dX10_note_24 : decode cX10_note 24 = .ok (.invokestatic 82, 3) := by decide +kernel
theorem dX10_note_27 : decode cX10_note 27 = .ok (.aload_n 0, 1) := by decide +kernel
theorem dX10_note_28 : decode cX10_note 28 = .ok (.dup, 1) := by decide +kernel
theorem dX10_note_29 : decode cX10_note 29 = .ok (.getfield 79, 3) := by decide +kernel
theorem dX10_note_32 : decode cX10_note 32 = .ok (.iconst 1, 1) := by decide +kernel
theorem dX10_note_33 : decode cX10_note 33 = .ok (.isub, 1) := by decide +kernel
theorem dX10_note_34 : decode cX10_note 34 = .ok (.putfield 79, 3) := by decide +kernel
theorem dX10_note_37 : decode cX10_note 37 = .ok (.aload_n 0, 1) := by decide +kernel
theorem dX10_note_38 : decode cX10_note 38 = .ok (.getfield 35, 3) := by decide +kernel
theorem dX10_note_41 : decode cX10_note 41 = .ok (.iconst 0, 1) := by decide +kernel
theorem dX10_note_42 : decode cX10_note 42 = .ok (.aload_n 0, 1) := by decide +kernel
theorem dX10_note_43 : decode cX10_note 43 = .ok (.getfield 41, 3) := by decide +kernel
theorem dX10_note_46 : decode cX10_note 46 = .ok (.sipush 394, 3) := by decide +kernel
theorem dX10_note_49 : decode cX10_note 49 = .ok (.aload_n 0, 1) := by decide +kernel
theorem dX10_note_50 : decode cX10_note 50 = .ok (.getfield 79, 3) := by decide +kernel
theorem dX10_note_53 : decode cX10_note 53 = .ok (.imul, 1) := by decide +kernel
theorem dX10_note_54 : decode cX10_note 54 = .ok (.sipush 394, 3) := by decide +kernel
theorem dX10_note_57 : decode cX10_note 57 = .ok (.invokestatic 82, 3) := by decide +kernel
theorem dX10_note_60 : decode cX10_note 60 = .ok (.aload_n 0, 1) := by decide +kernel
theorem dX10_note_61 : decode cX10_note 61 = .ok (.dup, 1) := by decide +kernel
theorem dX10_note_62 : decode cX10_note 62 = .ok (.getfield 79, 3) := by decide +kernel
theorem dX10_note_65 : decode cX10_note 65 = .ok (.iconst 1, 1) := by decide +kernel
theorem dX10_note_66 : decode cX10_note 66 = .ok (.iadd, 1) := by decide +kernel
theorem dX10_note_67 : decode cX10_note 67 = .ok (.putfield 79, 3) := by decide +kernel
theorem dX10_note_70 : decode cX10_note 70 = .ok (.return_, 1) := by decide +kernel
theorem dX10_begin_0 : decode cX10_begin 0 = .ok (.aload_n 0, 1) := by decide +kernel
theorem dX10_begin_1 : decode cX10_begin 1 = .ok (.getfield 35, 3) := by decide +kernel
theorem dX10_begin_4 : decode cX10_begin 4 = .ok (.iconst 0, 1) := by decide +kernel
theorem dX10_begin_5 : decode cX10_begin 5 = .ok (.aload_n 0, 1) := by decide +kernel
theorem dX10_begin_6 : decode cX10_begin 6 = .ok (.getfield 38, 3) := by decide +kernel
theorem dX10_begin_9 : decode cX10_begin 9 = .ok (.iconst 0, 1) := by decide +kernel
theorem dX10_begin_10 : decode cX10_begin 10 = .ok (.sipush 394, 3) := by decide +kernel
theorem dX10_begin_13 : decode cX10_begin 13 = .ok (.invokestatic 82, 3) := by decide +kernel
theorem dX10_begin_16 : decode cX10_begin 16 = .ok (.return_, 1) := by decide +kernel
theorem dX10_put_0 : decode cX10_put 0 = .ok (.bipush 22, 2) := by decide +kernel
theorem dX10_put_2 : decode cX10_put 2 = .ok (.bipush 32, 2) := by decide +kernel
theorem dX10_put_4 : decode cX10_put 4 = .ok (.iload_n 1, 1) := by decide +kernel
theorem dX10_put_5 : decode cX10_put 5 = .ok (.imul, 1) := by decide +kernel
theorem dX10_put_6 : decode cX10_put 6 = .ok (.iadd, 1) := by decide +kernel
theorem dX10_put_7 : decode cX10_put 7 = .ok (.iload_n 2, 1) := by decide +kernel
theorem dX10_put_8 : decode cX10_put 8 = .ok (.bipush 32, 2) := by decide +kernel
theorem dX10_put_10 : decode cX10_put 10 = .ok (.idiv, 1) := by decide +kernel
theorem dX10_put_11 : decode cX10_put 11 = .ok (.iadd, 1) := by decide +kernel
theorem dX10_put_12 : decode cX10_put 12 = .ok (.istore 4, 2) := by decide +kernel
theorem dX10_put_14 : decode cX10_put 14 = .ok (.iconst 1, 1) := by decide +kernel
theorem dX10_put_15 : decode cX10_put 15 = .ok (.iload_n 2, 1) := by decide +kernel
theorem dX10_put_16 : decode cX10_put 16 = .ok (.bipush 32, 2) := by decide +kernel
theorem dX10_put_18 : decode cX10_put 18 = .ok (.irem, 1) := by decide +kernel
theorem dX10_put_19 : decode cX10_put 19 = .ok (.ishl, 1) := by decide +kernel
theorem dX10_put_20 : decode cX10_put 20 = .ok (.istore 5, 2) := by decide +kernel
theorem dX10_put_22 : decode cX10_put 22 = .ok (.aload_n 0, 1) := by decide +kernel
theorem dX10_put_23 : decode cX10_put 23 = .ok (.iload 4, 2) := by decide +kernel
theorem dX10_put_25 : decode cX10_put 25 = .ok (.iload_n 3, 1) := by decide +kernel
theorem dX10_put_26 : decode cX10_put 26 = .ok (.ifCond .eq 13, 3) := by decide +kernel
theorem dX10_put_29 : decode cX10_put 29 = .ok (.aload_n 0, 1) := by decide +kernel
theorem dX10_put_30 : decode cX10_put 30 = .ok (.iload 4, 2) := by decide +kernel
theorem dX10_put_32 : decode cX10_put 32 = .ok (.iaload, 1) := by decide +kernel
theorem dX10_put_33 : decode cX10_put 33 = .ok (.iload 5, 2) := by decide +kernel
theorem dX10_put_35 : decode cX10_put 35 = .ok (.ior, 1) := by decide +kernel
theorem dX10_put_36 : decode cX10_put 36 = .ok (.goto 12, 3) := by decide +kernel
theorem dX10_put_39 : decode cX10_put 39 = .ok (.aload_n 0, 1) := by decide +kernel
theorem dX10_put_40 : decode cX10_put 40 = .ok (.iload 4, 2) := by decide +kernel
theorem dX10_put_42 : decode cX10_put 42 = .ok (.iaload, 1) := by decide +kernel
theorem dX10_put_43 : decode cX10_put 43 = .ok (.iload 5, 2) := by decide +kernel
theorem dX10_put_45 : decode cX10_put 45 = .ok (.iconst (-1), 1) := by decide +kernel
theorem dX10_put_46 : decode cX10_put 46 = .ok (.ixor, 1) := by decide +kernel
theorem dX10_put_47 : decode cX10_put 47 = .ok (.iand, 1) := by decide +kernel
theorem dX10_put_48 : decode cX10_put 48 = .ok (.iastore, 1) := by decide +kernel
theorem dX10_put_49 : decode cX10_put 49 = .ok (.return_, 1) := by decide +kernel
theorem dX10_isHeld_0 : decode cX10_isHeld 0 = .ok (.aload_n 0, 1) := by decide +kernel
theorem dX10_isHeld_1 : decode cX10_isHeld 1 = .ok (.bipush 22, 2) := by decide +kernel
theorem dX10_isHeld_3 : decode cX10_isHeld 3 = .ok (.bipush 32, 2) := by decide +kernel
theorem dX10_isHeld_5 : decode cX10_isHeld 5 = .ok (.iload_n 1, 1) := by decide +kernel
theorem dX10_isHeld_6 : decode cX10_isHeld 6 = .ok (.imul, 1) := by decide +kernel
theorem dX10_isHeld_7 : decode cX10_isHeld 7 = .ok (.iadd, 1) := by decide +kernel
theorem dX10_isHeld_8 : decode cX10_isHeld 8 = .ok (.iload_n 2, 1) := by decide +kernel
theorem dX10_isHeld_9 : decode cX10_isHeld 9 = .ok (.bipush 32, 2) := by decide +kernel
theorem dX10_isHeld_11 : decode cX10_isHeld 11 = .ok (.idiv, 1) := by decide +kernel
theorem dX10_isHeld_12 : decode cX10_isHeld 12 = .ok (.iadd, 1) := by decide +kernel
theorem dX10_isHeld_13 : decode cX10_isHeld 13 = .ok (.iaload, 1) := by decide +kernel
theorem dX10_isHeld_14 : decode cX10_isHeld 14 = .ok (.iload_n 2, 1) := by decide +kernel
theorem dX10_isHeld_15 : decode cX10_isHeld 15 = .ok (.bipush 32, 2) := by decide +kernel
theorem dX10_isHeld_17 : decode cX10_isHeld 17 = .ok (.irem, 1) := by decide +kernel
theorem dX10_isHeld_18 : decode cX10_isHeld 18 = .ok (.invokestatic 65, 3) := by decide +kernel
theorem dX10_isHeld_21 : decode cX10_isHeld 21 = .ok (.ireturn, 1) := by decide +kernel
theorem dX10_chest_0 : decode cX10_chest 0 = .ok (.aload_n 0, 1) := by decide +kernel
theorem dX10_chest_1 : decode cX10_chest 1 = .ok (.iconst 0, 1) := by decide +kernel
theorem dX10_chest_2 : decode cX10_chest 2 = .ok (.iaload, 1) := by decide +kernel
theorem dX10_chest_3 : decode cX10_chest 3 = .ok (.iconst 1, 1) := by decide +kernel
theorem dX10_chest_4 : decode cX10_chest 4 = .ok (.isub, 1) := by decide +kernel
theorem dX10_chest_5 : decode cX10_chest 5 = .ok (.ireturn, 1) := by decide +kernel
theorem dX10_heldBy_0 : decode cX10_heldBy 0 = .ok (.iconst 0, 1) := by decide +kernel
theorem dX10_heldBy_1 : decode cX10_heldBy 1 = .ok (.istore_n 2, 1) := by decide +kernel
theorem dX10_heldBy_2 : decode cX10_heldBy 2 = .ok (.iconst 0, 1) := by decide +kernel
theorem dX10_heldBy_3 : decode cX10_heldBy 3 = .ok (.istore_n 3, 1) := by decide +kernel
theorem dX10_heldBy_4 : decode cX10_heldBy 4 = .ok (.iload_n 3, 1) := by decide +kernel
theorem dX10_heldBy_5 : decode cX10_heldBy 5 = .ok (.iconst 1, 1) := by decide +kernel
theorem dX10_heldBy_6 : decode cX10_heldBy 6 = .ok (.aload_n 0, 1) := by decide +kernel
theorem dX10_heldBy_7 : decode cX10_heldBy 7 = .ok (.iconst 0, 1) := by decide +kernel
theorem dX10_heldBy_8 : decode cX10_heldBy 8 = .ok (.iaload, 1) := by decide +kernel
theorem dX10_heldBy_9 : decode cX10_heldBy 9 = .ok (.ishl, 1) := by decide +kernel
theorem dX10_heldBy_10 : decode cX10_heldBy 10 = .ok (.if_icmp .ge 34, 3) := by decide +kernel
theorem dX10_heldBy_13 : decode cX10_heldBy 13 = .ok (.iload_n 2, 1) := by decide +kernel
theorem dX10_heldBy_14 : decode cX10_heldBy 14 = .ok (.iload_n 3, 1) := by decide +kernel
theorem dX10_heldBy_15 : decode cX10_heldBy 15 = .ok (.iload_n 1, 1) := by decide +kernel
theorem dX10_heldBy_16 : decode cX10_heldBy 16 = .ok (.invokestatic 65, 3) := by decide +kernel
theorem dX10_heldBy_19 : decode cX10_heldBy 19 = .ok (.ifCond .ne 16, 3) := by decide +kernel
theorem dX10_heldBy_22 : decode cX10_heldBy 22 = .ok (.aload_n 0, 1) := by decide +kernel
theorem dX10_heldBy_23 : decode cX10_heldBy 23 = .ok (.iload_n 1, 1) := by decide +kernel
theorem dX10_heldBy_24 : decode cX10_heldBy 24 = .ok (.iload_n 3, 1) := by decide +kernel
theorem dX10_heldBy_25 : decode cX10_heldBy 25 = .ok (.invokestatic 86, 3) := by decide +kernel
theorem dX10_heldBy_28 : decode cX10_heldBy 28 = .ok (.ifCond .eq 7, 3) := by decide +kernel
theorem dX10_heldBy_31 : decode cX10_heldBy 31 = .ok (.iconst 1, 1) := by decide +kernel
theorem dX10_heldBy_32 : decode cX10_heldBy 32 = .ok (.goto 4, 3) := by decide +kernel
theorem dX10_heldBy_35 : decode cX10_heldBy 35 = .ok (.iconst 0, 1) := by decide +kernel
theorem dX10_heldBy_36 : decode cX10_heldBy 36 = .ok (.iadd, 1) := by decide +kernel
theorem dX10_heldBy_37 : decode cX10_heldBy 37 = .ok (.istore_n 2, 1) := by decide +kernel
theorem dX10_heldBy_38 : decode cX10_heldBy 38 = .ok (.iinc 3 1, 3) := by decide +kernel
theorem dX10_heldBy_41 : decode cX10_heldBy 41 = .ok (.goto (-37), 3) := by decide +kernel
theorem dX10_heldBy_44 : decode cX10_heldBy 44 = .ok (.iload_n 2, 1) := by decide +kernel
theorem dX10_heldBy_45 : decode cX10_heldBy 45 = .ok (.ireturn, 1) := by decide +kernel
theorem dX10_apart_0 : decode cX10_apart 0 = .ok (.iload_n 0, 1) := by decide +kernel
theorem dX10_apart_1 : decode cX10_apart 1 = .ok (.iload_n 1, 1) := by decide +kernel
theorem dX10_apart_2 : decode cX10_apart 2 = .ok (.if_icmp .ge 9, 3) := by decide +kernel
theorem dX10_apart_5 : decode cX10_apart 5 = .ok (.iload_n 1, 1) := by decide +kernel
theorem dX10_apart_6 : decode cX10_apart 6 = .ok (.iload_n 0, 1) := by decide +kernel
theorem dX10_apart_7 : decode cX10_apart 7 = .ok (.isub, 1) := by decide +kernel
theorem dX10_apart_8 : decode cX10_apart 8 = .ok (.goto 6, 3) := by decide +kernel
theorem dX10_apart_11 : decode cX10_apart 11 = .ok (.iload_n 0, 1) := by decide +kernel
theorem dX10_apart_12 : decode cX10_apart 12 = .ok (.iload_n 1, 1) := by decide +kernel
theorem dX10_apart_13 : decode cX10_apart 13 = .ok (.isub, 1) := by decide +kernel
theorem dX10_apart_14 : decode cX10_apart 14 = .ok (.ireturn, 1) := by decide +kernel
theorem dX10_minutes_0 : decode cX10_minutes 0 = .ok (.iload_n 1, 1) := by decide +kernel
theorem dX10_minutes_1 : decode cX10_minutes 1 = .ok (.bipush (-9), 2) := by decide +kernel
theorem dX10_minutes_3 : decode cX10_minutes 3 = .ok (.if_icmp .ne 7, 3) := by decide +kernel
theorem dX10_minutes_6 : decode cX10_minutes 6 = .ok (.iconst 0, 1) := by decide +kernel
theorem dX10_minutes_7 : decode cX10_minutes 7 = .ok (.goto 10, 3) := by decide +kernel
theorem dX10_minutes_10 : decode cX10_minutes 10 = .ok (.aload_n 0, 1) := by decide +kernel
theorem dX10_minutes_11 : decode cX10_minutes 11 = .ok (.iconst 2, 1) := by decide +kernel
theorem dX10_minutes_12 : decode cX10_minutes 12 = .ok (.iconst 2, 1) := by decide +kernel
theorem dX10_minutes_13 : decode cX10_minutes 13 = .ok (.iload_n 1, 1) := by decide +kernel
theorem dX10_minutes_14 : decode cX10_minutes 14 = .ok (.imul, 1) := by decide +kernel
theorem dX10_minutes_15 : decode cX10_minutes 15 = .ok (.iadd, 1) := by decide +kernel
theorem dX10_minutes_16 : decode cX10_minutes 16 = .ok (.iaload, 1) := by decide +kernel
theorem dX10_minutes_17 : decode cX10_minutes 17 = .ok (.istore_n 3, 1) := by decide +kernel
theorem dX10_minutes_18 : decode cX10_minutes 18 = .ok (.iload_n 1, 1) := by decide +kernel
theorem dX10_minutes_19 : decode cX10_minutes 19 = .ok (.bipush (-9), 2) := by decide +kernel
theorem dX10_minutes_21 : decode cX10_minutes 21 = .ok (.if_icmp .ne 7, 3) := by decide +kernel
theorem dX10_minutes_24 : decode cX10_minutes 24 = .ok (.iconst 0, 1) := by decide +kernel
theorem dX10_minutes_25 : decode cX10_minutes 25 = .ok (.goto 12, 3) := by decide +kernel
theorem dX10_minutes_28 : decode cX10_minutes 28 = .ok (.aload_n 0, 1) := by decide +kernel
theorem dX10_minutes_29 : decode cX10_minutes 29 = .ok (.iconst 2, 1) := by decide +kernel
theorem dX10_minutes_30 : decode cX10_minutes 30 = .ok (.iconst 2, 1) := by decide +kernel
theorem dX10_minutes_31 : decode cX10_minutes 31 = .ok (.iload_n 1, 1) := by decide +kernel
theorem dX10_minutes_32 : decode cX10_minutes 32 = .ok (.imul, 1) := by decide +kernel
theorem dX10_minutes_33 : decode cX10_minutes 33 = .ok (.iadd, 1) := by decide +kernel
theorem dX10_minutes_34 : decode cX10_minutes 34 = .ok (.iconst 1, 1) := by decide +kernel
theorem dX10_minutes_35 : decode cX10_minutes 35 = .ok (.iadd, 1) := by decide +kernel
theorem dX10_minutes_36 : decode cX10_minutes 36 = .ok (.iaload, 1) := by decide +kernel
theorem dX10_minutes_37 : decode cX10_minutes 37 = .ok (.istore 4, 2) := by decide +kernel
theorem dX10_minutes_39 : decode cX10_minutes 39 = .ok (.iconst 1, 1) := by decide +kernel
theorem dX10_minutes_40 : decode cX10_minutes 40 = .ok (.iload_n 3, 1) := by decide +kernel
theorem dX10_minutes_41 : decode cX10_minutes 41 = .ok (.aload_n 0, 1) := by decide +kernel
theorem dX10_minutes_42 : decode cX10_minutes 42 = .ok (.iconst 2, 1) := by decide +kernel
theorem dX10_minutes_43 : decode cX10_minutes 43 = .ok (.iconst 2, 1) := by decide +kernel
theorem dX10_minutes_44 : decode cX10_minutes 44 = .ok (.iload_n 2, 1) := by decide +kernel
theorem dX10_minutes_45 : decode cX10_minutes 45 = .ok (.imul, 1) := by decide +kernel
theorem dX10_minutes_46 : decode cX10_minutes 46 = .ok (.iadd, 1) := by decide +kernel
theorem dX10_minutes_47 : decode cX10_minutes 47 = .ok (.iaload, 1) := by decide +kernel
theorem dX10_minutes_48 : decode cX10_minutes 48 = .ok (.invokestatic 90, 3) := by decide +kernel
theorem dX10_minutes_51 : decode cX10_minutes 51 = .ok (.iadd, 1) := by decide +kernel
theorem dX10_minutes_52 : decode cX10_minutes 52 = .ok (.iload 4, 2) := by decide +kernel
theorem dX10_minutes_54 : decode cX10_minutes 54 = .ok (.aload_n 0, 1) := by decide +kernel
theorem dX10_minutes_55 : decode cX10_minutes 55 = .ok (.iconst 2, 1) := by decide +kernel
theorem dX10_minutes_56 : decode cX10_minutes 56 = .ok (.iconst 2, 1) := by decide +kernel
theorem dX10_minutes_57 : decode cX10_minutes 57 = .ok (.iload_n 2, 1) := by decide +kernel
theorem dX10_minutes_58 : decode cX10_minutes 58 = .ok (.imul, 1) := by decide +kernel
theorem dX10_minutes_59 : decode cX10_minutes 59 = .ok (.iadd, 1) := by decide +kernel
theorem dX10_minutes_60 : decode cX10_minutes 60 = .ok (.iconst 1, 1) := by decide +kernel
theorem dX10_minutes_61 : decode cX10_minutes 61 = .ok (.iadd, 1) := by decide +kernel
theorem dX10_minutes_62 : decode cX10_minutes 62 = .ok (.iaload, 1) := by decide +kernel
theorem dX10_minutes_63 : decode cX10_minutes 63 = .ok (.invokestatic 90, 3) := by decide +kernel
theorem dX10_minutes_66 : decode cX10_minutes 66 = .ok (.iadd, 1) := by decide +kernel
theorem dX10_minutes_67 : decode cX10_minutes 67 = .ok (.ireturn, 1) := by decide +kernel
theorem dX10_canVisit_0 : decode cX10_canVisit 0 = .ok (.iload_n 1, 1) := by decide +kernel
theorem dX10_canVisit_1 : decode cX10_canVisit 1 = .ok (.iload_n 2, 1) := by decide +kernel
theorem dX10_canVisit_2 : decode cX10_canVisit 2 = .ok (.invokestatic 65, 3) := by decide +kernel
theorem dX10_canVisit_5 : decode cX10_canVisit 5 = .ok (.ifCond .ne 27, 3) := by decide +kernel
theorem dX10_canVisit_8 : decode cX10_canVisit 8 = .ok (.iload_n 1, 1) := by decide +kernel
theorem dX10_canVisit_9 : decode cX10_canVisit 9 = .ok (.aload_n 0, 1) := by decide +kernel
theorem dX10_canVisit_10 : decode cX10_canVisit 10 = .ok (.invokestatic 94, 3) := by decide +kernel
theorem dX10_canVisit_13 : decode cX10_canVisit 13 = .ok (.invokestatic 65, 3) := by decide +kernel
theorem dX10_canVisit_16 : decode cX10_canVisit 16 = .ok (.ifCond .ne 16, 3) := by decide +kernel
theorem dX10_canVisit_19 : decode cX10_canVisit 19 = .ok (.aload_n 0, 1) := by decide +kernel
theorem dX10_canVisit_20 : decode cX10_canVisit 20 = .ok (.iload_n 2, 1) := by decide +kernel
theorem dX10_canVisit_21 : decode cX10_canVisit 21 = .ok (.iload_n 1, 1) := by decide +kernel
theorem dX10_canVisit_22 : decode cX10_canVisit 22 = .ok (.invokestatic 86, 3) := by decide +kernel
theorem dX10_canVisit_25 : decode cX10_canVisit 25 = .ok (.ifCond .eq 7, 3) := by decide +kernel
theorem dX10_canVisit_28 : decode cX10_canVisit 28 = .ok (.iconst 1, 1) := by decide +kernel
theorem dX10_canVisit_29 : decode cX10_canVisit 29 = .ok (.goto 4, 3) := by decide +kernel
theorem dX10_canVisit_32 : decode cX10_canVisit 32 = .ok (.iconst 0, 1) := by decide +kernel
theorem dX10_canVisit_33 : decode cX10_canVisit 33 = .ok (.ireturn, 1) := by decide +kernel
theorem dX10_openOf_0 : decode cX10_openOf 0 = .ok (.iconst 0, 1) := by decide +kernel
theorem dX10_openOf_1 : decode cX10_openOf 1 = .ok (.istore_n 2, 1) := by decide +kernel
theorem dX10_openOf_2 : decode cX10_openOf 2 = .ok (.iconst 0, 1) := by decide +kernel
theorem dX10_openOf_3 : decode cX10_openOf 3 = .ok (.istore_n 3, 1) := by decide +kernel
theorem dX10_openOf_4 : decode cX10_openOf 4 = .ok (.iload_n 3, 1) := by decide +kernel
theorem dX10_openOf_5 : decode cX10_openOf 5 = .ok (.aload_n 0, 1) := by decide +kernel
theorem dX10_openOf_6 : decode cX10_openOf 6 = .ok (.iconst 0, 1) := by decide +kernel
theorem dX10_openOf_7 : decode cX10_openOf 7 = .ok (.iaload, 1) := by decide +kernel
theorem dX10_openOf_8 : decode cX10_openOf 8 = .ok (.if_icmp .ge 28, 3) := by decide +kernel
theorem dX10_openOf_11 : decode cX10_openOf 11 = .ok (.iload_n 2, 1) := by decide +kernel
theorem dX10_openOf_12 : decode cX10_openOf 12 = .ok (.aload_n 0, 1) := by decide +kernel
theorem dX10_openOf_13 : decode cX10_openOf 13 = .ok (.iload_n 1, 1) := by decide +kernel
theorem dX10_openOf_14 : decode cX10_openOf 14 = .ok (.iload_n 3, 1) := by decide +kernel
theorem dX10_openOf_15 : decode cX10_openOf 15 = .ok (.invokestatic 98, 3) := by decide +kernel
theorem dX10_openOf_18 : decode cX10_openOf 18 = .ok (.ifCond .eq 9, 3) := by decide +kernel
theorem dX10_openOf_21 : decode cX10_openOf 21 = .ok (.iconst 1, 1) := by decide +kernel
theorem dX10_openOf_22 : decode cX10_openOf 22 = .ok (.iload_n 3, 1) := by decide +kernel
theorem dX10_openOf_23 : decode cX10_openOf 23 = .ok (.ishl, 1) := by decide +kernel
theorem dX10_openOf_24 : decode cX10_openOf 24 = .ok (.goto 4, 3) := by decide +kernel
theorem dX10_openOf_27 : decode cX10_openOf 27 = .ok (.iconst 0, 1) := by decide +kernel
theorem dX10_openOf_28 : decode cX10_openOf 28 = .ok (.ior, 1) := by decide +kernel
theorem dX10_openOf_29 : decode cX10_openOf 29 = .ok (.istore_n 2, 1) := by decide +kernel
theorem dX10_openOf_30 : decode cX10_openOf 30 = .ok (.iinc 3 1, 3) := by decide +kernel
theorem dX10_openOf_33 : decode cX10_openOf 33 = .ok (.goto (-29), 3) := by decide +kernel
theorem dX10_openOf_36 : decode cX10_openOf 36 = .ok (.iload_n 2, 1) := by decide +kernel
theorem dX10_openOf_37 : decode cX10_openOf 37 = .ok (.ireturn, 1) := by decide +kernel
theorem dX10_makeEasy_0 : decode cX10_makeEasy 0 = .ok (.iconst 0, 1) := by decide +kernel
theorem dX10_makeEasy_1 : decode cX10_makeEasy 1 = .ok (.istore_n 2, 1) := by decide +kernel
theorem dX10_makeEasy_2 : decode cX10_makeEasy 2 = .ok (.iload_n 2, 1) := by decide +kernel
theorem dX10_makeEasy_3 : decode cX10_makeEasy 3 = .ok (.bipush 32, 2) := by decide +kernel
theorem dX10_makeEasy_5 : decode cX10_makeEasy 5 = .ok (.if_icmp .ge 21, 3) := by decide +kernel
theorem dX10_makeEasy_8 : decode cX10_makeEasy 8 = .ok (.aload_n 0, 1) := by decide +kernel
theorem dX10_makeEasy_9 : decode cX10_makeEasy 9 = .ok (.bipush 22, 2) := by decide +kernel
theorem dX10_makeEasy_11 : decode cX10_makeEasy 11 = .ok (.bipush 32, 2) := by decide +kernel
theorem dX10_makeEasy_13 : decode cX10_makeEasy 13 = .ok (.iload_n 1, 1) := by decide +kernel
theorem dX10_makeEasy_14 : decode cX10_makeEasy 14 = .ok (.imul, 1) := by decide +kernel
theorem dX10_makeEasy_15 : decode cX10_makeEasy 15 = .ok (.iadd, 1) := by decide +kernel
theorem dX10_makeEasy_16 : decode cX10_makeEasy 16 = .ok (.iload_n 2, 1) := by decide +kernel
theorem dX10_makeEasy_17 : decode cX10_makeEasy 17 = .ok (.iadd, 1) := by decide +kernel
theorem dX10_makeEasy_18 : decode cX10_makeEasy 18 = .ok (.iconst (-1), 1) := by decide +kernel
theorem dX10_makeEasy_19 : decode cX10_makeEasy 19 = .ok (.iastore, 1) := by decide +kernel
theorem dX10_makeEasy_20 : decode cX10_makeEasy 20 = .ok (.iinc 2 1, 3) := by decide +kernel
theorem dX10_makeEasy_23 : decode cX10_makeEasy 23 = .ok (.goto (-21), 3) := by decide +kernel
theorem dX10_makeEasy_26 : decode cX10_makeEasy 26 = .ok (.return_, 1) := by decide +kernel
theorem dX10_cell_0 : decode cX10_cell 0 = .ok (.sipush 342, 3) := by decide +kernel
theorem dX10_cell_3 : decode cX10_cell 3 = .ok (.bipush 13, 2) := by decide +kernel
theorem dX10_cell_5 : decode cX10_cell 5 = .ok (.iload_n 0, 1) := by decide +kernel
theorem dX10_cell_6 : decode cX10_cell 6 = .ok (.imul, 1) := by decide +kernel
theorem dX10_cell_7 : decode cX10_cell 7 = .ok (.iadd, 1) := by decide +kernel
theorem dX10_cell_8 : decode cX10_cell 8 = .ok (.iload_n 1, 1) := by decide +kernel
theorem dX10_cell_9 : decode cX10_cell 9 = .ok (.iadd, 1) := by decide +kernel
theorem dX10_cell_10 : decode cX10_cell 10 = .ok (.ireturn, 1) := by decide +kernel
theorem dX10_visited_0 : decode cX10_visited 0 = .ok (.iconst 0, 1) := by decide +kernel
theorem dX10_visited_1 : decode cX10_visited 1 = .ok (.istore_n 2, 1) := by decide +kernel
theorem dX10_visited_2 : decode cX10_visited 2 = .ok (.iconst 0, 1) := by decide +kernel
theorem dX10_visited_3 : decode cX10_visited 3 = .ok (.istore_n 3, 1) := by decide +kernel
theorem dX10_visited_4 : decode cX10_visited 4 = .ok (.iload_n 3, 1) := by decide +kernel
theorem dX10_visited_5 : decode cX10_visited 5 = .ok (.aload_n 0, 1) := by decide +kernel
theorem dX10_visited_6 : decode cX10_visited 6 = .ok (.iload_n 1, 1) := by decide +kernel
theorem dX10_visited_7 : decode cX10_visited 7 = .ok (.iconst 0, 1) := by decide +kernel
theorem dX10_visited_8 : decode cX10_visited 8 = .ok (.invokestatic 101, 3) := by decide +kernel
theorem dX10_visited_11 : decode cX10_visited 11 = .ok (.iaload, 1) := by decide +kernel
theorem dX10_visited_12 : decode cX10_visited 12 = .ok (.if_icmp .ge 23, 3) := by decide +kernel
theorem dX10_visited_15 : decode cX10_visited 15 = .ok (.iload_n 2, 1) := by decide +kernel
theorem dX10_visited_16 : decode cX10_visited 16 = .ok (.iconst 1, 1) := by decide +kernel
theorem dX10_visited_17 : decode cX10_visited 17 = .ok (.aload_n 0, 1) := by decide +kernel
theorem dX10_visited_18 : decode cX10_visited 18 = .ok (.iload_n 1, 1) := by decide +kernel
theorem dX10_visited_19 : decode cX10_visited 19 = .ok (.iconst 3, 1) := by decide +kernel
theorem dX10_visited_20 : decode cX10_visited 20 = .ok (.iload_n 3, 1) := by decide +kernel
theorem dX10_visited_21 : decode cX10_visited 21 = .ok (.iadd, 1) := by decide +kernel
theorem dX10_visited_22 : decode cX10_visited 22 = .ok (.invokestatic 101, 3) := by decide +kernel
theorem dX10_visited_25 : decode cX10_visited 25 = .ok (.iaload, 1) := by decide +kernel
theorem dX10_visited_26 : decode cX10_visited 26 = .ok (.ishl, 1) := by decide +kernel
theorem dX10_visited_27 : decode cX10_visited 27 = .ok (.ior, 1) := by decide +kernel
theorem dX10_visited_28 : decode cX10_visited 28 = .ok (.istore_n 2, 1) := by decide +kernel
theorem dX10_visited_29 : decode cX10_visited 29 = .ok (.iinc 3 1, 3) := by decide +kernel
theorem dX10_visited_32 : decode cX10_visited 32 = .ok (.goto (-28), 3) := by decide +kernel
theorem dX10_visited_35 : decode cX10_visited 35 = .ok (.iload_n 2, 1) := by decide +kernel
theorem dX10_visited_36 : decode cX10_visited 36 = .ok (.ireturn, 1) := by decide +kernel
theorem dX10_last_0 : decode cX10_last 0 = .ok (.aload_n 0, 1) := by decide +kernel
theorem dX10_last_1 : decode cX10_last 1 = .ok (.iload_n 1, 1) := by decide +kernel
theorem dX10_last_2 : decode cX10_last 2 = .ok (.iconst 0, 1) := by decide +kernel
theorem dX10_last_3 : decode cX10_last 3 = .ok (.invokestatic 101, 3) := by decide +kernel
theorem dX10_last_6 : decode cX10_last 6 = .ok (.iaload, 1) := by decide +kernel
theorem dX10_last_7 : decode cX10_last 7 = .ok (.istore_n 2, 1) := by decide +kernel
theorem dX10_last_8 : decode cX10_last 8 = .ok (.iload_n 2, 1) := by decide +kernel
theorem dX10_last_9 : decode cX10_last 9 = .ok (.ifCond .ne 8, 3) := by decide +kernel
theorem dX10_last_12 : decode cX10_last 12 = .ok (.bipush (-9), 2) := by decide +kernel
theorem dX10_last_14 : decode cX10_last 14 = .ok (.goto 14, 3) := by decide +kernel
theorem dX10_last_17 : decode cX10_last 17 = .ok (.aload_n 0, 1) := by decide +kernel
theorem dX10_last_18 : decode cX10_last 18 = .ok (.iload_n 1, 1) := by decide +kernel
theorem dX10_last_19 : decode cX10_last 19 = .ok (.iconst 3, 1) := by decide +kernel
theorem dX10_last_20 : decode cX10_last 20 = .ok (.iload_n 2, 1) := by decide +kernel
theorem dX10_last_21 : decode cX10_last 21 = .ok (.iadd, 1) := by decide +kernel
theorem dX10_last_22 : decode cX10_last 22 = .ok (.iconst 1, 1) := by decide +kernel
theorem dX10_last_23 : decode cX10_last 23 = .ok (.isub, 1) := by decide +kernel
theorem dX10_last_24 : decode cX10_last 24 = .ok (.invokestatic 101, 3) := by decide +kernel
theorem dX10_last_27 : decode cX10_last 27 = .ok (.iaload, 1) := by decide +kernel
theorem dX10_last_28 : decode cX10_last 28 = .ok (.ireturn, 1) := by decide +kernel
theorem dX10_isThere_0 : decode cX10_isThere 0 = .ok (.aload_n 0, 1) := by decide +kernel
theorem dX10_isThere_1 : decode cX10_isThere 1 = .ok (.iload_n 1, 1) := by decide +kernel
theorem dX10_isThere_2 : decode cX10_isThere 2 = .ok (.invokestatic 104, 3) := by decide +kernel
theorem dX10_isThere_5 : decode cX10_isThere 5 = .ok (.aload_n 0, 1) := by decide +kernel
theorem dX10_isThere_6 : decode cX10_isThere 6 = .ok (.invokestatic 94, 3) := by decide +kernel
theorem dX10_isThere_9 : decode cX10_isThere 9 = .ok (.invokestatic 65, 3) := by decide +kernel
theorem dX10_isThere_12 : decode cX10_isThere 12 = .ok (.ireturn, 1) := by decide +kernel
theorem dX10_score_0 : decode cX10_score 0 = .ok (.sipush 200, 3) := by decide +kernel
theorem dX10_score_3 : decode cX10_score 3 = .ok (.aload_n 0, 1) := by decide +kernel
theorem dX10_score_4 : decode cX10_score 4 = .ok (.iload_n 1, 1) := by decide +kernel
theorem dX10_score_5 : decode cX10_score 5 = .ok (.iconst 1, 1) := by decide +kernel
theorem dX10_score_6 : decode cX10_score 6 = .ok (.invokestatic 101, 3) := by decide +kernel
theorem dX10_score_9 : decode cX10_score 9 = .ok (.iaload, 1) := by decide +kernel
theorem dX10_score_10 : decode cX10_score 10 = .ok (.isub, 1) := by decide +kernel
theorem dX10_score_11 : decode cX10_score 11 = .ok (.bipush 10, 2) := by decide +kernel
theorem dX10_score_13 : decode cX10_score 13 = .ok (.aload_n 0, 1) := by decide +kernel
theorem dX10_score_14 : decode cX10_score 14 = .ok (.iload_n 1, 1) := by decide +kernel
theorem dX10_score_15 : decode cX10_score 15 = .ok (.iconst 2, 1) := by decide +kernel
theorem dX10_score_16 : decode cX10_score 16 = .ok (.invokestatic 101, 3) := by decide +kernel
theorem dX10_score_19 : decode cX10_score 19 = .ok (.iaload, 1) := by decide +kernel
theorem dX10_score_20 : decode cX10_score 20 = .ok (.imul, 1) := by decide +kernel
theorem dX10_score_21 : decode cX10_score 21 = .ok (.isub, 1) := by decide +kernel
theorem dX10_score_22 : decode cX10_score 22 = .ok (.istore_n 2, 1) := by decide +kernel
theorem dX10_score_23 : decode cX10_score 23 = .ok (.aload_n 0, 1) := by decide +kernel
theorem dX10_score_24 : decode cX10_score 24 = .ok (.iload_n 1, 1) := by decide +kernel
theorem dX10_score_25 : decode cX10_score 25 = .ok (.invokestatic 108, 3) := by decide +kernel
theorem dX10_score_28 : decode cX10_score 28 = .ok (.ifCond .eq 11, 3) := by decide +kernel
theorem dX10_score_31 : decode cX10_score 31 = .ok (.iload_n 2, 1) := by decide +kernel
theorem dX10_score_32 : decode cX10_score 32 = .ok (.ifCond .le 7, 3) := by decide +kernel
theorem dX10_score_35 : decode cX10_score 35 = .ok (.iload_n 2, 1) := by decide +kernel
theorem dX10_score_36 : decode cX10_score 36 = .ok (.goto 4, 3) := by decide +kernel
theorem dX10_score_39 : decode cX10_score 39 = .ok (.iconst 0, 1) := by decide +kernel
theorem dX10_score_40 : decode cX10_score 40 = .ok (.ireturn, 1) := by decide +kernel
theorem dX10_visit_0 : decode cX10_visit 0 = .ok (.aload_n 0, 1) := by decide +kernel
theorem dX10_visit_1 : decode cX10_visit 1 = .ok (.iload_n 1, 1) := by decide +kernel
theorem dX10_visit_2 : decode cX10_visit 2 = .ok (.iconst 1, 1) := by decide +kernel
theorem dX10_visit_3 : decode cX10_visit 3 = .ok (.invokestatic 101, 3) := by decide +kernel
theorem dX10_visit_6 : decode cX10_visit 6 = .ok (.dup2, 1) := by decide +kernel
theorem dX10_visit_7 : decode cX10_visit 7 = .ok (.iaload, 1) := by decide +kernel
theorem dX10_visit_8 : decode cX10_visit 8 = .ok (.aload_n 0, 1) := by decide +kernel
theorem dX10_visit_9 : decode cX10_visit 9 = .ok (.aload_n 0, 1) := by decide +kernel
theorem dX10_visit_10 : decode cX10_visit 10 = .ok (.iload_n 1, 1) := by decide +kernel
theorem dX10_visit_11 : decode cX10_visit 11 = .ok (.invokestatic 112, 3) := by decide +kernel
theorem dX10_visit_14 : decode cX10_visit 14 = .ok (.iload_n 2, 1) := by decide +kernel
theorem dX10_visit_15 : decode cX10_visit 15 = .ok (.invokestatic 115, 3) := by decide +kernel
theorem dX10_visit_18 : decode cX10_visit 18 = .ok (.iadd, 1) := by decide +kernel
theorem dX10_visit_19 : decode cX10_visit 19 = .ok (.iastore, 1) := by decide +kernel
theorem dX10_visit_20 : decode cX10_visit 20 = .ok (.aload_n 0, 1) := by decide +kernel
theorem dX10_visit_21 : decode cX10_visit 21 = .ok (.iload_n 1, 1) := by decide +kernel
theorem dX10_visit_22 : decode cX10_visit 22 = .ok (.iconst 3, 1) := by decide +kernel
theorem dX10_visit_23 : decode cX10_visit 23 = .ok (.aload_n 0, 1) := by decide +kernel
theorem dX10_visit_24 : decode cX10_visit 24 = .ok (.iload_n 1, 1) := by decide +kernel
theorem dX10_visit_25 : decode cX10_visit 25 = .ok (.iconst 0, 1) := by decide +kernel
theorem dX10_visit_26 : decode cX10_visit 26 = .ok (.invokestatic 101, 3) := by decide +kernel
theorem dX10_visit_29 : decode cX10_visit 29 = .ok (.iaload, 1) := by decide +kernel
theorem dX10_visit_30 : decode cX10_visit 30 = .ok (.iadd, 1) := by decide +kernel
theorem dX10_visit_31 : decode cX10_visit 31 = .ok (.invokestatic 101, 3) := by decide +kernel
theorem dX10_visit_34 : decode cX10_visit 34 = .ok (.iload_n 2, 1) := by decide +kernel
theorem dX10_visit_35 : decode cX10_visit 35 = .ok (.iastore, 1) := by decide +kernel
theorem dX10_visit_36 : decode cX10_visit 36 = .ok (.aload_n 0, 1) := by decide +kernel
theorem dX10_visit_37 : decode cX10_visit 37 = .ok (.iload_n 1, 1) := by decide +kernel
theorem dX10_visit_38 : decode cX10_visit 38 = .ok (.iconst 0, 1) := by decide +kernel
theorem dX10_visit_39 : decode cX10_visit 39 = .ok (.invokestatic 101, 3) := by decide +kernel
theorem dX10_visit_42 : decode cX10_visit 42 = .ok (.dup2, 1) := by decide +kernel
theorem dX10_visit_43 : decode cX10_visit 43 = .ok (.iaload, 1) := by decide +kernel
theorem dX10_visit_44 : decode cX10_visit 44 = .ok (.iconst 1, 1) := by decide +kernel
theorem dX10_visit_45 : decode cX10_visit 45 = .ok (.iadd, 1) := by decide +kernel
theorem dX10_visit_46 : decode cX10_visit 46 = .ok (.iastore, 1) := by decide +kernel
theorem dX10_visit_47 : decode cX10_visit 47 = .ok (.return_, 1) := by decide +kernel
theorem dX10_clearTeam_0 : decode cX10_clearTeam 0 = .ok (.iconst 0, 1) := by decide +kernel
theorem dX10_clearTeam_1 : decode cX10_clearTeam 1 = .ok (.istore_n 2, 1) := by decide +kernel
theorem dX10_clearTeam_2 : decode cX10_clearTeam 2 = .ok (.iload_n 2, 1) := by decide +kernel
theorem dX10_clearTeam_3 : decode cX10_clearTeam 3 = .ok (.bipush 13, 2) := by decide +kernel
theorem dX10_clearTeam_5 : decode cX10_clearTeam 5 = .ok (.if_icmp .ge 17, 3) := by decide +kernel
theorem dX10_clearTeam_8 : decode cX10_clearTeam 8 = .ok (.aload_n 0, 1) := by decide +kernel
theorem dX10_clearTeam_9 : decode cX10_clearTeam 9 = .ok (.iload_n 1, 1) := by decide +kernel
theorem dX10_clearTeam_10 : decode cX10_clearTeam 10 = .ok (.iload_n 2, 1) := by decide +kernel
theorem dX10_clearTeam_11 : decode cX10_clearTeam 11 = .ok (.invokestatic 101, 3) := by decide +kernel
theorem dX10_clearTeam_14 : decode cX10_clearTeam 14 = .ok (.iconst 0, 1) := by decide +kernel
theorem dX10_clearTeam_15 : decode cX10_clearTeam 15 = .ok (.iastore, 1) := by decide +kernel
theorem dX10_clearTeam_16 : decode cX10_clearTeam 16 = .ok (.iinc 2 1, 3) := by decide +kernel
theorem dX10_clearTeam_19 : decode cX10_clearTeam 19 = .ok (.goto (-17), 3) := by decide +kernel
theorem dX10_clearTeam_22 : decode cX10_clearTeam 22 = .ok (.return_, 1) := by decide +kernel
theorem dX10_drop_0 : decode cX10_drop 0 = .ok (.iload_n 1, 1) := by decide +kernel
theorem dX10_drop_1 : decode cX10_drop 1 = .ok (.iconst 0, 1) := by decide +kernel
theorem dX10_drop_2 : decode cX10_drop 2 = .ok (.invokestatic 101, 3) := by decide +kernel
theorem dX10_drop_5 : decode cX10_drop 5 = .ok (.istore_n 2, 1) := by decide +kernel
theorem dX10_drop_6 : decode cX10_drop 6 = .ok (.iload_n 2, 1) := by decide +kernel
theorem dX10_drop_7 : decode cX10_drop 7 = .ok (.sipush 381, 3) := by decide +kernel
theorem dX10_drop_10 : decode cX10_drop 10 = .ok (.if_icmp .ge 18, 3) := by decide +kernel
theorem dX10_drop_13 : decode cX10_drop 13 = .ok (.aload_n 0, 1) := by decide +kernel
theorem dX10_drop_14 : decode cX10_drop 14 = .ok (.iload_n 2, 1) := by decide +kernel
theorem dX10_drop_15 : decode cX10_drop 15 = .ok (.aload_n 0, 1) := by decide +kernel
theorem dX10_drop_16 : decode cX10_drop 16 = .ok (.iload_n 2, 1) := by decide +kernel
theorem dX10_drop_17 : decode cX10_drop 17 = .ok (.bipush 13, 2) := by decide +kernel
theorem dX10_drop_19 : decode cX10_drop 19 = .ok (.iadd, 1) := by decide +kernel
theorem dX10_drop_20 : decode cX10_drop 20 = .ok (.iaload, 1) := by decide +kernel
theorem dX10_drop_21 : decode cX10_drop 21 = .ok (.iastore, 1) := by decide +kernel
theorem dX10_drop_22 : decode cX10_drop 22 = .ok (.iinc 2 1, 3) := by decide +kernel
theorem dX10_drop_25 : decode cX10_drop 25 = .ok (.goto (-19), 3) := by decide +kernel
theorem dX10_drop_28 : decode cX10_drop 28 = .ok (.aload_n 0, 1) := by decide +kernel
theorem dX10_drop_29 : decode cX10_drop 29 = .ok (.iconst 1, 1) := by decide +kernel
theorem dX10_drop_30 : decode cX10_drop 30 = .ok (.dup2, 1) := by decide +kernel
theorem dX10_drop_31 : decode cX10_drop 31 = .ok (.iaload, 1) := by decide +kernel
theorem dX10_drop_32 : decode cX10_drop 32 = .ok (.iconst 1, 1) := by decide +kernel
theorem dX10_drop_33 : decode cX10_drop 33 = .ok (.isub, 1) := by decide +kernel
theorem dX10_drop_34 : decode cX10_drop 34 = .ok (.iastore, 1) := by decide +kernel
theorem dX10_drop_35 : decode cX10_drop 35 = .ok (.return_, 1) := by decide +kernel
theorem dX10_layGood_0 : decode cX10_layGood 0 = .ok (.aload_n 1, 1) := by decide +kernel
theorem dX10_layGood_1 : decode cX10_layGood 1 = .ok (.invokestatic 94, 3) := by decide +kernel
theorem dX10_layGood_4 : decode cX10_layGood 4 = .ok (.istore_n 3, 1) := by decide +kernel
theorem dX10_layGood_5 : decode cX10_layGood 5 = .ok (.iconst 1, 1) := by decide +kernel
theorem dX10_layGood_6 : decode cX10_layGood 6 = .ok (.iload_n 3, 1) := by decide +kernel
theorem dX10_layGood_7 : decode cX10_layGood 7 = .ok (.ishl, 1) := by decide +kernel
theorem dX10_layGood_8 : decode cX10_layGood 8 = .ok (.iconst 1, 1) := by decide +kernel
theorem dX10_layGood_9 : decode cX10_layGood 9 = .ok (.isub, 1) := by decide +kernel
theorem dX10_layGood_10 : decode cX10_layGood 10 = .ok (.istore 4, 2) := by decide +kernel
theorem dX10_layGood_12 : decode cX10_layGood 12 = .ok (.iload 4, 2) := by decide +kernel
theorem dX10_layGood_14 : decode cX10_layGood 14 = .ok (.ifCond .lt 99, 3) := by decide +kernel
theorem dX10_layGood_17 : decode cX10_layGood 17 = .ok (.iload_n 2, 1) := by decide +kernel
theorem dX10_layGood_18 : decode cX10_layGood 18 = .ok (.iload_n 3, 1) := by decide +kernel
theorem dX10_layGood_19 : decode cX10_layGood 19 = .ok (.if_icmp .eq 17, 3) := by decide +kernel
theorem dX10_layGood_22 : decode cX10_layGood 22 = .ok (.aload_n 1, 1) := by decide +kernel
theorem dX10_layGood_23 : decode cX10_layGood 23 = .ok (.iload_n 3, 1) := by decide +kernel
theorem dX10_layGood_24 : decode cX10_layGood 24 = .ok (.iload 4, 2) := by decide +kernel
theorem dX10_layGood_26 : decode cX10_layGood 26 = .ok (.invokestatic 86, 3) := by decide +kernel
theorem dX10_layGood_29 : decode cX10_layGood 29 = .ok (.ifCond .eq 7, 3) := by decide +kernel
theorem dX10_layGood_32 : decode cX10_layGood 32 = .ok (.iconst 1, 1) := by decide +kernel
theorem dX10_layGood_33 : decode cX10_layGood 33 = .ok (.goto 4, 3) := by decide +kernel
theorem dX10_layGood_36 : decode cX10_layGood 36 = .ok (.iconst 0, 1) := by decide +kernel
theorem dX10_layGood_37 : decode cX10_layGood 37 = .ok (.istore 5, 2) := by decide +kernel
theorem dX10_layGood_39 : decode cX10_layGood 39 = .ok (.iconst 0, 1) := by decide +kernel
theorem dX10_layGood_40 : decode cX10_layGood 40 = .ok (.istore 6, 2) := by decide +kernel
theorem dX10_layGood_42 : decode cX10_layGood 42 = .ok (.iload 6, 2) := by decide +kernel
theorem dX10_layGood_44 : decode cX10_layGood 44 = .ok (.iload_n 3, 1) := by decide +kernel
theorem dX10_layGood_45 : decode cX10_layGood 45 = .ok (.if_icmp .ge 53, 3) := by decide +kernel
theorem dX10_layGood_48 : decode cX10_layGood 48 = .ok (.iload 5, 2) := by decide +kernel
theorem dX10_layGood_50 : decode cX10_layGood 50 = .ok (.ifCond .ne 48, 3) := by decide +kernel
theorem dX10_layGood_53 : decode cX10_layGood 53 = .ok (.iload 6, 2) := by decide +kernel
theorem dX10_layGood_55 : decode cX10_layGood 55 = .ok (.iload_n 2, 1) := by decide +kernel
theorem dX10_layGood_56 : decode cX10_layGood 56 = .ok (.if_icmp .eq 33, 3) := by decide +kernel
theorem dX10_layGood_59 : decode cX10_layGood 59 = .ok (.aload_n 1, 1) := by decide +kernel
theorem dX10_layGood_60 : decode cX10_layGood 60 = .ok (.iload 4, 2) := by decide +kernel
theorem dX10_layGood_62 : decode cX10_layGood 62 = .ok (.iload 6, 2) := by decide +kernel
theorem dX10_layGood_64 : decode cX10_layGood 64 = .ok (.invokestatic 98, 3) := by decide +kernel
theorem dX10_layGood_67 : decode cX10_layGood 67 = .ok (.ifCond .eq 22, 3) := by decide +kernel
theorem dX10_layGood_70 : decode cX10_layGood 70 = .ok (.aload_n 0, 1) := by decide +kernel
theorem dX10_layGood_71 : decode cX10_layGood 71 = .ok (.getfield 50, 3) := by decide +kernel
theorem dX10_layGood_74 : decode cX10_layGood 74 = .ok (.iload 4, 2) := by decide +kernel
theorem dX10_layGood_76 : decode cX10_layGood 76 = .ok (.iconst 1, 1) := by decide +kernel
theorem dX10_layGood_77 : decode cX10_layGood 77 = .ok (.iload 6, 2) := by decide +kernel
theorem dX10_layGood_79 : decode cX10_layGood 79 = .ok (.ishl, 1) := by decide +kernel
theorem dX10_layGood_80 : decode cX10_layGood 80 = .ok (.ior, 1) := by decide +kernel
theorem dX10_layGood_81 : decode cX10_layGood 81 = .ok (.baload, 1) := by decide +kernel
theorem dX10_layGood_82 : decode cX10_layGood 82 = .ok (.ifCond .eq 7, 3) := by decide +kernel
theorem dX10_layGood_85 : decode cX10_layGood 85 = .ok (.iconst 1, 1) := by decide +kernel
theorem dX10_layGood_86 : decode cX10_layGood 86 = .ok (.goto 4, 3) := by decide +kernel
theorem dX10_layGood_89 : decode cX10_layGood 89 = .ok (.iconst 0, 1) := by decide +kernel
theorem dX10_layGood_90 : decode cX10_layGood 90 = .ok (.istore 5, 2) := by decide +kernel
theorem dX10_layGood_92 : decode cX10_layGood 92 = .ok (.iinc 6 1, 3) := by decide +kernel
theorem dX10_layGood_95 : decode cX10_layGood 95 = .ok (.goto (-53), 3) := by decide +kernel
theorem dX10_layGood_98 : decode cX10_layGood 98 = .ok (.aload_n 0, 1) := by decide +kernel
theorem dX10_layGood_99 : decode cX10_layGood 99 = .ok (.getfield 50, 3) := by decide +kernel
theorem dX10_layGood_102 : decode cX10_layGood 102 = .ok (.iload 4, 2) := by decide +kernel
theorem dX10_layGood_104 : decode cX10_layGood 104 = .ok (.iload 5, 2) := by decide +kernel
theorem dX10_layGood_106 : decode cX10_layGood 106 = .ok (.bastore, 1) := by decide +kernel
theorem dX10_layGood_107 : decode cX10_layGood 107 = .ok (.iinc 4 (-1), 3) := by decide +kernel
theorem dX10_layGood_110 : decode cX10_layGood 110 = .ok (.goto (-98), 3) := by decide +kernel
theorem dX10_layGood_113 : decode cX10_layGood 113 = .ok (.return_, 1) := by decide +kernel
theorem dX10_reaches_0 : decode cX10_reaches 0 = .ok (.iload_n 2, 1) := by decide +kernel
theorem dX10_reaches_1 : decode cX10_reaches 1 = .ok (.aload_n 1, 1) := by decide +kernel
theorem dX10_reaches_2 : decode cX10_reaches 2 = .ok (.invokestatic 94, 3) := by decide +kernel
theorem dX10_reaches_5 : decode cX10_reaches 5 = .ok (.invokestatic 65, 3) := by decide +kernel
theorem dX10_reaches_8 : decode cX10_reaches 8 = .ok (.ifCond .ne 12, 3) := by decide +kernel
theorem dX10_reaches_11 : decode cX10_reaches 11 = .ok (.aload_n 0, 1) := by decide +kernel
theorem dX10_reaches_12 : decode cX10_reaches 12 = .ok (.getfield 50, 3) := by decide +kernel
theorem dX10_reaches_15 : decode cX10_reaches 15 = .ok (.iload_n 2, 1) := by decide +kernel
theorem dX10_reaches_16 : decode cX10_reaches 16 = .ok (.baload, 1) := by decide +kernel
theorem dX10_reaches_17 : decode cX10_reaches 17 = .ok (.ifCond .eq 7, 3) := by decide +kernel
theorem dX10_reaches_20 : decode cX10_reaches 20 = .ok (.iconst 1, 1) := by decide +kernel
theorem dX10_reaches_21 : decode cX10_reaches 21 = .ok (.goto 4, 3) := by decide +kernel
theorem dX10_reaches_24 : decode cX10_reaches 24 = .ok (.iconst 0, 1) := by decide +kernel
theorem dX10_reaches_25 : decode cX10_reaches 25 = .ok (.ireturn, 1) := by decide +kernel
theorem dX10_safeOf_0 : decode cX10_safeOf 0 = .ok (.aload_n 1, 1) := by decide +kernel
theorem dX10_safeOf_1 : decode cX10_safeOf 1 = .ok (.iload_n 2, 1) := by decide +kernel
theorem dX10_safeOf_2 : decode cX10_safeOf 2 = .ok (.invokestatic 104, 3) := by decide +kernel
theorem dX10_safeOf_5 : decode cX10_safeOf 5 = .ok (.istore_n 3, 1) := by decide +kernel
theorem dX10_safeOf_6 : decode cX10_safeOf 6 = .ok (.aload_n 1, 1) := by decide +kernel
theorem dX10_safeOf_7 : decode cX10_safeOf 7 = .ok (.iload_n 3, 1) := by decide +kernel
theorem dX10_safeOf_8 : decode cX10_safeOf 8 = .ok (.invokestatic 119, 3) := by decide +kernel
theorem dX10_safeOf_11 : decode cX10_safeOf 11 = .ok (.istore 4, 2) := by decide +kernel
theorem dX10_safeOf_13 : decode cX10_safeOf 13 = .ok (.iconst 0, 1) := by decide +kernel
theorem dX10_safeOf_14 : decode cX10_safeOf 14 = .ok (.istore 5, 2) := by decide +kernel
theorem dX10_safeOf_16 : decode cX10_safeOf 16 = .ok (.aload_n 0, 1) := by decide +kernel
theorem dX10_safeOf_17 : decode cX10_safeOf 17 = .ok (.aload_n 1, 1) := by decide +kernel
theorem dX10_safeOf_18 : decode cX10_safeOf 18 = .ok (.bipush (-9), 2) := by decide +kernel
theorem dX10_safeOf_20 : decode cX10_safeOf 20 = .ok (.invokevirtual 122, 3) := by decide +kernel
theorem dX10_safeOf_23 : decode cX10_safeOf 23 = .ok (.iconst 0, 1) := by decide +kernel
theorem dX10_safeOf_24 : decode cX10_safeOf 24 = .ok (.istore 6, 2) := by decide +kernel
theorem dX10_safeOf_26 : decode cX10_safeOf 26 = .ok (.iload 6, 2) := by decide +kernel
theorem dX10_safeOf_28 : decode cX10_safeOf 28 = .ok (.aload_n 1, 1) := by decide +kernel
theorem dX10_safeOf_29 : decode cX10_safeOf 29 = .ok (.iconst 0, 1) := by decide +kernel
theorem dX10_safeOf_30 : decode cX10_safeOf 30 = .ok (.iaload, 1) := by decide +kernel
theorem dX10_safeOf_31 : decode cX10_safeOf 31 = .ok (.if_icmp .ge 46, 3) := by decide +kernel
theorem dX10_safeOf_34 : decode cX10_safeOf 34 = .ok (.iload 5, 2) := by decide +kernel
theorem dX10_safeOf_36 : decode cX10_safeOf 36 = .ok (.iload 4, 2) := by decide +kernel
theorem dX10_safeOf_38 : decode cX10_safeOf 38 = .ok (.iload 6, 2) := by decide +kernel
theorem dX10_safeOf_40 : decode cX10_safeOf 40 = .ok (.invokestatic 65, 3) := by decide +kernel
theorem dX10_safeOf_43 : decode cX10_safeOf 43 = .ok (.ifCond .eq 24, 3) := by decide +kernel
theorem dX10_safeOf_46 : decode cX10_safeOf 46 = .ok (.aload_n 0, 1) := by decide +kernel
theorem dX10_safeOf_47 : decode cX10_safeOf 47 = .ok (.aload_n 1, 1) := by decide +kernel
theorem dX10_safeOf_48 : decode cX10_safeOf 48 = .ok (.iload_n 3, 1) := by decide +kernel
theorem dX10_safeOf_49 : decode cX10_safeOf 49 = .ok (.iconst 1, 1) := by decide +kernel
theorem dX10_safeOf_50 : decode cX10_safeOf 50 = .ok (.iload 6, 2) := by decide +kernel
theorem dX10_safeOf_52 : decode cX10_safeOf 52 = .ok (.ishl, 1) := by decide +kernel
theorem dX10_safeOf_53 : decode cX10_safeOf 53 = .ok (.ior, 1) := by decide +kernel
theorem dX10_safeOf_54 : decode cX10_safeOf 54 = .ok (.invokevirtual 126, 3) := by decide +kernel
theorem dX10_safeOf_57 : decode cX10_safeOf 57 = .ok (.ifCond .eq 10, 3) := by decide +kernel
theorem dX10_safeOf_60 : decode cX10_safeOf 60 = .ok (.iconst 1, 1) := by decide +kernel
theorem dX10_safeOf_61 : decode cX10_safeOf 61 = .ok (.iload 6, 2) := by decide +kernel
theorem dX10_safeOf_63 : decode cX10_safeOf 63 = .ok (.ishl, 1) := by decide +kernel
theorem dX10_safeOf_64 : decode cX10_safeOf 64 = .ok (.goto 4, 3) := by decide +kernel
theorem dX10_safeOf_67 : decode cX10_safeOf 67 = .ok (.iconst 0, 1) := by decide +kernel
theorem dX10_safeOf_68 : decode cX10_safeOf 68 = .ok (.ior, 1) := by decide +kernel
theorem dX10_safeOf_69 : decode cX10_safeOf 69 = .ok (.istore 5, 2) := by decide +kernel
theorem dX10_safeOf_71 : decode cX10_safeOf 71 = .ok (.iinc 6 1, 3) := by decide +kernel
theorem dX10_safeOf_74 : decode cX10_safeOf 74 = .ok (.goto (-48), 3) := by decide +kernel
theorem dX10_safeOf_77 : decode cX10_safeOf 77 = .ok (.iload 5, 2) := by decide +kernel
theorem dX10_safeOf_79 : decode cX10_safeOf 79 = .ok (.ireturn, 1) := by decide +kernel
theorem dX10_smallest_0 : decode cX10_smallest 0 = .ok (.iconst 0, 1) := by decide +kernel
theorem dX10_smallest_1 : decode cX10_smallest 1 = .ok (.istore_n 1, 1) := by decide +kernel
theorem dX10_smallest_2 : decode cX10_smallest 2 = .ok (.iload_n 1, 1) := by decide +kernel
theorem dX10_smallest_3 : decode cX10_smallest 3 = .ok (.bipush 10, 2) := by decide +kernel
theorem dX10_smallest_5 : decode cX10_smallest 5 = .ok (.if_icmp .ge 19, 3) := by decide +kernel
theorem dX10_smallest_8 : decode cX10_smallest 8 = .ok (.iload_n 0, 1) := by decide +kernel
theorem dX10_smallest_9 : decode cX10_smallest 9 = .ok (.iload_n 1, 1) := by decide +kernel
theorem dX10_smallest_10 : decode cX10_smallest 10 = .ok (.invokestatic 65, 3) := by decide +kernel
theorem dX10_smallest_13 : decode cX10_smallest 13 = .ok (.ifCond .eq 5, 3) := by decide +kernel
theorem dX10_smallest_16 : decode cX10_smallest 16 = .ok (.iload_n 1, 1) := by decide +kernel
theorem dX10_smallest_17 : decode cX10_smallest 17 = .ok (.ireturn, 1) := by decide +kernel
theorem dX10_smallest_18 : decode cX10_smallest 18 = .ok (.iinc 1 1, 3) := by decide +kernel
theorem dX10_smallest_21 : decode cX10_smallest 21 = .ok (.goto (-19), 3) := by decide +kernel
theorem dX10_smallest_24 : decode cX10_smallest 24 = .ok (.bipush (-9), 2) := by decide +kernel
theorem dX10_smallest_26 : decode cX10_smallest 26 = .ok (.ireturn, 1) := by decide +kernel
theorem dX10_layFewest_0 : decode cX10_layFewest 0 = .ok (.aload_n 1, 1) := by decide +kernel
theorem dX10_layFewest_1 : decode cX10_layFewest 1 = .ok (.invokestatic 94, 3) := by decide +kernel
theorem dX10_layFewest_4 : decode cX10_layFewest 4 = .ok (.istore_n 2, 1) := by decide +kernel
theorem dX10_layFewest_5 : decode cX10_layFewest 5 = .ok (.iconst 1, 1) := by decide +kernel
theorem dX10_layFewest_6 : decode cX10_layFewest 6 = .ok (.iload_n 2, 1) := by decide +kernel
theorem dX10_layFewest_7 : decode cX10_layFewest 7 = .ok (.ishl, 1) := by decide +kernel
theorem dX10_layFewest_8 : decode cX10_layFewest 8 = .ok (.iconst 1, 1) := by decide +kernel
theorem dX10_layFewest_9 : decode cX10_layFewest 9 = .ok (.isub, 1) := by decide +kernel
theorem dX10_layFewest_10 : decode cX10_layFewest 10 = .ok (.istore_n 3, 1) := by decide +kernel
theorem dX10_layFewest_11 : decode cX10_layFewest 11 = .ok (.iload_n 3, 1) := by decide +kernel
theorem dX10_layFewest_12 : decode cX10_layFewest 12 = .ok (.ifCond .lt 153, 3) := by decide +kernel
theorem dX10_layFewest_15 : decode cX10_layFewest 15 = .ok (.aload_n 1, 1) := by decide +kernel
theorem dX10_layFewest_16 : decode cX10_layFewest 16 = .ok (.iload_n 2, 1) := by decide +kernel
theorem dX10_layFewest_17 : decode cX10_layFewest 17 = .ok (.iload_n 3, 1) := by decide +kernel
theorem dX10_layFewest_18 : decode cX10_layFewest 18 = .ok (.invokestatic 86, 3) := by decide +kernel
theorem dX10_layFewest_21 : decode cX10_layFewest 21 = .ok (.istore 4, 2) := by decide +kernel
theorem dX10_layFewest_23 : decode cX10_layFewest 23 = .ok (.aload_n 0, 1) := by decide +kernel
theorem dX10_layFewest_24 : decode cX10_layFewest 24 = .ok (.getfield 56, 3) := by decide +kernel
theorem dX10_layFewest_27 : decode cX10_layFewest 27 = .ok (.iload_n 3, 1) := by decide +kernel
theorem dX10_layFewest_28 : decode cX10_layFewest 28 = .ok (.iload 4, 2) := by decide +kernel
theorem dX10_layFewest_30 : decode cX10_layFewest 30 = .ok (.ifCond .eq 7, 3) := by decide +kernel
theorem dX10_layFewest_33 : decode cX10_layFewest 33 = .ok (.iconst 1, 1) := by decide +kernel
theorem dX10_layFewest_34 : decode cX10_layFewest 34 = .ok (.goto 5, 3) := by decide +kernel
theorem dX10_layFewest_37 : decode cX10_layFewest 37 = .ok (.ldc 129, 2) := by decide +kernel
theorem dX10_layFewest_39 : decode cX10_layFewest 39 = .ok (.iastore, 1) := by decide +kernel
theorem dX10_layFewest_40 : decode cX10_layFewest 40 = .ok (.aload_n 0, 1) := by decide +kernel
theorem dX10_layFewest_41 : decode cX10_layFewest 41 = .ok (.getfield 59, 3) := by decide +kernel
theorem dX10_layFewest_44 : decode cX10_layFewest 44 = .ok (.iload_n 3, 1) := by decide +kernel
theorem dX10_layFewest_45 : decode cX10_layFewest 45 = .ok (.iload 4, 2) := by decide +kernel
theorem dX10_layFewest_47 : decode cX10_layFewest 47 = .ok (.ifCond .eq 7, 3) := by decide +kernel
theorem dX10_layFewest_50 : decode cX10_layFewest 50 = .ok (.iconst 1, 1) := by decide +kernel
theorem dX10_layFewest_51 : decode cX10_layFewest 51 = .ok (.goto 4, 3) := by decide +kernel
theorem dX10_layFewest_54 : decode cX10_layFewest 54 = .ok (.iconst 0, 1) := by decide +kernel
theorem dX10_layFewest_55 : decode cX10_layFewest 55 = .ok (.iastore, 1) := by decide +kernel
theorem dX10_layFewest_56 : decode cX10_layFewest 56 = .ok (.iconst 0, 1) := by decide +kernel
theorem dX10_layFewest_57 : decode cX10_layFewest 57 = .ok (.istore 5, 2) := by decide +kernel
theorem dX10_layFewest_59 : decode cX10_layFewest 59 = .ok (.iload 5, 2) := by decide +kernel
theorem dX10_layFewest_61 : decode cX10_layFewest 61 = .ok (.iload_n 2, 1) := by decide +kernel
theorem dX10_layFewest_62 : decode cX10_layFewest 62 = .ok (.if_icmp .ge 97, 3) := by decide +kernel
theorem dX10_layFewest_65 : decode cX10_layFewest 65 = .ok (.aload_n 1, 1) := by decide +kernel
theorem dX10_layFewest_66 : decode cX10_layFewest 66 = .ok (.iload_n 3, 1) := by decide +kernel
theorem dX10_layFewest_67 : decode cX10_layFewest 67 = .ok (.iload 5, 2) := by decide +kernel
theorem dX10_layFewest_69 : decode cX10_layFewest 69 = .ok (.invokestatic 98, 3) := by decide +kernel
theorem dX10_layFewest_72 : decode cX10_layFewest 72 = .ok (.ifCond .eq 81, 3) := by decide +kernel
theorem dX10_layFewest_75 : decode cX10_layFewest 75 = .ok (.iload_n 3, 1) := by decide +kernel
theorem dX10_layFewest_76 : decode cX10_layFewest 76 = .ok (.iconst 1, 1) := by decide +kernel
theorem dX10_layFewest_77 : decode cX10_layFewest 77 = .ok (.iload 5, 2) := by decide +kernel
theorem dX10_layFewest_79 : decode cX10_layFewest 79 = .ok (.ishl, 1) := by decide +kernel
theorem dX10_layFewest_80 : decode cX10_layFewest 80 = .ok (.ior, 1) := by decide +kernel
theorem dX10_layFewest_81 : decode cX10_layFewest 81 = .ok (.istore 6, 2) := by decide +kernel
theorem dX10_layFewest_83 : decode cX10_layFewest 83 = .ok (.aload_n 0, 1) := by decide +kernel
theorem dX10_layFewest_84 : decode cX10_layFewest 84 = .ok (.getfield 56, 3) := by decide +kernel
theorem dX10_layFewest_87 : decode cX10_layFewest 87 = .ok (.iload_n 3, 1) := by decide +kernel
theorem dX10_layFewest_88 : decode cX10_layFewest 88 = .ok (.aload_n 0, 1) := by decide +kernel
theorem dX10_layFewest_89 : decode cX10_layFewest 89 = .ok (.getfield 56, 3) := by decide +kernel
theorem dX10_layFewest_92 : decode cX10_layFewest 92 = .ok (.iload 6, 2) := by decide +kernel
theorem dX10_layFewest_94 : decode cX10_layFewest 94 = .ok (.iaload, 1) := by decide +kernel
theorem dX10_layFewest_95 : decode cX10_layFewest 95 = .ok (.ldc 129, 2) := by decide +kernel
theorem dX10_layFewest_97 : decode cX10_layFewest 97 = .ok (.if_icmp .ge 33, 3) := by decide +kernel
theorem dX10_layFewest_100 : decode cX10_layFewest 100 = .ok (.aload_n 0, 1) := by decide +kernel
theorem dX10_layFewest_101 : decode cX10_layFewest 101 = .ok (.getfield 56, 3) := by decide +kernel
theorem dX10_layFewest_104 : decode cX10_layFewest 104 = .ok (.iload 6, 2) := by decide +kernel
theorem dX10_layFewest_106 : decode cX10_layFewest 106 = .ok (.iaload, 1) := by decide +kernel
theorem dX10_layFewest_107 : decode cX10_layFewest 107 = .ok (.iconst 1, 1) := by decide +kernel
theorem dX10_layFewest_108 : decode cX10_layFewest 108 = .ok (.iadd, 1) := by decide +kernel
theorem dX10_layFewest_109 : decode cX10_layFewest 109 = .ok (.aload_n 0, 1) := by decide +kernel
theorem dX10_layFewest_110 : decode cX10_layFewest 110 = .ok (.getfield 56, 3) := by decide +kernel
theorem dX10_layFewest_113 : decode cX10_layFewest 113 = .ok (.iload_n 3, 1) := by decide +kernel
theorem dX10_layFewest_114 : decode cX10_layFewest 114 = .ok (.iaload, 1) := by decide +kernel
theorem dX10_layFewest_115 : decode cX10_layFewest 115 = .ok (.if_icmp .ge 15, 3) := by decide +kernel
theorem dX10_layFewest_118 : decode cX10_layFewest 118 = .ok (.aload_n 0, 1) := by decide +kernel
theorem dX10_layFewest_119 : decode cX10_layFewest 119 = .ok (.getfield 56, 3) := by decide +kernel
theorem dX10_layFewest_122 : decode cX10_layFewest 122 = .ok (.iload 6, 2) := by decide +kernel
theorem dX10_layFewest_124 : decode cX10_layFewest 124 = .ok (.iaload, 1) := by decide +kernel
theorem dX10_layFewest_125 : decode cX10_layFewest 125 = .ok (.iconst 1, 1) := by decide +kernel
theorem dX10_layFewest_126 : decode cX10_layFewest 126 = .ok (.iadd, 1) := by decide +kernel
theorem dX10_layFewest_127 : decode cX10_layFewest 127 = .ok (.goto 9, 3) := by decide +kernel
theorem dX10_layFewest_130 : decode cX10_layFewest 130 = .ok (.aload_n 0, 1) := by decide +kernel
theorem dX10_layFewest_131 : decode cX10_layFewest 131 = .ok (.getfield 56, 3) := by decide +kernel
theorem dX10_layFewest_134 : decode cX10_layFewest 134 = .ok (.iload_n 3, 1) := by decide +kernel
theorem dX10_layFewest_135 : decode cX10_layFewest 135 = .ok (.iaload, 1) := by decide +kernel
theorem dX10_layFewest_136 : decode cX10_layFewest 136 = .ok (.iastore, 1) := by decide +kernel
theorem dX10_layFewest_137 : decode cX10_layFewest 137 = .ok (.aload_n 0, 1) := by decide +kernel
theorem dX10_layFewest_138 : decode cX10_layFewest 138 = .ok (.getfield 59, 3) := by decide +kernel
theorem dX10_layFewest_141 : decode cX10_layFewest 141 = .ok (.iload_n 3, 1) := by decide +kernel
theorem dX10_layFewest_142 : decode cX10_layFewest 142 = .ok (.dup2, 1) := by decide +kernel
theorem dX10_layFewest_143 : decode cX10_layFewest 143 = .ok (.iaload, 1) := by decide +kernel
theorem dX10_layFewest_144 : decode cX10_layFewest 144 = .ok (.aload_n 0, 1) := by decide +kernel
theorem dX10_layFewest_145 : decode cX10_layFewest 145 = .ok (.getfield 59, 3) := by decide +kernel
theorem dX10_layFewest_148 : decode cX10_layFewest 148 = .ok (.iload 6, 2) := by decide +kernel
theorem dX10_layFewest_150 : decode cX10_layFewest 150 = .ok (.iaload, 1) := by decide +kernel
theorem dX10_layFewest_151 : decode cX10_layFewest 151 = .ok (.iadd, 1) := by decide +kernel
theorem dX10_layFewest_152 : decode cX10_layFewest 152 = .ok (.iastore, 1) := by decide +kernel
theorem dX10_layFewest_153 : decode cX10_layFewest 153 = .ok (.iinc 5 1, 3) := by decide +kernel
theorem dX10_layFewest_156 : decode cX10_layFewest 156 = .ok (.goto (-97), 3) := by decide +kernel
theorem dX10_layFewest_159 : decode cX10_layFewest 159 = .ok (.iinc 3 (-1), 3) := by decide +kernel
theorem dX10_layFewest_162 : decode cX10_layFewest 162 = .ok (.goto (-151), 3) := by decide +kernel
theorem dX10_layFewest_165 : decode cX10_layFewest 165 = .ok (.return_, 1) := by decide +kernel
theorem dX10_layCost_0 : decode cX10_layCost 0 = .ok (.aload_n 1, 1) := by decide +kernel
theorem dX10_layCost_1 : decode cX10_layCost 1 = .ok (.invokestatic 94, 3) := by decide +kernel
theorem dX10_layCost_4 : decode cX10_layCost 4 = .ok (.istore_n 2, 1) := by decide +kernel
theorem dX10_layCost_5 : decode cX10_layCost 5 = .ok (.iconst 1, 1) := by decide +kernel
theorem dX10_layCost_6 : decode cX10_layCost 6 = .ok (.iload_n 2, 1) := by decide +kernel
theorem dX10_layCost_7 : decode cX10_layCost 7 = .ok (.ishl, 1) := by decide +kernel
theorem dX10_layCost_8 : decode cX10_layCost 8 = .ok (.iconst 1, 1) := by decide +kernel
theorem dX10_layCost_9 : decode cX10_layCost 9 = .ok (.isub, 1) := by decide +kernel
theorem dX10_layCost_10 : decode cX10_layCost 10 = .ok (.istore_n 3, 1) := by decide +kernel
theorem dX10_layCost_11 : decode cX10_layCost 11 = .ok (.iload_n 3, 1) := by decide +kernel
theorem dX10_layCost_12 : decode cX10_layCost 12 = .ok (.ifCond .lt 56, 3) := by decide +kernel
theorem dX10_layCost_15 : decode cX10_layCost 15 = .ok (.iconst 0, 1) := by decide +kernel
theorem dX10_layCost_16 : decode cX10_layCost 16 = .ok (.istore 4, 2) := by decide +kernel
theorem dX10_layCost_18 : decode cX10_layCost 18 = .ok (.iload 4, 2) := by decide +kernel
theorem dX10_layCost_20 : decode cX10_layCost 20 = .ok (.bipush 10, 2) := by decide +kernel
theorem dX10_layCost_22 : decode cX10_layCost 22 = .ok (.if_icmp .gt 40, 3) := by decide +kernel
theorem dX10_layCost_25 : decode cX10_layCost 25 = .ok (.aload_n 0, 1) := by decide +kernel
theorem dX10_layCost_26 : decode cX10_layCost 26 = .ok (.getfield 62, 3) := by decide +kernel
theorem dX10_layCost_29 : decode cX10_layCost 29 = .ok (.bipush 11, 2) := by decide +kernel
theorem dX10_layCost_31 : decode cX10_layCost 31 = .ok (.iload_n 3, 1) := by decide +kernel
theorem dX10_layCost_32 : decode cX10_layCost 32 = .ok (.imul, 1) := by decide +kernel
theorem dX10_layCost_33 : decode cX10_layCost 33 = .ok (.iload 4, 2) := by decide +kernel
theorem dX10_layCost_35 : decode cX10_layCost 35 = .ok (.iadd, 1) := by decide +kernel
theorem dX10_layCost_36 : decode cX10_layCost 36 = .ok (.aload_n 0, 1) := by decide +kernel
theorem dX10_layCost_37 : decode cX10_layCost 37 = .ok (.aload_n 1, 1) := by decide +kernel
theorem dX10_layCost_38 : decode cX10_layCost 38 = .ok (.iload_n 3, 1) := by decide +kernel
theorem dX10_layCost_39 : decode cX10_layCost 39 = .ok (.iload 4, 2) := by decide +kernel
theorem dX10_layCost_41 : decode cX10_layCost 41 = .ok (.iload_n 2, 1) := by decide +kernel
theorem dX10_layCost_42 : decode cX10_layCost 42 = .ok (.if_icmp .ge 8, 3) := by decide +kernel
theorem dX10_layCost_45 : decode cX10_layCost 45 = .ok (.iload 4, 2) := by decide +kernel
theorem dX10_layCost_47 : decode cX10_layCost 47 = .ok (.goto 5, 3) := by decide +kernel
theorem dX10_layCost_50 : decode cX10_layCost 50 = .ok (.bipush (-9), 2) := by decide +kernel
theorem dX10_layCost_52 : decode cX10_layCost 52 = .ok (.invokevirtual 130, 3) := by decide +kernel
theorem dX10_layCost_55 : decode cX10_layCost 55 = .ok (.iastore, 1) := by decide +kernel
theorem dX10_layCost_56 : decode cX10_layCost 56 = .ok (.iinc 4 1, 3) := by decide +kernel
theorem dX10_layCost_59 : decode cX10_layCost 59 = .ok (.goto (-41), 3) := by decide +kernel
theorem dX10_layCost_62 : decode cX10_layCost 62 = .ok (.iinc 3 (-1), 3) := by decide +kernel
theorem dX10_layCost_65 : decode cX10_layCost 65 = .ok (.goto (-54), 3) := by decide +kernel
theorem dX10_layCost_68 : decode cX10_layCost 68 = .ok (.return_, 1) := by decide +kernel
theorem dX10_costFrom_0 : decode cX10_costFrom 0 = .ok (.ldc 129, 2) := by decide +kernel
theorem dX10_costFrom_2 : decode cX10_costFrom 2 = .ok (.istore 4, 2) := by decide +kernel
theorem dX10_costFrom_4 : decode cX10_costFrom 4 = .ok (.iconst 0, 1) := by decide +kernel
theorem dX10_costFrom_5 : decode cX10_costFrom 5 = .ok (.istore 5, 2) := by decide +kernel
theorem dX10_costFrom_7 : decode cX10_costFrom 7 = .ok (.iload 5, 2) := by decide +kernel
theorem dX10_costFrom_9 : decode cX10_costFrom 9 = .ok (.aload_n 1, 1) := by decide +kernel
theorem dX10_costFrom_10 : decode cX10_costFrom 10 = .ok (.iconst 0, 1) := by decide +kernel
theorem dX10_costFrom_11 : decode cX10_costFrom 11 = .ok (.iaload, 1) := by decide +kernel
theorem dX10_costFrom_12 : decode cX10_costFrom 12 = .ok (.if_icmp .ge 51, 3) := by decide +kernel
theorem dX10_costFrom_15 : decode cX10_costFrom 15 = .ok (.aload_n 1, 1) := by decide +kernel
theorem dX10_costFrom_16 : decode cX10_costFrom 16 = .ok (.iload_n 2, 1) := by decide +kernel
theorem dX10_costFrom_17 : decode cX10_costFrom 17 = .ok (.iload 5, 2) := by decide +kernel
theorem dX10_costFrom_19 : decode cX10_costFrom 19 = .ok (.invokestatic 98, 3) := by decide +kernel
theorem dX10_costFrom_22 : decode cX10_costFrom 22 = .ok (.ifCond .eq 15, 3) := by decide +kernel
theorem dX10_costFrom_25 : decode cX10_costFrom 25 = .ok (.aload_n 0, 1) := by decide +kernel
theorem dX10_costFrom_26 : decode cX10_costFrom 26 = .ok (.aload_n 1, 1) := by decide +kernel
theorem dX10_costFrom_27 : decode cX10_costFrom 27 = .ok (.iload_n 2, 1) := by decide +kernel
theorem dX10_costFrom_28 : decode cX10_costFrom 28 = .ok (.iload_n 3, 1) := by decide +kernel
theorem dX10_costFrom_29 : decode cX10_costFrom 29 = .ok (.iload 5, 2) := by decide +kernel
theorem dX10_costFrom_31 : decode cX10_costFrom 31 = .ok (.invokevirtual 133, 3) := by decide +kernel
theorem dX10_costFrom_34 : decode cX10_costFrom 34 = .ok (.goto 5, 3) := by decide +kernel
theorem dX10_costFrom_37 : decode cX10_costFrom 37 = .ok (.ldc 129, 2) := by decide +kernel
theorem dX10_costFrom_39 : decode cX10_costFrom 39 = .ok (.istore 6, 2) := by decide +kernel
theorem dX10_costFrom_41 : decode cX10_costFrom 41 = .ok (.iload 6, 2) := by decide +kernel
theorem dX10_costFrom_43 : decode cX10_costFrom 43 = .ok (.iload 4, 2) := by decide +kernel
theorem dX10_costFrom_45 : decode cX10_costFrom 45 = .ok (.if_icmp .ge 8, 3) := by decide +kernel
theorem dX10_costFrom_48 : decode cX10_costFrom 48 = .ok (.iload 6, 2) := by decide +kernel
theorem dX10_costFrom_50 : decode cX10_costFrom 50 = .ok (.goto 5, 3) := by decide +kernel
theorem dX10_costFrom_53 : decode cX10_costFrom 53 = .ok (.iload 4, 2) := by decide +kernel
theorem dX10_costFrom_55 : decode cX10_costFrom 55 = .ok (.istore 4, 2) := by decide +kernel
theorem dX10_costFrom_57 : decode cX10_costFrom 57 = .ok (.iinc 5 1, 3) := by decide +kernel
theorem dX10_costFrom_60 : decode cX10_costFrom 60 = .ok (.goto (-53), 3) := by decide +kernel
theorem dX10_costFrom_63 : decode cX10_costFrom 63 = .ok (.iload 4, 2) := by decide +kernel
theorem dX10_costFrom_65 : decode cX10_costFrom 65 = .ok (.ireturn, 1) := by decide +kernel
theorem dX10_costBy_0 : decode cX10_costBy 0 = .ok (.iload 4, 2) := by decide +kernel
theorem dX10_costBy_2 : decode cX10_costBy 2 = .ok (.aload_n 1, 1) := by decide +kernel
theorem dX10_costBy_3 : decode cX10_costBy 3 = .ok (.invokestatic 94, 3) := by decide +kernel
theorem dX10_costBy_6 : decode cX10_costBy 6 = .ok (.if_icmp .ne 7, 3) := by decide +kernel
theorem dX10_costBy_9 : decode cX10_costBy 9 = .ok (.iconst 0, 1) := by decide +kernel
theorem dX10_costBy_10 : decode cX10_costBy 10 = .ok (.goto 20, 3) := by decide +kernel
theorem dX10_costBy_13 : decode cX10_costBy 13 = .ok (.aload_n 0, 1) := by decide +kernel
theorem dX10_costBy_14 : decode cX10_costBy 14 = .ok (.getfield 62, 3) := by decide +kernel
theorem dX10_costBy_17 : decode cX10_costBy 17 = .ok (.bipush 11, 2) := by decide +kernel
theorem dX10_costBy_19 : decode cX10_costBy 19 = .ok (.iload_n 2, 1) := by decide +kernel
theorem dX10_costBy_20 : decode cX10_costBy 20 = .ok (.iconst 1, 1) := by decide +kernel
theorem dX10_costBy_21 : decode cX10_costBy 21 = .ok (.iload 4, 2) := by decide +kernel
theorem dX10_costBy_23 : decode cX10_costBy 23 = .ok (.ishl, 1) := by decide +kernel
theorem dX10_costBy_24 : decode cX10_costBy 24 = .ok (.ior, 1) := by decide +kernel
theorem dX10_costBy_25 : decode cX10_costBy 25 = .ok (.imul, 1) := by decide +kernel
theorem dX10_costBy_26 : decode cX10_costBy 26 = .ok (.iload 4, 2) := by decide +kernel
theorem dX10_costBy_28 : decode cX10_costBy 28 = .ok (.iadd, 1) := by decide +kernel
theorem dX10_costBy_29 : decode cX10_costBy 29 = .ok (.iaload, 1) := by decide +kernel
theorem dX10_costBy_30 : decode cX10_costBy 30 = .ok (.istore 5, 2) := by decide +kernel
theorem dX10_costBy_32 : decode cX10_costBy 32 = .ok (.iload 5, 2) := by decide +kernel
theorem dX10_costBy_34 : decode cX10_costBy 34 = .ok (.ldc 129, 2) := by decide +kernel
theorem dX10_costBy_36 : decode cX10_costBy 36 = .ok (.if_icmp .lt 8, 3) := by decide +kernel
theorem dX10_costBy_39 : decode cX10_costBy 39 = .ok (.ldc 129, 2) := by decide +kernel
theorem dX10_costBy_41 : decode cX10_costBy 41 = .ok (.goto 13, 3) := by decide +kernel
theorem dX10_costBy_44 : decode cX10_costBy 44 = .ok (.iload 5, 2) := by decide +kernel
theorem dX10_costBy_46 : decode cX10_costBy 46 = .ok (.aload_n 1, 1) := by decide +kernel
theorem dX10_costBy_47 : decode cX10_costBy 47 = .ok (.iload_n 3, 1) := by decide +kernel
theorem dX10_costBy_48 : decode cX10_costBy 48 = .ok (.iload 4, 2) := by decide +kernel
theorem dX10_costBy_50 : decode cX10_costBy 50 = .ok (.invokestatic 115, 3) := by decide +kernel
theorem dX10_costBy_53 : decode cX10_costBy 53 = .ok (.iadd, 1) := by decide +kernel
theorem dX10_costBy_54 : decode cX10_costBy 54 = .ok (.ireturn, 1) := by decide +kernel
theorem dX10_deadOf_0 : decode cX10_deadOf 0 = .ok (.aload_n 1, 1) := by decide +kernel
theorem dX10_deadOf_1 : decode cX10_deadOf 1 = .ok (.invokestatic 94, 3) := by decide +kernel
theorem dX10_deadOf_4 : decode cX10_deadOf 4 = .ok (.istore_n 2, 1) := by decide +kernel
theorem dX10_deadOf_5 : decode cX10_deadOf 5 = .ok (.aload_n 0, 1) := by decide +kernel
theorem dX10_deadOf_6 : decode cX10_deadOf 6 = .ok (.aload_n 1, 1) := by decide +kernel
theorem dX10_deadOf_7 : decode cX10_deadOf 7 = .ok (.bipush (-9), 2) := by decide +kernel
theorem dX10_deadOf_9 : decode cX10_deadOf 9 = .ok (.invokevirtual 122, 3) := by decide +kernel
theorem dX10_deadOf_12 : decode cX10_deadOf 12 = .ok (.iconst 0, 1) := by decide +kernel
theorem dX10_deadOf_13 : decode cX10_deadOf 13 = .ok (.istore_n 3, 1) := by decide +kernel
theorem dX10_deadOf_14 : decode cX10_deadOf 14 = .ok (.iconst 0, 1) := by decide +kernel
theorem dX10_deadOf_15 : decode cX10_deadOf 15 = .ok (.istore 4, 2) := by decide +kernel
theorem dX10_deadOf_17 : decode cX10_deadOf 17 = .ok (.iload 4, 2) := by decide +kernel
theorem dX10_deadOf_19 : decode cX10_deadOf 19 = .ok (.iconst 1, 1) := by decide +kernel
theorem dX10_deadOf_20 : decode cX10_deadOf 20 = .ok (.iload_n 2, 1) := by decide +kernel
theorem dX10_deadOf_21 : decode cX10_deadOf 21 = .ok (.ishl, 1) := by decide +kernel
theorem dX10_deadOf_22 : decode cX10_deadOf 22 = .ok (.if_icmp .ge 133, 3) := by decide +kernel
theorem dX10_deadOf_25 : decode cX10_deadOf 25 = .ok (.aload_n 0, 1) := by decide +kernel
theorem dX10_deadOf_26 : decode cX10_deadOf 26 = .ok (.getfield 53, 3) := by decide +kernel
theorem dX10_deadOf_29 : decode cX10_deadOf 29 = .ok (.iload 4, 2) := by decide +kernel
theorem dX10_deadOf_31 : decode cX10_deadOf 31 = .ok (.iload 4, 2) := by decide +kernel
theorem dX10_deadOf_33 : decode cX10_deadOf 33 = .ok (.ifCond .ne 7, 3) := by decide +kernel
theorem dX10_deadOf_36 : decode cX10_deadOf 36 = .ok (.iconst 1, 1) := by decide +kernel
theorem dX10_deadOf_37 : decode cX10_deadOf 37 = .ok (.goto 4, 3) := by decide +kernel
theorem dX10_deadOf_40 : decode cX10_deadOf 40 = .ok (.iconst 0, 1) := by decide +kernel
theorem dX10_deadOf_41 : decode cX10_deadOf 41 = .ok (.bastore, 1) := by decide +kernel
theorem dX10_deadOf_42 : decode cX10_deadOf 42 = .ok (.iconst 0, 1) := by decide +kernel
theorem dX10_deadOf_43 : decode cX10_deadOf 43 = .ok (.istore 5, 2) := by decide +kernel
theorem dX10_deadOf_45 : decode cX10_deadOf 45 = .ok (.iload 5, 2) := by decide +kernel
theorem dX10_deadOf_47 : decode cX10_deadOf 47 = .ok (.iload_n 2, 1) := by decide +kernel
theorem dX10_deadOf_48 : decode cX10_deadOf 48 = .ok (.if_icmp .ge 73, 3) := by decide +kernel
theorem dX10_deadOf_51 : decode cX10_deadOf 51 = .ok (.aload_n 0, 1) := by decide +kernel
theorem dX10_deadOf_52 : decode cX10_deadOf 52 = .ok (.getfield 53, 3) := by decide +kernel
theorem dX10_deadOf_55 : decode cX10_deadOf 55 = .ok (.iload 4, 2) := by decide +kernel
theorem dX10_deadOf_57 : decode cX10_deadOf 57 = .ok (.baload, 1) := by decide +kernel
theorem dX10_deadOf_58 : decode cX10_deadOf 58 = .ok (.ifCond .ne 63, 3) := by decide +kernel
theorem dX10_deadOf_61 : decode cX10_deadOf 61 = .ok (.iload 4, 2) := by decide +kernel
theorem dX10_deadOf_63 : decode cX10_deadOf 63 = .ok (.iconst 1, 1) := by decide +kernel
theorem dX10_deadOf_64 : decode cX10_deadOf 64 = .ok (.iload 5, 2) := by decide +kernel
theorem dX10_deadOf_66 : decode cX10_deadOf 66 = .ok (.ishl, 1) := by decide +kernel
theorem dX10_deadOf_67 : decode cX10_deadOf 67 = .ok (.iconst (-1), 1) := by decide +kernel
theorem dX10_deadOf_68 : decode cX10_deadOf 68 = .ok (.ixor, 1) := by decide +kernel
theorem dX10_deadOf_69 : decode cX10_deadOf 69 = .ok (.iand, 1) := by decide +kernel
theorem dX10_deadOf_70 : decode cX10_deadOf 70 = .ok (.istore 6, 2) := by decide +kernel
theorem dX10_deadOf_72 : decode cX10_deadOf 72 = .ok (.aload_n 0, 1) := by decide +kernel
theorem dX10_deadOf_73 : decode cX10_deadOf 73 = .ok (.getfield 53, 3) := by decide +kernel
theorem dX10_deadOf_76 : decode cX10_deadOf 76 = .ok (.iload 4, 2) := by decide +kernel
theorem dX10_deadOf_78 : decode cX10_deadOf 78 = .ok (.iload 4, 2) := by decide +kernel
theorem dX10_deadOf_80 : decode cX10_deadOf 80 = .ok (.iload 5, 2) := by decide +kernel
theorem dX10_deadOf_82 : decode cX10_deadOf 82 = .ok (.invokestatic 65, 3) := by decide +kernel
theorem dX10_deadOf_85 : decode cX10_deadOf 85 = .ok (.ifCond .eq 28, 3) := by decide +kernel
theorem dX10_deadOf_88 : decode cX10_deadOf 88 = .ok (.aload_n 0, 1) := by decide +kernel
theorem dX10_deadOf_89 : decode cX10_deadOf 89 = .ok (.getfield 53, 3) := by decide +kernel
theorem dX10_deadOf_92 : decode cX10_deadOf 92 = .ok (.iload 6, 2) := by decide +kernel
theorem dX10_deadOf_94 : decode cX10_deadOf 94 = .ok (.baload, 1) := by decide +kernel
theorem dX10_deadOf_95 : decode cX10_deadOf 95 = .ok (.ifCond .eq 18, 3) := by decide +kernel
theorem dX10_deadOf_98 : decode cX10_deadOf 98 = .ok (.aload_n 1, 1) := by decide +kernel
theorem dX10_deadOf_99 : decode cX10_deadOf 99 = .ok (.iload 6, 2) := by decide +kernel
theorem dX10_deadOf_101 : decode cX10_deadOf 101 = .ok (.iload 5, 2) := by decide +kernel
theorem dX10_deadOf_103 : decode cX10_deadOf 103 = .ok (.invokestatic 98, 3) := by decide +kernel
theorem dX10_deadOf_106 : decode cX10_deadOf 106 = .ok (.ifCond .eq 7, 3) := by decide +kernel
theorem dX10_deadOf_109 : decode cX10_deadOf 109 = .ok (.iconst 1, 1) := by decide +kernel
theorem dX10_deadOf_110 : decode cX10_deadOf 110 = .ok (.goto 4, 3) := by decide +kernel
theorem dX10_deadOf_113 : decode cX10_deadOf 113 = .ok (.iconst 0, 1) := by decide +kernel
theorem dX10_deadOf_114 : decode cX10_deadOf 114 = .ok (.bastore, 1) := by decide +kernel
theorem dX10_deadOf_115 : decode cX10_deadOf 115 = .ok (.iinc 5 1, 3) := by decide +kernel
theorem dX10_deadOf_118 : decode cX10_deadOf 118 = .ok (.goto (-73), 3) := by decide +kernel
theorem dX10_deadOf_121 : decode cX10_deadOf 121 = .ok (.iload_n 3, 1) := by decide +kernel
theorem dX10_deadOf_122 : decode cX10_deadOf 122 = .ok (.aload_n 0, 1) := by decide +kernel
theorem dX10_deadOf_123 : decode cX10_deadOf 123 = .ok (.getfield 53, 3) := by decide +kernel
theorem dX10_deadOf_126 : decode cX10_deadOf 126 = .ok (.iload 4, 2) := by decide +kernel
theorem dX10_deadOf_128 : decode cX10_deadOf 128 = .ok (.baload, 1) := by decide +kernel
theorem dX10_deadOf_129 : decode cX10_deadOf 129 = .ok (.ifCond .eq 17, 3) := by decide +kernel
theorem dX10_deadOf_132 : decode cX10_deadOf 132 = .ok (.aload_n 0, 1) := by decide +kernel
theorem dX10_deadOf_133 : decode cX10_deadOf 133 = .ok (.getfield 50, 3) := by decide +kernel
theorem dX10_deadOf_136 : decode cX10_deadOf 136 = .ok (.iload 4, 2) := by decide +kernel
theorem dX10_deadOf_138 : decode cX10_deadOf 138 = .ok (.baload, 1) := by decide +kernel
theorem dX10_deadOf_139 : decode cX10_deadOf 139 = .ok (.ifCond .ne 7, 3) := by decide +kernel
theorem dX10_deadOf_142 : decode cX10_deadOf 142 = .ok (.iconst 1, 1) := by decide +kernel
theorem dX10_deadOf_143 : decode cX10_deadOf 143 = .ok (.goto 4, 3) := by decide +kernel
theorem dX10_deadOf_146 : decode cX10_deadOf 146 = .ok (.iconst 0, 1) := by decide +kernel
theorem dX10_deadOf_147 : decode cX10_deadOf 147 = .ok (.iadd, 1) := by decide +kernel
theorem dX10_deadOf_148 : decode cX10_deadOf 148 = .ok (.istore_n 3, 1) := by decide +kernel
theorem dX10_deadOf_149 : decode cX10_deadOf 149 = .ok (.iinc 4 1, 3) := by decide +kernel
theorem dX10_deadOf_152 : decode cX10_deadOf 152 = .ok (.goto (-135), 3) := by decide +kernel
theorem dX10_deadOf_155 : decode cX10_deadOf 155 = .ok (.iload_n 3, 1) := by decide +kernel
theorem dX10_deadOf_156 : decode cX10_deadOf 156 = .ok (.ireturn, 1) := by decide +kernel
theorem dX10_append_0 : decode cX10_append 0 = .ok (.aload_n 0, 1) := by decide +kernel
theorem dX10_append_1 : decode cX10_append 1 = .ok (.iload_n 1, 1) := by decide +kernel
theorem dX10_append_2 : decode cX10_append 2 = .ok (.i2l, 1) := by decide +kernel
theorem dX10_append_3 : decode cX10_append 3 = .ok (.lconst 0, 1) := by decide +kernel
theorem dX10_append_4 : decode cX10_append 4 = .ok (.ldc2_w 137, 3) := by decide +kernel
theorem dX10_append_7 : decode cX10_append 7 = .ok (.invokestatic 139, 3) := by decide +kernel
theorem dX10_append_10 : decode cX10_append 10 = .ok (.ifCond .ne 7, 3) := by decide +kernel
theorem dX10_append_13 : decode cX10_append 13 = .ok (.iconst 1, 1) := by decide +kernel
theorem dX10_append_14 : decode cX10_append 14 = .ok (.goto 17, 3) := by decide +kernel
theorem dX10_append_17 : decode cX10_append 17 = .ok (.aload_n 0, 1) := by decide +kernel
theorem dX10_append_18 : decode cX10_append 18 = .ok (.getfield 143, 3) := by decide +kernel
theorem dX10_append_21 : decode cX10_append 21 = .ok (.bipush 120, 2) := by decide +kernel
theorem dX10_append_23 : decode cX10_append 23 = .ok (.if_icmp .ne 7, 3) := by decide +kernel
theorem dX10_append_26 : decode cX10_append 26 = .ok (.iconst 2, 1) := by decide +kernel
theorem dX10_append_27 : decode cX10_append 27 = .ok (.goto 4, 3) := by decide +kernel
theorem dX10_append_30 : decode cX10_append 30 = .ok (.iconst 0, 1) := by decide +kernel
theorem dX10_append_31 : decode cX10_append 31 = .ok (.invokevirtual 146, 3) := by decide +kernel
theorem dX10_append_34 : decode cX10_append 34 = .ok (.ifCond .eq 5, 3) := by decide +kernel
theorem dX10_append_37 : decode cX10_append 37 = .ok (.iconst 0, 1) := by decide +kernel
theorem dX10_append_38 : decode cX10_append 38 = .ok (.ireturn, 1) := by decide +kernel
theorem dX10_append_39 : decode cX10_append 39 = .ok (.aload_n 0, 1) := by decide +kernel
theorem dX10_append_40 : decode cX10_append 40 = .ok (.getfield 7, 3) := by decide +kernel
theorem dX10_append_43 : decode cX10_append 43 = .ok (.aload_n 0, 1) := by decide +kernel
theorem dX10_append_44 : decode cX10_append 44 = .ok (.getfield 143, 3) := by decide +kernel
theorem dX10_append_47 : decode cX10_append 47 = .ok (.iload_n 1, 1) := by decide +kernel
theorem dX10_append_48 : decode cX10_append 48 = .ok (.iastore, 1) := by decide +kernel
theorem dX10_append_49 : decode cX10_append 49 = .ok (.aload_n 0, 1) := by decide +kernel
theorem dX10_append_50 : decode cX10_append 50 = .ok (.dup, 1) := by decide +kernel
theorem dX10_append_51 : decode cX10_append 51 = .ok (.getfield 143, 3) := by decide +kernel
theorem dX10_append_54 : decode cX10_append 54 = .ok (.iconst 1, 1) := by decide +kernel
theorem dX10_append_55 : decode cX10_append 55 = .ok (.iadd, 1) := by decide +kernel
theorem dX10_append_56 : decode cX10_append 56 = .ok (.putfield 143, 3) := by decide +kernel
theorem dX10_append_59 : decode cX10_append 59 = .ok (.aload_n 0, 1) := by decide +kernel
theorem dX10_append_60 : decode cX10_append 60 = .ok (.getfield 143, 3) := by decide +kernel
theorem dX10_append_63 : decode cX10_append 63 = .ok (.ireturn, 1) := by decide +kernel
theorem dX10_clearText_0 : decode cX10_clearText 0 = .ok (.aload_n 0, 1) := by decide +kernel
theorem dX10_clearText_1 : decode cX10_clearText 1 = .ok (.iconst 0, 1) := by decide +kernel
theorem dX10_clearText_2 : decode cX10_clearText 2 = .ok (.putfield 73, 3) := by decide +kernel
theorem dX10_clearText_5 : decode cX10_clearText 5 = .ok (.aload_n 0, 1) := by decide +kernel
theorem dX10_clearText_6 : decode cX10_clearText 6 = .ok (.getfield 143, 3) := by decide +kernel
theorem dX10_clearText_9 : decode cX10_clearText 9 = .ok (.istore_n 1, 1) := by decide +kernel
theorem dX10_clearText_10 : decode cX10_clearText 10 = .ok (.aload_n 0, 1) := by decide +kernel
theorem dX10_clearText_11 : decode cX10_clearText 11 = .ok (.iconst 0, 1) := by decide +kernel
theorem dX10_clearText_12 : decode cX10_clearText 12 = .ok (.putfield 143, 3) := by decide +kernel
theorem dX10_clearText_15 : decode cX10_clearText 15 = .ok (.iload_n 1, 1) := by decide +kernel
theorem dX10_clearText_16 : decode cX10_clearText 16 = .ok (.ireturn, 1) := by decide +kernel
theorem dX10_isNext_0 : decode cX10_isNext 0 = .ok (.aload_n 0, 1) := by decide +kernel
theorem dX10_isNext_1 : decode cX10_isNext 1 = .ok (.getfield 150, 3) := by decide +kernel
theorem dX10_isNext_4 : decode cX10_isNext 4 = .ok (.aload_n 0, 1) := by decide +kernel
theorem dX10_isNext_5 : decode cX10_isNext 5 = .ok (.getfield 143, 3) := by decide +kernel
theorem dX10_isNext_8 : decode cX10_isNext 8 = .ok (.if_icmp .ge 20, 3) := by decide +kernel
theorem dX10_isNext_11 : decode cX10_isNext 11 = .ok (.aload_n 0, 1) := by decide +kernel
theorem dX10_isNext_12 : decode cX10_isNext 12 = .ok (.getfield 7, 3) := by decide +kernel
theorem dX10_isNext_15 : decode cX10_isNext 15 = .ok (.aload_n 0, 1) := by decide +kernel
theorem dX10_isNext_16 : decode cX10_isNext 16 = .ok (.getfield 150, 3) := by decide +kernel
theorem dX10_isNext_19 : decode cX10_isNext 19 = .ok (.iaload, 1) := by decide +kernel
theorem dX10_isNext_20 : decode cX10_isNext 20 = .ok (.iload_n 1, 1) := by decide +kernel
theorem dX10_isNext_21 : decode cX10_isNext 21 = .ok (.if_icmp .ne 7, 3) := by decide +kernel
theorem dX10_isNext_24 : decode cX10_isNext 24 = .ok (.iconst 1, 1) := by decide +kernel
theorem dX10_isNext_25 : decode cX10_isNext 25 = .ok (.goto 4, 3) := by decide +kernel
theorem dX10_isNext_28 : decode cX10_isNext 28 = .ok (.iconst 0, 1) := by decide +kernel
theorem dX10_isNext_29 : decode cX10_isNext 29 = .ok (.ireturn, 1) := by decide +kernel
theorem dX10_accept_0 : decode cX10_accept 0 = .ok (.aload_n 0, 1) := by decide +kernel
theorem dX10_accept_1 : decode cX10_accept 1 = .ok (.aload_n 0, 1) := by decide +kernel
theorem dX10_accept_2 : decode cX10_accept 2 = .ok (.getfield 153, 3) := by decide +kernel
theorem dX10_accept_5 : decode cX10_accept 5 = .ok (.ifCond .eq 11, 3) := by decide +kernel
theorem dX10_accept_8 : decode cX10_accept 8 = .ok (.iload_n 1, 1) := by decide +kernel
theorem dX10_accept_9 : decode cX10_accept 9 = .ok (.ifCond .eq 7, 3) := by decide +kernel
theorem dX10_accept_12 : decode cX10_accept 12 = .ok (.iconst 1, 1) := by decide +kernel
theorem dX10_accept_13 : decode cX10_accept 13 = .ok (.goto 4, 3) := by decide +kernel
theorem dX10_accept_16 : decode cX10_accept 16 = .ok (.iconst 0, 1) := by decide +kernel
theorem dX10_accept_17 : decode cX10_accept 17 = .ok (.putfield 153, 3) := by decide +kernel
theorem dX10_accept_20 : decode cX10_accept 20 = .ok (.aload_n 0, 1) := by decide +kernel
theorem dX10_accept_21 : decode cX10_accept 21 = .ok (.dup, 1) := by decide +kernel
theorem dX10_accept_22 : decode cX10_accept 22 = .ok (.getfield 150, 3) := by decide +kernel
theorem dX10_accept_25 : decode cX10_accept 25 = .ok (.aload_n 0, 1) := by decide +kernel
theorem dX10_accept_26 : decode cX10_accept 26 = .ok (.getfield 153, 3) := by decide +kernel
theorem dX10_accept_29 : decode cX10_accept 29 = .ok (.ifCond .eq 7, 3) := by decide +kernel
theorem dX10_accept_32 : decode cX10_accept 32 = .ok (.iconst 1, 1) := by decide +kernel
theorem dX10_accept_33 : decode cX10_accept 33 = .ok (.goto 4, 3) := by decide +kernel
theorem dX10_accept_36 : decode cX10_accept 36 = .ok (.iconst 0, 1) := by decide +kernel
theorem dX10_accept_37 : decode cX10_accept 37 = .ok (.iadd, 1) := by decide +kernel
theorem dX10_accept_38 : decode cX10_accept 38 = .ok (.putfield 150, 3) := by decide +kernel
theorem dX10_accept_41 : decode cX10_accept 41 = .ok (.return_, 1) := by decide +kernel
theorem dX10_digit_0 : decode cX10_digit 0 = .ok (.aload_n 0, 1) := by decide +kernel
theorem dX10_digit_1 : decode cX10_digit 1 = .ok (.getfield 150, 3) := by decide +kernel
theorem dX10_digit_4 : decode cX10_digit 4 = .ok (.aload_n 0, 1) := by decide +kernel
theorem dX10_digit_5 : decode cX10_digit 5 = .ok (.getfield 143, 3) := by decide +kernel
theorem dX10_digit_8 : decode cX10_digit 8 = .ok (.if_icmp .ge 18, 3) := by decide +kernel
theorem dX10_digit_11 : decode cX10_digit 11 = .ok (.aload_n 0, 1) := by decide +kernel
theorem dX10_digit_12 : decode cX10_digit 12 = .ok (.getfield 7, 3) := by decide +kernel
theorem dX10_digit_15 : decode cX10_digit 15 = .ok (.aload_n 0, 1) := by decide +kernel
theorem dX10_digit_16 : decode cX10_digit 16 = .ok (.getfield 150, 3) := by decide +kernel
theorem dX10_digit_19 : decode cX10_digit 19 = .ok (.iaload, 1) := by decide +kernel
theorem dX10_digit_20 : decode cX10_digit 20 = .ok (.bipush 48, 2) := by decide +kernel
theorem dX10_digit_22 : decode cX10_digit 22 = .ok (.isub, 1) := by decide +kernel
theorem dX10_digit_23 : decode cX10_digit 23 = .ok (.goto 5, 3) := by decide +kernel
theorem dX10_digit_26 : decode cX10_digit 26 = .ok (.bipush (-9), 2) := by decide +kernel
theorem dX10_digit_28 : decode cX10_digit 28 = .ok (.istore_n 1, 1) := by decide +kernel
theorem dX10_digit_29 : decode cX10_digit 29 = .ok (.aload_n 0, 1) := by decide +kernel
theorem dX10_digit_30 : decode cX10_digit 30 = .ok (.iload_n 1, 1) := by decide +kernel
theorem dX10_digit_31 : decode cX10_digit 31 = .ok (.i2l, 1) := by decide +kernel
theorem dX10_digit_32 : decode cX10_digit 32 = .ok (.lconst 0, 1) := by decide +kernel
theorem dX10_digit_33 : decode cX10_digit 33 = .ok (.ldc2_w 157, 3) := by decide +kernel
theorem dX10_digit_36 : decode cX10_digit 36 = .ok (.invokestatic 139, 3) := by decide +kernel
theorem dX10_digit_39 : decode cX10_digit 39 = .ok (.invokevirtual 159, 3) := by decide +kernel
theorem dX10_digit_42 : decode cX10_digit 42 = .ok (.aload_n 0, 1) := by decide +kernel
theorem dX10_digit_43 : decode cX10_digit 43 = .ok (.getfield 153, 3) := by decide +kernel
theorem dX10_digit_46 : decode cX10_digit 46 = .ok (.ifCond .eq 7, 3) := by decide +kernel
theorem dX10_digit_49 : decode cX10_digit 49 = .ok (.iload_n 1, 1) := by decide +kernel
theorem dX10_digit_50 : decode cX10_digit 50 = .ok (.goto 4, 3) := by decide +kernel
theorem dX10_digit_53 : decode cX10_digit 53 = .ok (.iconst 0, 1) := by decide +kernel
theorem dX10_digit_54 : decode cX10_digit 54 = .ok (.ireturn, 1) := by decide +kernel
theorem dX10_begins_0 : decode cX10_begins 0 = .ok (.aload_n 0, 1) := by decide +kernel
theorem dX10_begins_1 : decode cX10_begins 1 = .ok (.dup, 1) := by decide +kernel
theorem dX10_begins_2 : decode cX10_begins 2 = .ok (.getfield 163, 3) := by decide +kernel
theorem dX10_begins_5 : decode cX10_begins 5 = .ok (.iconst 1, 1) := by decide +kernel
theorem dX10_begins_6 : decode cX10_begins 6 = .ok (.iadd, 1) := by decide +kernel
theorem dX10_begins_7 : decode cX10_begins 7 = .ok (.putfield 163, 3) := by decide +kernel
theorem dX10_begins_10 : decode cX10_begins 10 = .ok (.aload_n 0, 1) := by decide +kernel
theorem dX10_begins_11 : decode cX10_begins 11 = .ok (.getfield 16, 3) := by decide +kernel
theorem dX10_begins_14 : decode cX10_begins 14 = .ok (.aload_n 0, 1) := by decide +kernel
theorem dX10_begins_15 : decode cX10_begins 15 = .ok (.getfield 163, 3) := by decide +kernel
theorem dX10_begins_18 : decode cX10_begins 18 = .ok (.iload_n 1, 1) := by decide +kernel
theorem dX10_begins_19 : decode cX10_begins 19 = .ok (.iastore, 1) := by decide +kernel
theorem dX10_begins_20 : decode cX10_begins 20 = .ok (.aload_n 0, 1) := by decide +kernel
theorem dX10_begins_21 : decode cX10_begins 21 = .ok (.getfield 19, 3) := by decide +kernel
theorem dX10_begins_24 : decode cX10_begins 24 = .ok (.aload_n 0, 1) := by decide +kernel
theorem dX10_begins_25 : decode cX10_begins 25 = .ok (.getfield 163, 3) := by decide +kernel
theorem dX10_begins_28 : decode cX10_begins 28 = .ok (.iconst 0, 1) := by decide +kernel
theorem dX10_begins_29 : decode cX10_begins 29 = .ok (.bastore, 1) := by decide +kernel
theorem dX10_begins_30 : decode cX10_begins 30 = .ok (.aload_n 0, 1) := by decide +kernel
theorem dX10_begins_31 : decode cX10_begins 31 = .ok (.getfield 23, 3) := by decide +kernel
theorem dX10_begins_34 : decode cX10_begins 34 = .ok (.aload_n 0, 1) := by decide +kernel
theorem dX10_begins_35 : decode cX10_begins 35 = .ok (.getfield 163, 3) := by decide +kernel
theorem dX10_begins_38 : decode cX10_begins 38 = .ok (.iconst 1, 1) := by decide +kernel
theorem dX10_begins_39 : decode cX10_begins 39 = .ok (.bastore, 1) := by decide +kernel
theorem dX10_begins_40 : decode cX10_begins 40 = .ok (.aload_n 0, 1) := by decide +kernel
theorem dX10_begins_41 : decode cX10_begins 41 = .ok (.getfield 26, 3) := by decide +kernel
theorem dX10_begins_44 : decode cX10_begins 44 = .ok (.aload_n 0, 1) := by decide +kernel
theorem dX10_begins_45 : decode cX10_begins 45 = .ok (.getfield 163, 3) := by decide +kernel
theorem dX10_begins_48 : decode cX10_begins 48 = .ok (.iconst 0, 1) := by decide +kernel
theorem dX10_begins_49 : decode cX10_begins 49 = .ok (.bastore, 1) := by decide +kernel
theorem dX10_begins_50 : decode cX10_begins 50 = .ok (.aload_n 0, 1) := by decide +kernel
theorem dX10_begins_51 : decode cX10_begins 51 = .ok (.getfield 29, 3) := by decide +kernel
theorem dX10_begins_54 : decode cX10_begins 54 = .ok (.aload_n 0, 1) := by decide +kernel
theorem dX10_begins_55 : decode cX10_begins 55 = .ok (.getfield 163, 3) := by decide +kernel
theorem dX10_begins_58 : decode cX10_begins 58 = .ok (.iload_n 2, 1) := by decide +kernel
theorem dX10_begins_59 : decode cX10_begins 59 = .ok (.iastore, 1) := by decide +kernel
theorem dX10_begins_60 : decode cX10_begins 60 = .ok (.aload_n 0, 1) := by decide +kernel
theorem dX10_begins_61 : decode cX10_begins 61 = .ok (.getfield 32, 3) := by decide +kernel
theorem dX10_begins_64 : decode cX10_begins 64 = .ok (.aload_n 0, 1) := by decide +kernel
theorem dX10_begins_65 : decode cX10_begins 65 = .ok (.getfield 163, 3) := by decide +kernel
theorem dX10_begins_68 : decode cX10_begins 68 = .ok (.iconst 0, 1) := by decide +kernel
theorem dX10_begins_69 : decode cX10_begins 69 = .ok (.iastore, 1) := by decide +kernel
theorem dX10_begins_70 : decode cX10_begins 70 = .ok (.return_, 1) := by decide +kernel
theorem dX10_part_0 : decode cX10_part 0 = .ok (.aload_n 0, 1) := by decide +kernel
theorem dX10_part_1 : decode cX10_part 1 = .ok (.getfield 23, 3) := by decide +kernel
theorem dX10_part_4 : decode cX10_part 4 = .ok (.aload_n 0, 1) := by decide +kernel
theorem dX10_part_5 : decode cX10_part 5 = .ok (.getfield 163, 3) := by decide +kernel
theorem dX10_part_8 : decode cX10_part 8 = .ok (.aload_n 0, 1) := by decide +kernel
theorem dX10_part_9 : decode cX10_part 9 = .ok (.getfield 23, 3) := by decide +kernel
theorem dX10_part_12 : decode cX10_part 12 = .ok (.aload_n 0, 1) := by decide +kernel
theorem dX10_part_13 : decode cX10_part 13 = .ok (.getfield 163, 3) := by decide +kernel
theorem dX10_part_16 : decode cX10_part 16 = .ok (.baload, 1) := by decide +kernel
theorem dX10_part_17 : decode cX10_part 17 = .ok (.ifCond .eq 20, 3) := by decide +kernel
theorem dX10_part_20 : decode cX10_part 20 = .ok (.iload_n 1, 1) := by decide +kernel
theorem dX10_part_21 : decode cX10_part 21 = .ok (.aload_n 0, 1) := by decide +kernel
theorem dX10_part_22 : decode cX10_part 22 = .ok (.getfield 26, 3) := by decide +kernel
theorem dX10_part_25 : decode cX10_part 25 = .ok (.aload_n 0, 1) := by decide +kernel
theorem dX10_part_26 : decode cX10_part 26 = .ok (.getfield 163, 3) := by decide +kernel
theorem dX10_part_29 : decode cX10_part 29 = .ok (.baload, 1) := by decide +kernel
theorem dX10_part_30 : decode cX10_part 30 = .ok (.if_icmp .eq 7, 3) := by decide +kernel
theorem dX10_part_33 : decode cX10_part 33 = .ok (.iconst 1, 1) := by decide +kernel
theorem dX10_part_34 : decode cX10_part 34 = .ok (.goto 4, 3) := by decide +kernel
theorem dX10_part_37 : decode cX10_part 37 = .ok (.iconst 0, 1) := by decide +kernel
theorem dX10_part_38 : decode cX10_part 38 = .ok (.bastore, 1) := by decide +kernel
theorem dX10_part_39 : decode cX10_part 39 = .ok (.aload_n 0, 1) := by decide +kernel
theorem dX10_part_40 : decode cX10_part 40 = .ok (.getfield 26, 3) := by decide +kernel
theorem dX10_part_43 : decode cX10_part 43 = .ok (.aload_n 0, 1) := by decide +kernel
theorem dX10_part_44 : decode cX10_part 44 = .ok (.getfield 163, 3) := by decide +kernel
theorem dX10_part_47 : decode cX10_part 47 = .ok (.iconst 0, 1) := by decide +kernel
theorem dX10_part_48 : decode cX10_part 48 = .ok (.bastore, 1) := by decide +kernel
theorem dX10_part_49 : decode cX10_part 49 = .ok (.return_, 1) := by decide +kernel
theorem dX10_isGroupOrAhead_0 : decode cX10_isGroupOrAhead 0 = .ok (.aload_n 0, 1) := by decide +kernel
theorem dX10_isGroupOrAhead_1 : decode cX10_isGroupOrAhead 1 = .ok (.getfield 19, 3) := by decide +kernel
theorem dX10_isGroupOrAhead_4 : decode cX10_isGroupOrAhead 4 = .ok (.aload_n 0, 1) := by decide +kernel
theorem dX10_isGroupOrAhead_5 : decode cX10_isGroupOrAhead 5 = .ok (.getfield 163, 3) := by decide +kernel
theorem dX10_isGroupOrAhead_8 : decode cX10_isGroupOrAhead 8 = .ok (.baload, 1) := by decide +kernel
theorem dX10_isGroupOrAhead_9 : decode cX10_isGroupOrAhead 9 = .ok (.ifCond .ne 15, 3) := by decide +kernel
theorem dX10_isGroupOrAhead_12 : decode cX10_isGroupOrAhead 12 = .ok (.aload_n 0, 1) := by decide +kernel
theorem dX10_isGroupOrAhead_13 : decode cX10_isGroupOrAhead 13 = .ok (.getfield 23, 3) := by decide +kernel
theorem dX10_isGroupOrAhead_16 : decode cX10_isGroupOrAhead 16 = .ok (.aload_n 0, 1) := by decide +kernel
theorem dX10_isGroupOrAhead_17 : decode cX10_isGroupOrAhead 17 = .ok (.getfield 163, 3) := by decide +kernel
theorem dX10_isGroupOrAhead_20 : decode cX10_isGroupOrAhead 20 = .ok (.baload, 1) := by decide +kernel
theorem dX10_isGroupOrAhead_21 : decode cX10_isGroupOrAhead 21 = .ok (.ifCond .eq 7, 3) := by decide +kernel
theorem dX10_isGroupOrAhead_24 : decode cX10_isGroupOrAhead 24 = .ok (.iconst 1, 1) := by decide +kernel
theorem dX10_isGroupOrAhead_25 : decode cX10_isGroupOrAhead 25 = .ok (.goto 4, 3) := by decide +kernel
theorem dX10_isGroupOrAhead_28 : decode cX10_isGroupOrAhead 28 = .ok (.iconst 0, 1) := by decide +kernel
theorem dX10_isGroupOrAhead_29 : decode cX10_isGroupOrAhead 29 = .ok (.ireturn, 1) := by decide +kernel
theorem dX10_readPart_0 : decode cX10_readPart 0 = .ok (.aload_n 0, 1) := by decide +kernel
theorem dX10_readPart_1 : decode cX10_readPart 1 = .ok (.getfield 150, 3) := by decide +kernel
theorem dX10_readPart_4 : decode cX10_readPart 4 = .ok (.aload_n 0, 1) := by decide +kernel
theorem dX10_readPart_5 : decode cX10_readPart 5 = .ok (.getfield 143, 3) := by decide +kernel
theorem dX10_readPart_8 : decode cX10_readPart 8 = .ok (.if_icmp .ge 15, 3) := by decide +kernel
theorem dX10_readPart_11 : decode cX10_readPart 11 = .ok (.aload_n 0, 1) := by decide +kernel
theorem dX10_readPart_12 : decode cX10_readPart 12 = .ok (.getfield 7, 3) := by decide +kernel
theorem dX10_readPart_15 : decode cX10_readPart 15 = .ok (.aload_n 0, 1) := by decide +kernel
theorem dX10_readPart_16 : decode cX10_readPart 16 = .ok (.getfield 150, 3) := by decide +kernel
theorem dX10_readPart_19 : decode cX10_readPart 19 = .ok (.iaload, 1) := by decide +kernel
theorem dX10_readPart_20 : decode cX10_readPart 20 = .ok (.goto 5, 3) := by decide +kernel
theorem dX10_readPart_23 : decode cX10_readPart 23 = .ok (.bipush (-9), 2) := by decide +kernel
theorem dX10_readPart_25 : decode cX10_readPart 25 = .ok (.istore_n 3, 1) := by decide +kernel
theorem dX10_readPart_26 : decode cX10_readPart 26 = .ok (.iload_n 3, 1) := by decide +kernel
theorem dX10_readPart_27 : decode cX10_readPart 27 = .ok (.bipush 42, 2) := by decide +kernel
theorem dX10_readPart_29 : decode cX10_readPart 29 = .ok (.if_icmp .eq 21, 3) := by decide +kernel
theorem dX10_readPart_32 : decode cX10_readPart 32 = .ok (.iload_n 3, 1) := by decide +kernel
theorem dX10_readPart_33 : decode cX10_readPart 33 = .ok (.i2l, 1) := by decide +kernel
theorem dX10_readPart_34 : decode cX10_readPart 34 = .ok (.ldc2_w 166, 3) := by decide +kernel
theorem dX10_readPart_37 : decode cX10_readPart 37 = .ok (.bipush 97, 2) := by decide +kernel
theorem dX10_readPart_39 : decode cX10_readPart 39 = .ok (.iload_n 2, 1) := by decide +kernel
theorem dX10_readPart_40 : decode cX10_readPart 40 = .ok (.iadd, 1) := by decide +kernel
theorem dX10_readPart_41 : decode cX10_readPart 41 = .ok (.iconst 1, 1) := by decide +kernel
theorem dX10_readPart_42 : decode cX10_readPart 42 = .ok (.isub, 1) := by decide +kernel
theorem dX10_readPart_43 : decode cX10_readPart 43 = .ok (.i2l, 1) := by decide +kernel
theorem dX10_readPart_44 : decode cX10_readPart 44 = .ok (.invokestatic 139, 3) := by decide +kernel
theorem dX10_readPart_47 : decode cX10_readPart 47 = .ok (.ifCond .eq 36, 3) := by decide +kernel
theorem dX10_readPart_50 : decode cX10_readPart 50 = .ok (.aload_n 0, 1) := by decide +kernel
theorem dX10_readPart_51 : decode cX10_readPart 51 = .ok (.iconst 1, 1) := by decide +kernel
theorem dX10_readPart_52 : decode cX10_readPart 52 = .ok (.invokevirtual 159, 3) := by decide +kernel
theorem dX10_readPart_55 : decode cX10_readPart 55 = .ok (.aload_n 0, 1) := by decide +kernel
theorem dX10_readPart_56 : decode cX10_readPart 56 = .ok (.iload_n 3, 1) := by decide +kernel
theorem dX10_readPart_57 : decode cX10_readPart 57 = .ok (.bipush 42, 2) := by decide +kernel
theorem dX10_readPart_59 : decode cX10_readPart 59 = .ok (.if_icmp .eq 14, 3) := by decide +kernel
theorem dX10_readPart_62 : decode cX10_readPart 62 = .ok (.iload_n 1, 1) := by decide +kernel
theorem dX10_readPart_63 : decode cX10_readPart 63 = .ok (.iload_n 3, 1) := by decide +kernel
theorem dX10_readPart_64 : decode cX10_readPart 64 = .ok (.bipush 97, 2) := by decide +kernel
theorem dX10_readPart_66 : decode cX10_readPart 66 = .ok (.isub, 1) := by decide +kernel
theorem dX10_readPart_67 : decode cX10_readPart 67 = .ok (.invokestatic 65, 3) := by decide +kernel
theorem dX10_readPart_70 : decode cX10_readPart 70 = .ok (.ifCond .eq 7, 3) := by decide +kernel
theorem dX10_readPart_73 : decode cX10_readPart 73 = .ok (.iconst 1, 1) := by decide +kernel
theorem dX10_readPart_74 : decode cX10_readPart 74 = .ok (.goto 4, 3) := by decide +kernel
theorem dX10_readPart_77 : decode cX10_readPart 77 = .ok (.iconst 0, 1) := by decide +kernel
theorem dX10_readPart_78 : decode cX10_readPart 78 = .ok (.invokevirtual 168, 3) := by decide +kernel
theorem dX10_readPart_81 : decode cX10_readPart 81 = .ok (.iconst 1, 1) := by decide +kernel
theorem dX10_readPart_82 : decode cX10_readPart 82 = .ok (.ireturn, 1) := by decide +kernel
theorem dX10_readPart_83 : decode cX10_readPart 83 = .ok (.iload_n 3, 1) := by decide +kernel
theorem dX10_readPart_84 : decode cX10_readPart 84 = .ok (.bipush 33, 2) := by decide +kernel
theorem dX10_readPart_86 : decode cX10_readPart 86 = .ok (.if_icmp .ne 37, 3) := by decide +kernel
theorem dX10_readPart_89 : decode cX10_readPart 89 = .ok (.aload_n 0, 1) := by decide +kernel
theorem dX10_readPart_90 : decode cX10_readPart 90 = .ok (.iconst 1, 1) := by decide +kernel
theorem dX10_readPart_91 : decode cX10_readPart 91 = .ok (.invokevirtual 159, 3) := by decide +kernel
theorem dX10_readPart_94 : decode cX10_readPart 94 = .ok (.aload_n 0, 1) := by decide +kernel
theorem dX10_readPart_95 : decode cX10_readPart 95 = .ok (.getfield 26, 3) := by decide +kernel
theorem dX10_readPart_98 : decode cX10_readPart 98 = .ok (.aload_n 0, 1) := by decide +kernel
theorem dX10_readPart_99 : decode cX10_readPart 99 = .ok (.getfield 163, 3) := by decide +kernel
theorem dX10_readPart_102 : decode cX10_readPart 102 = .ok (.aload_n 0, 1) := by decide +kernel
theorem dX10_readPart_103 : decode cX10_readPart 103 = .ok (.getfield 26, 3) := by decide +kernel
theorem dX10_readPart_106 : decode cX10_readPart 106 = .ok (.aload_n 0, 1) := by decide +kernel
theorem dX10_readPart_107 : decode cX10_readPart 107 = .ok (.getfield 163, 3) := by decide +kernel
theorem dX10_readPart_110 : decode cX10_readPart 110 = .ok (.baload, 1) := by decide +kernel
theorem dX10_readPart_111 : decode cX10_readPart 111 = .ok (.ifCond .ne 7, 3) := by decide +kernel
theorem dX10_readPart_114 : decode cX10_readPart 114 = .ok (.iconst 1, 1) := by decide +kernel
theorem dX10_readPart_115 : decode cX10_readPart 115 = .ok (.goto 4, 3) := by decide +kernel
theorem dX10_readPart_118 : decode cX10_readPart 118 = .ok (.iconst 0, 1) := by decide +kernel
theorem dX10_readPart_119 : decode cX10_readPart 119 = .ok (.bastore, 1) := by decide +kernel
theorem dX10_readPart_120 : decode cX10_readPart 120 = .ok (.goto 69, 3) := by decide +kernel
theorem dX10_readPart_123 : decode cX10_readPart 123 = .ok (.iload_n 3, 1) := by decide +kernel
theorem dX10_readPart_124 : decode cX10_readPart 124 = .ok (.bipush 40, 2) := by decide +kernel
theorem dX10_readPart_126 : decode cX10_readPart 126 = .ok (.if_icmp .ne 17, 3) := by decide +kernel
theorem dX10_readPart_129 : decode cX10_readPart 129 = .ok (.aload_n 0, 1) := by decide +kernel
theorem dX10_readPart_130 : decode cX10_readPart 130 = .ok (.iconst 1, 1) := by decide +kernel
theorem dX10_readPart_131 : decode cX10_readPart 131 = .ok (.invokevirtual 159, 3) := by decide +kernel
theorem dX10_readPart_134 : decode cX10_readPart 134 = .ok (.aload_n 0, 1) := by decide +kernel
theorem dX10_readPart_135 : decode cX10_readPart 135 = .ok (.iconst 1, 1) := by decide +kernel
theorem dX10_readPart_136 : decode cX10_readPart 136 = .ok (.iconst 0, 1) := by decide +kernel
theorem dX10_readPart_137 : decode cX10_readPart 137 = .ok (.invokevirtual 171, 3) := by decide +kernel
theorem dX10_readPart_140 : decode cX10_readPart 140 = .ok (.goto 49, 3) := by decide +kernel
theorem dX10_readPart_143 : decode cX10_readPart 143 = .ok (.iload_n 3, 1) := by decide +kernel
theorem dX10_readPart_144 : decode cX10_readPart 144 = .ok (.i2l, 1) := by decide +kernel
theorem dX10_readPart_145 : decode cX10_readPart 145 = .ok (.ldc2_w 175, 3) := by decide +kernel
theorem dX10_readPart_148 : decode cX10_readPart 148 = .ok (.ldc2_w 177, 3) := by decide +kernel
theorem dX10_readPart_151 : decode cX10_readPart 151 = .ok (.invokestatic 139, 3) := by decide +kernel
theorem dX10_readPart_154 : decode cX10_readPart 154 = .ok (.ifCond .eq 30, 3) := by decide +kernel
theorem dX10_readPart_157 : decode cX10_readPart 157 = .ok (.aload_n 0, 1) := by decide +kernel
theorem dX10_readPart_158 : decode cX10_readPart 158 = .ok (.iconst 1, 1) := by decide +kernel
theorem dX10_readPart_159 : decode cX10_readPart 159 = .ok (.invokevirtual 159, 3) := by decide +kernel
theorem dX10_readPart_162 : decode cX10_readPart 162 = .ok (.aload_n 0, 1) := by decide +kernel
theorem dX10_readPart_163 : decode cX10_readPart 163 = .ok (.aload_n 0, 1) := by decide +kernel
theorem dX10_readPart_164 : decode cX10_readPart 164 = .ok (.bipush 91, 2) := by decide +kernel
theorem dX10_readPart_166 : decode cX10_readPart 166 = .ok (.invokevirtual 179, 3) := by decide +kernel
theorem dX10_readPart_169 : decode cX10_readPart 169 = .ok (.invokevirtual 159, 3) := by decide +kernel
theorem dX10_readPart_172 : decode cX10_readPart 172 = .ok (.aload_n 0, 1) := by decide +kernel
theorem dX10_readPart_173 : decode cX10_readPart 173 = .ok (.iconst 2, 1) := by decide +kernel
theorem dX10_readPart_174 : decode cX10_readPart 174 = .ok (.iload_n 3, 1) := by decide +kernel
theorem dX10_readPart_175 : decode cX10_readPart 175 = .ok (.bipush 48, 2) := by decide +kernel
theorem dX10_readPart_177 : decode cX10_readPart 177 = .ok (.isub, 1) := by decide +kernel
theorem dX10_readPart_178 : decode cX10_readPart 178 = .ok (.invokevirtual 171, 3) := by decide +kernel
theorem dX10_readPart_181 : decode cX10_readPart 181 = .ok (.goto 8, 3) := by decide +kernel
theorem dX10_readPart_184 : decode cX10_readPart 184 = .ok (.aload_n 0, 1) := by decide +kernel
theorem dX10_readPart_185 : decode cX10_readPart 185 = .ok (.iconst 0, 1) := by decide +kernel
theorem dX10_readPart_186 : decode cX10_readPart 186 = .ok (.invokevirtual 159, 3) := by decide +kernel
theorem dX10_readPart_189 : decode cX10_readPart 189 = .ok (.iconst 0, 1) := by decide +kernel
theorem dX10_readPart_190 : decode cX10_readPart 190 = .ok (.ireturn, 1) := by decide +kernel
theorem dX10_readBehind_0 : decode cX10_readBehind 0 = .ok (.aload_n 0, 1) := by decide +kernel
theorem dX10_readBehind_1 : decode cX10_readBehind 1 = .ok (.getfield 150, 3) := by decide +kernel
theorem dX10_readBehind_4 : decode cX10_readBehind 4 = .ok (.aload_n 0, 1) := by decide +kernel
theorem dX10_readBehind_5 : decode cX10_readBehind 5 = .ok (.getfield 143, 3) := by decide +kernel
theorem dX10_readBehind_8 : decode cX10_readBehind 8 = .ok (.if_icmp .ge 15, 3) := by decide +kernel
theorem dX10_readBehind_11 : decode cX10_readBehind 11 = .ok (.aload_n 0, 1) := by decide +kernel
theorem dX10_readBehind_12 : decode cX10_readBehind 12 = .ok (.getfield 7, 3) := by decide +kernel
theorem dX10_readBehind_15 : decode cX10_readBehind 15 = .ok (.aload_n 0, 1) := by decide +kernel
theorem dX10_readBehind_16 : decode cX10_readBehind 16 = .ok (.getfield 150, 3) := by decide +kernel
theorem dX10_readBehind_19 : decode cX10_readBehind 19 = .ok (.iaload, 1) := by decide +kernel
theorem dX10_readBehind_20 : decode cX10_readBehind 20 = .ok (.goto 5, 3) := by decide +kernel
theorem dX10_readBehind_23 : decode cX10_readBehind 23 = .ok (.bipush (-9), 2) := by decide +kernel
theorem dX10_readBehind_25 : decode cX10_readBehind 25 = .ok (.istore_n 1, 1) := by decide +kernel
theorem dX10_readBehind_26 : decode cX10_readBehind 26 = .ok (.iload_n 1, 1) := by decide +kernel
theorem dX10_readBehind_27 : decode cX10_readBehind 27 = .ok (.bipush 46, 2) := by decide +kernel
theorem dX10_readBehind_29 : decode cX10_readBehind 29 = .ok (.if_icmp .ne 10, 3) := by decide +kernel
theorem dX10_readBehind_32 : decode cX10_readBehind 32 = .ok (.aload_n 0, 1) := by decide +kernel
theorem dX10_readBehind_33 : decode cX10_readBehind 33 = .ok (.iconst 1, 1) := by decide +kernel
theorem dX10_readBehind_34 : decode cX10_readBehind 34 = .ok (.invokevirtual 159, 3) := by decide +kernel
theorem dX10_readBehind_37 : decode cX10_readBehind 37 = .ok (.iconst 1, 1) := by decide +kernel
theorem dX10_readBehind_38 : decode cX10_readBehind 38 = .ok (.ireturn, 1) := by decide +kernel
theorem dX10_readBehind_39 : decode cX10_readBehind 39 = .ok (.iload_n 1, 1) := by decide +kernel
theorem dX10_readBehind_40 : decode cX10_readBehind 40 = .ok (.bipush 43, 2) := by decide +kernel
theorem dX10_readBehind_42 : decode cX10_readBehind 42 = .ok (.if_icmp .ne 33, 3) := by decide +kernel
theorem dX10_readBehind_45 : decode cX10_readBehind 45 = .ok (.aload_n 0, 1) := by decide +kernel
theorem dX10_readBehind_46 : decode cX10_readBehind 46 = .ok (.iconst 1, 1) := by decide +kernel
theorem dX10_readBehind_47 : decode cX10_readBehind 47 = .ok (.invokevirtual 159, 3) := by decide +kernel
theorem dX10_readBehind_50 : decode cX10_readBehind 50 = .ok (.aload_n 0, 1) := by decide +kernel
theorem dX10_readBehind_51 : decode cX10_readBehind 51 = .ok (.getfield 19, 3) := by decide +kernel
theorem dX10_readBehind_54 : decode cX10_readBehind 54 = .ok (.aload_n 0, 1) := by decide +kernel
theorem dX10_readBehind_55 : decode cX10_readBehind 55 = .ok (.getfield 163, 3) := by decide +kernel
theorem dX10_readBehind_58 : decode cX10_readBehind 58 = .ok (.aload_n 0, 1) := by decide +kernel
theorem dX10_readBehind_59 : decode cX10_readBehind 59 = .ok (.invokevirtual 182, 3) := by decide +kernel
theorem dX10_readBehind_62 : decode cX10_readBehind 62 = .ok (.bastore, 1) := by decide +kernel
theorem dX10_readBehind_63 : decode cX10_readBehind 63 = .ok (.aload_n 0, 1) := by decide +kernel
theorem dX10_readBehind_64 : decode cX10_readBehind 64 = .ok (.getfield 23, 3) := by decide +kernel
theorem dX10_readBehind_67 : decode cX10_readBehind 67 = .ok (.aload_n 0, 1) := by decide +kernel
theorem dX10_readBehind_68 : decode cX10_readBehind 68 = .ok (.getfield 163, 3) := by decide +kernel
theorem dX10_readBehind_71 : decode cX10_readBehind 71 = .ok (.iconst 1, 1) := by decide +kernel
theorem dX10_readBehind_72 : decode cX10_readBehind 72 = .ok (.bastore, 1) := by decide +kernel
theorem dX10_readBehind_73 : decode cX10_readBehind 73 = .ok (.iconst 1, 1) := by decide +kernel
theorem dX10_readBehind_74 : decode cX10_readBehind 74 = .ok (.ireturn, 1) := by decide +kernel
theorem dX10_readBehind_75 : decode cX10_readBehind 75 = .ok (.iload_n 1, 1) := by decide +kernel
theorem dX10_readBehind_76 : decode cX10_readBehind 76 = .ok (.bipush 44, 2) := by decide +kernel
theorem dX10_readBehind_78 : decode cX10_readBehind 78 = .ok (.if_icmp .ne 67, 3) := by decide +kernel
theorem dX10_readBehind_81 : decode cX10_readBehind 81 = .ok (.aload_n 0, 1) := by decide +kernel
theorem dX10_readBehind_82 : decode cX10_readBehind 82 = .ok (.getfield 16, 3) := by decide +kernel
theorem dX10_readBehind_85 : decode cX10_readBehind 85 = .ok (.aload_n 0, 1) := by decide +kernel
theorem dX10_readBehind_86 : decode cX10_readBehind 86 = .ok (.getfield 163, 3) := by decide +kernel
theorem dX10_readBehind_89 : decode cX10_readBehind 89 = .ok (.iaload, 1) := by decide +kernel
theorem dX10_readBehind_90 : decode cX10_readBehind 90 = .ok (.iconst 2, 1) := by decide +kernel
theorem dX10_readBehind_91 : decode cX10_readBehind 91 = .ok (.if_icmp .ne 54, 3) := by decide +kernel
theorem dX10_readBehind_94 : decode cX10_readBehind 94 = .ok (.aload_n 0, 1) := by decide +kernel
theorem dX10_readBehind_95 : decode cX10_readBehind 95 = .ok (.iconst 1, 1) := by decide +kernel
theorem dX10_readBehind_96 : decode cX10_readBehind 96 = .ok (.invokevirtual 159, 3) := by decide +kernel
theorem dX10_readBehind_99 : decode cX10_readBehind 99 = .ok (.aload_n 0, 1) := by decide +kernel
theorem dX10_readBehind_100 : decode cX10_readBehind 100 = .ok (.getfield 32, 3) := by decide +kernel
theorem dX10_readBehind_103 : decode cX10_readBehind 103 = .ok (.aload_n 0, 1) := by decide +kernel
theorem dX10_readBehind_104 : decode cX10_readBehind 104 = .ok (.getfield 163, 3) := by decide +kernel
theorem dX10_readBehind_107 : decode cX10_readBehind 107 = .ok (.dup2, 1) := by decide +kernel
theorem dX10_readBehind_108 : decode cX10_readBehind 108 = .ok (.iaload, 1) := by decide +kernel
theorem dX10_readBehind_109 : decode cX10_readBehind 109 = .ok (.aload_n 0, 1) := by decide +kernel
theorem dX10_readBehind_110 : decode cX10_readBehind 110 = .ok (.invokevirtual 182, 3) := by decide +kernel
theorem dX10_readBehind_113 : decode cX10_readBehind 113 = .ok (.ifCond .eq 7, 3) := by decide +kernel
theorem dX10_readBehind_116 : decode cX10_readBehind 116 = .ok (.iconst 1, 1) := by decide +kernel
theorem dX10_readBehind_117 : decode cX10_readBehind 117 = .ok (.goto 4, 3) := by decide +kernel
theorem dX10_readBehind_120 : decode cX10_readBehind 120 = .ok (.iconst 0, 1) := by decide +kernel
theorem dX10_readBehind_121 : decode cX10_readBehind 121 = .ok (.iadd, 1) := by decide +kernel
theorem dX10_readBehind_122 : decode cX10_readBehind 122 = .ok (.iastore, 1) := by decide +kernel
theorem dX10_readBehind_123 : decode cX10_readBehind 123 = .ok (.aload_n 0, 1) := by decide +kernel
theorem dX10_readBehind_124 : decode cX10_readBehind 124 = .ok (.getfield 19, 3) := by decide +kernel
theorem dX10_readBehind_127 : decode cX10_readBehind 127 = .ok (.aload_n 0, 1) := by decide +kernel
theorem dX10_readBehind_128 : decode cX10_readBehind 128 = .ok (.getfield 163, 3) := by decide +kernel
theorem dX10_readBehind_131 : decode cX10_readBehind 131 = .ok (.iconst 0, 1) := by decide +kernel
theorem dX10_readBehind_132 : decode cX10_readBehind 132 = .ok (.bastore, 1) := by decide +kernel
theorem dX10_readBehind_133 : decode cX10_readBehind 133 = .ok (.aload_n 0, 1) := by decide +kernel
theorem dX10_readBehind_134 : decode cX10_readBehind 134 = .ok (.getfield 23, 3) := by decide +kernel
theorem dX10_readBehind_137 : decode cX10_readBehind 137 = .ok (.aload_n 0, 1) := by decide +kernel
theorem dX10_readBehind_138 : decode cX10_readBehind 138 = .ok (.getfield 163, 3) := by decide +kernel
theorem dX10_readBehind_141 : decode cX10_readBehind 141 = .ok (.iconst 1, 1) := by decide +kernel
theorem dX10_readBehind_142 : decode cX10_readBehind 142 = .ok (.bastore, 1) := by decide +kernel
theorem dX10_readBehind_143 : decode cX10_readBehind 143 = .ok (.iconst 1, 1) := by decide +kernel
theorem dX10_readBehind_144 : decode cX10_readBehind 144 = .ok (.ireturn, 1) := by decide +kernel
theorem dX10_readBehind_145 : decode cX10_readBehind 145 = .ok (.iload_n 1, 1) := by decide +kernel
theorem dX10_readBehind_146 : decode cX10_readBehind 146 = .ok (.bipush 41, 2) := by decide +kernel
theorem dX10_readBehind_148 : decode cX10_readBehind 148 = .ok (.if_icmp .ne 16, 3) := by decide +kernel
theorem dX10_readBehind_151 : decode cX10_readBehind 151 = .ok (.aload_n 0, 1) := by decide +kernel
theorem dX10_readBehind_152 : decode cX10_readBehind 152 = .ok (.getfield 16, 3) := by decide +kernel
theorem dX10_readBehind_155 : decode cX10_readBehind 155 = .ok (.aload_n 0, 1) := by decide +kernel
theorem dX10_readBehind_156 : decode cX10_readBehind 156 = .ok (.getfield 163, 3) := by decide +kernel
theorem dX10_readBehind_159 : decode cX10_readBehind 159 = .ok (.iaload, 1) := by decide +kernel
theorem dX10_readBehind_160 : decode cX10_readBehind 160 = .ok (.iconst 1, 1) := by decide +kernel
theorem dX10_readBehind_161 : decode cX10_readBehind 161 = .ok (.if_icmp .eq 22, 3) := by decide +kernel
theorem dX10_readBehind_164 : decode cX10_readBehind 164 = .ok (.iload_n 1, 1) := by decide +kernel
theorem dX10_readBehind_165 : decode cX10_readBehind 165 = .ok (.bipush 93, 2) := by decide +kernel
theorem dX10_readBehind_167 : decode cX10_readBehind 167 = .ok (.if_icmp .ne 20, 3) := by decide +kernel
theorem dX10_readBehind_170 : decode cX10_readBehind 170 = .ok (.aload_n 0, 1) := by decide +kernel
theorem dX10_readBehind_171 : decode cX10_readBehind 171 = .ok (.getfield 16, 3) := by decide +kernel
theorem dX10_readBehind_174 : decode cX10_readBehind 174 = .ok (.aload_n 0, 1) := by decide +kernel
theorem dX10_readBehind_175 : decode cX10_readBehind 175 = .ok (.getfield 163, 3) := by decide +kernel
theorem dX10_readBehind_178 : decode cX10_readBehind 178 = .ok (.iaload, 1) := by decide +kernel
theorem dX10_readBehind_179 : decode cX10_readBehind 179 = .ok (.iconst 2, 1) := by decide +kernel
theorem dX10_readBehind_180 : decode cX10_readBehind 180 = .ok (.if_icmp .ne 7, 3) := by decide +kernel
theorem dX10_readBehind_183 : decode cX10_readBehind 183 = .ok (.iconst 1, 1) := by decide +kernel
theorem dX10_readBehind_184 : decode cX10_readBehind 184 = .ok (.goto 4, 3) := by decide +kernel
theorem dX10_readBehind_187 : decode cX10_readBehind 187 = .ok (.iconst 0, 1) := by decide +kernel
theorem dX10_readBehind_188 : decode cX10_readBehind 188 = .ok (.istore_n 2, 1) := by decide +kernel
theorem dX10_readBehind_189 : decode cX10_readBehind 189 = .ok (.aload_n 0, 1) := by decide +kernel
theorem dX10_readBehind_190 : decode cX10_readBehind 190 = .ok (.iload_n 2, 1) := by decide +kernel
theorem dX10_readBehind_191 : decode cX10_readBehind 191 = .ok (.invokevirtual 159, 3) := by decide +kernel
theorem dX10_readBehind_194 : decode cX10_readBehind 194 = .ok (.iload_n 2, 1) := by decide +kernel
theorem dX10_readBehind_195 : decode cX10_readBehind 195 = .ok (.ifCond .eq 78, 3) := by decide +kernel
theorem dX10_readBehind_198 : decode cX10_readBehind 198 = .ok (.aload_n 0, 1) := by decide +kernel
theorem dX10_readBehind_199 : decode cX10_readBehind 199 = .ok (.getfield 16, 3) := by decide +kernel
theorem dX10_readBehind_202 : decode cX10_readBehind 202 = .ok (.aload_n 0, 1) := by decide +kernel
theorem dX10_readBehind_203 : decode cX10_readBehind 203 = .ok (.getfield 163, 3) := by decide +kernel
theorem dX10_readBehind_206 : decode cX10_readBehind 206 = .ok (.iaload, 1) := by decide +kernel
theorem dX10_readBehind_207 : decode cX10_readBehind 207 = .ok (.iconst 1, 1) := by decide +kernel
theorem dX10_readBehind_208 : decode cX10_readBehind 208 = .ok (.if_icmp .ne 10, 3) := by decide +kernel
theorem dX10_readBehind_211 : decode cX10_readBehind 211 = .ok (.aload_n 0, 1) := by decide +kernel
theorem dX10_readBehind_212 : decode cX10_readBehind 212 = .ok (.invokevirtual 182, 3) := by decide +kernel
theorem dX10_readBehind_215 : decode cX10_readBehind 215 = .ok (.goto 42, 3) := by decide +kernel
theorem dX10_readBehind_218 : decode cX10_readBehind 218 = .ok (.aload_n 0, 1) := by decide +kernel
theorem dX10_readBehind_219 : decode cX10_readBehind 219 = .ok (.getfield 32, 3) := by decide +kernel
theorem dX10_readBehind_222 : decode cX10_readBehind 222 = .ok (.aload_n 0, 1) := by decide +kernel
theorem dX10_readBehind_223 : decode cX10_readBehind 223 = .ok (.getfield 163, 3) := by decide +kernel
theorem dX10_readBehind_226 : decode cX10_readBehind 226 = .ok (.iaload, 1) := by decide +kernel
theorem dX10_readBehind_227 : decode cX10_readBehind 227 = .ok (.aload_n 0, 1) := by decide +kernel
theorem dX10_readBehind_228 : decode cX10_readBehind 228 = .ok (.invokevirtual 182, 3) := by decide +kernel
theorem dX10_readBehind_231 : decode cX10_readBehind 231 = .ok (.ifCond .eq 7, 3) := by decide +kernel
theorem dX10_readBehind_234 : decode cX10_readBehind 234 = .ok (.iconst 1, 1) := by decide +kernel
theorem dX10_readBehind_235 : decode cX10_readBehind 235 = .ok (.goto 4, 3) := by decide +kernel
theorem dX10_readBehind_238 : decode cX10_readBehind 238 = .ok (.iconst 0, 1) := by decide +kernel
theorem dX10_readBehind_239 : decode cX10_readBehind 239 = .ok (.iadd, 1) := by decide +kernel
theorem dX10_readBehind_240 : decode cX10_readBehind 240 = .ok (.aload_n 0, 1) := by decide +kernel
theorem dX10_readBehind_241 : decode cX10_readBehind 241 = .ok (.getfield 29, 3) := by decide +kernel
theorem dX10_readBehind_244 : decode cX10_readBehind 244 = .ok (.aload_n 0, 1) := by decide +kernel
theorem dX10_readBehind_245 : decode cX10_readBehind 245 = .ok (.getfield 163, 3) := by decide +kernel
theorem dX10_readBehind_248 : decode cX10_readBehind 248 = .ok (.iaload, 1) := by decide +kernel
theorem dX10_readBehind_249 : decode cX10_readBehind 249 = .ok (.if_icmp .lt 7, 3) := by decide +kernel
theorem dX10_readBehind_252 : decode cX10_readBehind 252 = .ok (.iconst 1, 1) := by decide +kernel
theorem dX10_readBehind_253 : decode cX10_readBehind 253 = .ok (.goto 4, 3) := by decide +kernel
theorem dX10_readBehind_256 : decode cX10_readBehind 256 = .ok (.iconst 0, 1) := by decide +kernel
theorem dX10_readBehind_257 : decode cX10_readBehind 257 = .ok (.istore_n 3, 1) := by decide +kernel
theorem dX10_readBehind_258 : decode cX10_readBehind 258 = .ok (.aload_n 0, 1) := by decide +kernel
theorem dX10_readBehind_259 : decode cX10_readBehind 259 = .ok (.dup, 1) := by decide +kernel
theorem dX10_readBehind_260 : decode cX10_readBehind 260 = .ok (.getfield 163, 3) := by decide +kernel
theorem dX10_readBehind_263 : decode cX10_readBehind 263 = .ok (.iconst 1, 1) := by decide +kernel
theorem dX10_readBehind_264 : decode cX10_readBehind 264 = .ok (.isub, 1) := by decide +kernel
theorem dX10_readBehind_265 : decode cX10_readBehind 265 = .ok (.putfield 163, 3) := by decide +kernel
theorem dX10_readBehind_268 : decode cX10_readBehind 268 = .ok (.aload_n 0, 1) := by decide +kernel
theorem dX10_readBehind_269 : decode cX10_readBehind 269 = .ok (.iload_n 3, 1) := by decide +kernel
theorem dX10_readBehind_270 : decode cX10_readBehind 270 = .ok (.invokevirtual 168, 3) := by decide +kernel
theorem dX10_readBehind_273 : decode cX10_readBehind 273 = .ok (.iconst 0, 1) := by decide +kernel
theorem dX10_readBehind_274 : decode cX10_readBehind 274 = .ok (.ireturn, 1) := by decide +kernel
theorem dX10_readCondition_0 : decode cX10_readCondition 0 = .ok (.aload_n 0, 1) := by decide +kernel
theorem dX10_readCondition_1 : decode cX10_readCondition 1 = .ok (.iconst (-1), 1) := by decide +kernel
theorem dX10_readCondition_2 : decode cX10_readCondition 2 = .ok (.putfield 163, 3) := by decide +kernel
theorem dX10_readCondition_5 : decode cX10_readCondition 5 = .ok (.aload_n 0, 1) := by decide +kernel
theorem dX10_readCondition_6 : decode cX10_readCondition 6 = .ok (.iconst 0, 1) := by decide +kernel
theorem dX10_readCondition_7 : decode cX10_readCondition 7 = .ok (.iconst 0, 1) := by decide +kernel
theorem dX10_readCondition_8 : decode cX10_readCondition 8 = .ok (.invokevirtual 171, 3) := by decide +kernel
theorem dX10_readCondition_11 : decode cX10_readCondition 11 = .ok (.iconst 1, 1) := by decide +kernel
theorem dX10_readCondition_12 : decode cX10_readCondition 12 = .ok (.istore_n 3, 1) := by decide +kernel
theorem dX10_readCondition_13 : decode cX10_readCondition 13 = .ok (.aload_n 0, 1) := by decide +kernel
theorem dX10_readCondition_14 : decode cX10_readCondition 14 = .ok (.getfield 153, 3) := by decide +kernel
theorem dX10_readCondition_17 : decode cX10_readCondition 17 = .ok (.ifCond .eq 63, 3) := by decide +kernel
theorem dX10_readCondition_20 : decode cX10_readCondition 20 = .ok (.iload_n 3, 1) := by decide +kernel
theorem dX10_readCondition_21 : decode cX10_readCondition 21 = .ok (.ifCond .ne 30, 3) := by decide +kernel
theorem dX10_readCondition_24 : decode cX10_readCondition 24 = .ok (.aload_n 0, 1) := by decide +kernel
theorem dX10_readCondition_25 : decode cX10_readCondition 25 = .ok (.getfield 163, 3) := by decide +kernel
theorem dX10_readCondition_28 : decode cX10_readCondition 28 = .ok (.ifCond .gt 23, 3) := by decide +kernel
theorem dX10_readCondition_31 : decode cX10_readCondition 31 = .ok (.aload_n 0, 1) := by decide +kernel
theorem dX10_readCondition_32 : decode cX10_readCondition 32 = .ok (.getfield 150, 3) := by decide +kernel
theorem dX10_readCondition_35 : decode cX10_readCondition 35 = .ok (.aload_n 0, 1) := by decide +kernel
theorem dX10_readCondition_36 : decode cX10_readCondition 36 = .ok (.getfield 143, 3) := by decide +kernel
theorem dX10_readCondition_39 : decode cX10_readCondition 39 = .ok (.if_icmp .ge 41, 3) := by decide +kernel
theorem dX10_readCondition_42 : decode cX10_readCondition 42 = .ok (.aload_n 0, 1) := by decide +kernel
theorem dX10_readCondition_43 : decode cX10_readCondition 43 = .ok (.bipush 47, 2) := by decide +kernel
theorem dX10_readCondition_45 : decode cX10_readCondition 45 = .ok (.invokevirtual 179, 3) := by decide +kernel
theorem dX10_readCondition_48 : decode cX10_readCondition 48 = .ok (.ifCond .ne 32, 3) := by decide +kernel
theorem dX10_readCondition_51 : decode cX10_readCondition 51 = .ok (.iload_n 3, 1) := by decide +kernel
theorem dX10_readCondition_52 : decode cX10_readCondition 52 = .ok (.ifCond .eq 20, 3) := by decide +kernel
theorem dX10_readCondition_55 : decode cX10_readCondition 55 = .ok (.aload_n 0, 1) := by decide +kernel
theorem dX10_readCondition_56 : decode cX10_readCondition 56 = .ok (.iload_n 1, 1) := by decide +kernel
theorem dX10_readCondition_57 : decode cX10_readCondition 57 = .ok (.iload_n 2, 1) := by decide +kernel
theorem dX10_readCondition_58 : decode cX10_readCondition 58 = .ok (.invokevirtual 186, 3) := by decide +kernel
theorem dX10_readCondition_61 : decode cX10_readCondition 61 = .ok (.ifCond .ne 7, 3) := by decide +kernel
theorem dX10_readCondition_64 : decode cX10_readCondition 64 = .ok (.iconst 1, 1) := by decide +kernel
theorem dX10_readCondition_65 : decode cX10_readCondition 65 = .ok (.goto 11, 3) := by decide +kernel
theorem dX10_readCondition_68 : decode cX10_readCondition 68 = .ok (.iconst 0, 1) := by decide +kernel
theorem dX10_readCondition_69 : decode cX10_readCondition 69 = .ok (.goto 7, 3) := by decide +kernel
theorem dX10_readCondition_72 : decode cX10_readCondition 72 = .ok (.aload_n 0, 1) := by decide +kernel
theorem dX10_readCondition_73 : decode cX10_readCondition 73 = .ok (.invokevirtual 189, 3) := by decide +kernel
theorem dX10_readCondition_76 : decode cX10_readCondition 76 = .ok (.istore_n 3, 1) := by decide +kernel
theorem dX10_readCondition_77 : decode cX10_readCondition 77 = .ok (.goto (-64), 3) := by decide +kernel
theorem dX10_readCondition_80 : decode cX10_readCondition 80 = .ok (.aload_n 0, 1) := by decide +kernel
theorem dX10_readCondition_81 : decode cX10_readCondition 81 = .ok (.getfield 153, 3) := by decide +kernel
theorem dX10_readCondition_84 : decode cX10_readCondition 84 = .ok (.ifCond .eq 14, 3) := by decide +kernel
theorem dX10_readCondition_87 : decode cX10_readCondition 87 = .ok (.aload_n 0, 1) := by decide +kernel
theorem dX10_readCondition_88 : decode cX10_readCondition 88 = .ok (.invokevirtual 182, 3) := by decide +kernel
theorem dX10_readCondition_91 : decode cX10_readCondition 91 = .ok (.ifCond .eq 7, 3) := by decide +kernel
theorem dX10_readCondition_94 : decode cX10_readCondition 94 = .ok (.iconst 1, 1) := by decide +kernel
theorem dX10_readCondition_95 : decode cX10_readCondition 95 = .ok (.goto 4, 3) := by decide +kernel
theorem dX10_readCondition_98 : decode cX10_readCondition 98 = .ok (.iconst 0, 1) := by decide +kernel
theorem dX10_readCondition_99 : decode cX10_readCondition 99 = .ok (.ireturn, 1) := by decide +kernel
theorem dX10_readPlace_0 : decode cX10_readPlace 0 = .ok (.aload_n 0, 1) := by decide +kernel
theorem dX10_readPlace_1 : decode cX10_readPlace 1 = .ok (.getfield 13, 3) := by decide +kernel
theorem dX10_readPlace_4 : decode cX10_readPlace 4 = .ok (.iconst 0, 1) := by decide +kernel
theorem dX10_readPlace_5 : decode cX10_readPlace 5 = .ok (.iaload, 1) := by decide +kernel
theorem dX10_readPlace_6 : decode cX10_readPlace 6 = .ok (.istore_n 2, 1) := by decide +kernel
theorem dX10_readPlace_7 : decode cX10_readPlace 7 = .ok (.aload_n 0, 1) := by decide +kernel
theorem dX10_readPlace_8 : decode cX10_readPlace 8 = .ok (.aload_n 0, 1) := by decide +kernel
theorem dX10_readPlace_9 : decode cX10_readPlace 9 = .ok (.bipush 47, 2) := by decide +kernel
theorem dX10_readPlace_11 : decode cX10_readPlace 11 = .ok (.invokevirtual 179, 3) := by decide +kernel
theorem dX10_readPlace_14 : decode cX10_readPlace 14 = .ok (.ifCond .eq 13, 3) := by decide +kernel
theorem dX10_readPlace_17 : decode cX10_readPlace 17 = .ok (.iload_n 2, 1) := by decide +kernel
theorem dX10_readPlace_18 : decode cX10_readPlace 18 = .ok (.bipush 10, 2) := by decide +kernel
theorem dX10_readPlace_20 : decode cX10_readPlace 20 = .ok (.if_icmp .ge 7, 3) := by decide +kernel
theorem dX10_readPlace_23 : decode cX10_readPlace 23 = .ok (.iconst 1, 1) := by decide +kernel
theorem dX10_readPlace_24 : decode cX10_readPlace 24 = .ok (.goto 4, 3) := by decide +kernel
theorem dX10_readPlace_27 : decode cX10_readPlace 27 = .ok (.iconst 0, 1) := by decide +kernel
theorem dX10_readPlace_28 : decode cX10_readPlace 28 = .ok (.invokevirtual 159, 3) := by decide +kernel
theorem dX10_readPlace_31 : decode cX10_readPlace 31 = .ok (.aload_n 0, 1) := by decide +kernel
theorem dX10_readPlace_32 : decode cX10_readPlace 32 = .ok (.invokevirtual 192, 3) := by decide +kernel
theorem dX10_readPlace_35 : decode cX10_readPlace 35 = .ok (.istore_n 3, 1) := by decide +kernel
theorem dX10_readPlace_36 : decode cX10_readPlace 36 = .ok (.aload_n 0, 1) := by decide +kernel
theorem dX10_readPlace_37 : decode cX10_readPlace 37 = .ok (.invokevirtual 192, 3) := by decide +kernel
theorem dX10_readPlace_40 : decode cX10_readPlace 40 = .ok (.istore 4, 2) := by decide +kernel
theorem dX10_readPlace_42 : decode cX10_readPlace 42 = .ok (.aload_n 0, 1) := by decide +kernel
theorem dX10_readPlace_43 : decode cX10_readPlace 43 = .ok (.getfield 150, 3) := by decide +kernel
theorem dX10_readPlace_46 : decode cX10_readPlace 46 = .ok (.istore 5, 2) := by decide +kernel
theorem dX10_readPlace_48 : decode cX10_readPlace 48 = .ok (.aload_n 0, 1) := by decide +kernel
theorem dX10_readPlace_49 : decode cX10_readPlace 49 = .ok (.iconst 0, 1) := by decide +kernel
theorem dX10_readPlace_50 : decode cX10_readPlace 50 = .ok (.iload_n 2, 1) := by decide +kernel
theorem dX10_readPlace_51 : decode cX10_readPlace 51 = .ok (.invokevirtual 196, 3) := by decide +kernel
theorem dX10_readPlace_54 : decode cX10_readPlace 54 = .ok (.pop, 1) := by decide +kernel
theorem dX10_readPlace_55 : decode cX10_readPlace 55 = .ok (.aload_n 0, 1) := by decide +kernel
theorem dX10_readPlace_56 : decode cX10_readPlace 56 = .ok (.getfield 153, 3) := by decide +kernel
theorem dX10_readPlace_59 : decode cX10_readPlace 59 = .ok (.ifCond .eq 7, 3) := by decide +kernel
theorem dX10_readPlace_62 : decode cX10_readPlace 62 = .ok (.iload_n 1, 1) := by decide +kernel
theorem dX10_readPlace_63 : decode cX10_readPlace 63 = .ok (.ifCond .ne 25, 3) := by decide +kernel
theorem dX10_readPlace_66 : decode cX10_readPlace 66 = .ok (.aload_n 0, 1) := by decide +kernel
theorem dX10_readPlace_67 : decode cX10_readPlace 67 = .ok (.getfield 13, 3) := by decide +kernel
theorem dX10_readPlace_70 : decode cX10_readPlace 70 = .ok (.iconst 0, 1) := by decide +kernel
theorem dX10_readPlace_71 : decode cX10_readPlace 71 = .ok (.dup2, 1) := by decide +kernel
theorem dX10_readPlace_72 : decode cX10_readPlace 72 = .ok (.iaload, 1) := by decide +kernel
theorem dX10_readPlace_73 : decode cX10_readPlace 73 = .ok (.aload_n 0, 1) := by decide +kernel
theorem dX10_readPlace_74 : decode cX10_readPlace 74 = .ok (.getfield 153, 3) := by decide +kernel
theorem dX10_readPlace_77 : decode cX10_readPlace 77 = .ok (.ifCond .eq 7, 3) := by decide +kernel
theorem dX10_readPlace_80 : decode cX10_readPlace 80 = .ok (.iconst 1, 1) := by decide +kernel
theorem dX10_readPlace_81 : decode cX10_readPlace 81 = .ok (.goto 4, 3) := by decide +kernel
theorem dX10_readPlace_84 : decode cX10_readPlace 84 = .ok (.iconst 0, 1) := by decide +kernel
theorem dX10_readPlace_85 : decode cX10_readPlace 85 = .ok (.iadd, 1) := by decide +kernel
theorem dX10_readPlace_86 : decode cX10_readPlace 86 = .ok (.iastore, 1) := by decide +kernel
theorem dX10_readPlace_87 : decode cX10_readPlace 87 = .ok (.return_, 1) := by decide +kernel
theorem dX10_readPlace_88 : decode cX10_readPlace 88 = .ok (.aload_n 0, 1) := by decide +kernel
theorem dX10_readPlace_89 : decode cX10_readPlace 89 = .ok (.getfield 13, 3) := by decide +kernel
theorem dX10_readPlace_92 : decode cX10_readPlace 92 = .ok (.iconst 2, 1) := by decide +kernel
theorem dX10_readPlace_93 : decode cX10_readPlace 93 = .ok (.iconst 2, 1) := by decide +kernel
theorem dX10_readPlace_94 : decode cX10_readPlace 94 = .ok (.iload_n 2, 1) := by decide +kernel
theorem dX10_readPlace_95 : decode cX10_readPlace 95 = .ok (.imul, 1) := by decide +kernel
theorem dX10_readPlace_96 : decode cX10_readPlace 96 = .ok (.iadd, 1) := by decide +kernel
theorem dX10_readPlace_97 : decode cX10_readPlace 97 = .ok (.iload_n 3, 1) := by decide +kernel
theorem dX10_readPlace_98 : decode cX10_readPlace 98 = .ok (.iastore, 1) := by decide +kernel
theorem dX10_readPlace_99 : decode cX10_readPlace 99 = .ok (.aload_n 0, 1) := by decide +kernel
theorem dX10_readPlace_100 : decode cX10_readPlace 100 = .ok (.getfield 13, 3) := by decide +kernel
theorem dX10_readPlace_103 : decode cX10_readPlace 103 = .ok (.iconst 2, 1) := by decide +kernel
theorem dX10_readPlace_104 : decode cX10_readPlace 104 = .ok (.iconst 2, 1) := by decide +kernel
theorem dX10_readPlace_105 : decode cX10_readPlace 105 = .ok (.iload_n 2, 1) := by decide +kernel
theorem dX10_readPlace_106 : decode cX10_readPlace 106 = .ok (.imul, 1) := by decide +kernel
theorem dX10_readPlace_107 : decode cX10_readPlace 107 = .ok (.iadd, 1) := by decide +kernel
theorem dX10_readPlace_108 : decode cX10_readPlace 108 = .ok (.iconst 1, 1) := by decide +kernel
theorem dX10_readPlace_109 : decode cX10_readPlace 109 = .ok (.iadd, 1) := by decide +kernel
theorem dX10_readPlace_110 : decode cX10_readPlace 110 = .ok (.iload 4, 2) := by decide +kernel
theorem dX10_readPlace_112 : decode cX10_readPlace 112 = .ok (.iastore, 1) := by decide +kernel
theorem dX10_readPlace_113 : decode cX10_readPlace 113 = .ok (.iconst 0, 1) := by decide +kernel
theorem dX10_readPlace_114 : decode cX10_readPlace 114 = .ok (.istore 6, 2) := by decide +kernel
theorem dX10_readPlace_116 : decode cX10_readPlace 116 = .ok (.iload 6, 2) := by decide +kernel
theorem dX10_readPlace_118 : decode cX10_readPlace 118 = .ok (.sipush 1024, 3) := by decide +kernel
theorem dX10_readPlace_121 : decode cX10_readPlace 121 = .ok (.if_icmp .ge 32, 3) := by decide +kernel
theorem dX10_readPlace_124 : decode cX10_readPlace 124 = .ok (.aload_n 0, 1) := by decide +kernel
theorem dX10_readPlace_125 : decode cX10_readPlace 125 = .ok (.iload 5, 2) := by decide +kernel
theorem dX10_readPlace_127 : decode cX10_readPlace 127 = .ok (.putfield 150, 3) := by decide +kernel
theorem dX10_readPlace_130 : decode cX10_readPlace 130 = .ok (.aload_n 0, 1) := by decide +kernel
theorem dX10_readPlace_131 : decode cX10_readPlace 131 = .ok (.getfield 13, 3) := by decide +kernel
theorem dX10_readPlace_134 : decode cX10_readPlace 134 = .ok (.iload_n 2, 1) := by decide +kernel
theorem dX10_readPlace_135 : decode cX10_readPlace 135 = .ok (.iload 6, 2) := by decide +kernel
theorem dX10_readPlace_137 : decode cX10_readPlace 137 = .ok (.aload_n 0, 1) := by decide +kernel
theorem dX10_readPlace_138 : decode cX10_readPlace 138 = .ok (.iload 6, 2) := by decide +kernel
theorem dX10_readPlace_140 : decode cX10_readPlace 140 = .ok (.iload_n 2, 1) := by decide +kernel
theorem dX10_readPlace_141 : decode cX10_readPlace 141 = .ok (.invokevirtual 196, 3) := by decide +kernel
theorem dX10_readPlace_144 : decode cX10_readPlace 144 = .ok (.invokestatic 69, 3) := by decide +kernel
theorem dX10_readPlace_147 : decode cX10_readPlace 147 = .ok (.iinc 6 1, 3) := by decide +kernel
theorem dX10_readPlace_150 : decode cX10_readPlace 150 = .ok (.goto (-34), 3) := by decide +kernel
theorem dX10_readPlace_153 : decode cX10_readPlace 153 = .ok (.aload_n 0, 1) := by decide +kernel
theorem dX10_readPlace_154 : decode cX10_readPlace 154 = .ok (.getfield 13, 3) := by decide +kernel
theorem dX10_readPlace_157 : decode cX10_readPlace 157 = .ok (.iconst 0, 1) := by decide +kernel
theorem dX10_readPlace_158 : decode cX10_readPlace 158 = .ok (.dup2, 1) := by decide +kernel
theorem dX10_readPlace_159 : decode cX10_readPlace 159 = .ok (.iaload, 1) := by decide +kernel
theorem dX10_readPlace_160 : decode cX10_readPlace 160 = .ok (.iconst 1, 1) := by decide +kernel
theorem dX10_readPlace_161 : decode cX10_readPlace 161 = .ok (.iadd, 1) := by decide +kernel
theorem dX10_readPlace_162 : decode cX10_readPlace 162 = .ok (.iastore, 1) := by decide +kernel
theorem dX10_readPlace_163 : decode cX10_readPlace 163 = .ok (.return_, 1) := by decide +kernel
theorem dX10_readText_0 : decode cX10_readText 0 = .ok (.aload_n 0, 1) := by decide +kernel
theorem dX10_readText_1 : decode cX10_readText 1 = .ok (.iconst 0, 1) := by decide +kernel
theorem dX10_readText_2 : decode cX10_readText 2 = .ok (.putfield 150, 3) := by decide +kernel
theorem dX10_readText_5 : decode cX10_readText 5 = .ok (.aload_n 0, 1) := by decide +kernel
theorem dX10_readText_6 : decode cX10_readText 6 = .ok (.iconst 1, 1) := by decide +kernel
theorem dX10_readText_7 : decode cX10_readText 7 = .ok (.putfield 153, 3) := by decide +kernel
theorem dX10_readText_10 : decode cX10_readText 10 = .ok (.iconst 0, 1) := by decide +kernel
theorem dX10_readText_11 : decode cX10_readText 11 = .ok (.istore_n 2, 1) := by decide +kernel
theorem dX10_readText_12 : decode cX10_readText 12 = .ok (.iload_n 2, 1) := by decide +kernel
theorem dX10_readText_13 : decode cX10_readText 13 = .ok (.sipush 394, 3) := by decide +kernel
theorem dX10_readText_16 : decode cX10_readText 16 = .ok (.if_icmp .ge 16, 3) := by decide +kernel
theorem dX10_readText_19 : decode cX10_readText 19 = .ok (.aload_n 0, 1) := by decide +kernel
theorem dX10_readText_20 : decode cX10_readText 20 = .ok (.getfield 13, 3) := by decide +kernel
theorem dX10_readText_23 : decode cX10_readText 23 = .ok (.iload_n 2, 1) := by decide +kernel
theorem dX10_readText_24 : decode cX10_readText 24 = .ok (.iconst 0, 1) := by decide +kernel
theorem dX10_readText_25 : decode cX10_readText 25 = .ok (.iastore, 1) := by decide +kernel
theorem dX10_readText_26 : decode cX10_readText 26 = .ok (.iinc 2 1, 3) := by decide +kernel
theorem dX10_readText_29 : decode cX10_readText 29 = .ok (.goto (-17), 3) := by decide +kernel
theorem dX10_readText_32 : decode cX10_readText 32 = .ok (.aload_n 0, 1) := by decide +kernel
theorem dX10_readText_33 : decode cX10_readText 33 = .ok (.aload_n 0, 1) := by decide +kernel
theorem dX10_readText_34 : decode cX10_readText 34 = .ok (.bipush 72, 2) := by decide +kernel
theorem dX10_readText_36 : decode cX10_readText 36 = .ok (.invokevirtual 179, 3) := by decide +kernel
theorem dX10_readText_39 : decode cX10_readText 39 = .ok (.invokevirtual 159, 3) := by decide +kernel
theorem dX10_readText_42 : decode cX10_readText 42 = .ok (.aload_n 0, 1) := by decide +kernel
theorem dX10_readText_43 : decode cX10_readText 43 = .ok (.getfield 153, 3) := by decide +kernel
theorem dX10_readText_46 : decode cX10_readText 46 = .ok (.ifCond .eq 32, 3) := by decide +kernel
theorem dX10_readText_49 : decode cX10_readText 49 = .ok (.aload_n 0, 1) := by decide +kernel
theorem dX10_readText_50 : decode cX10_readText 50 = .ok (.getfield 13, 3) := by decide +kernel
theorem dX10_readText_53 : decode cX10_readText 53 = .ok (.iconst 0, 1) := by decide +kernel
theorem dX10_readText_54 : decode cX10_readText 54 = .ok (.iaload, 1) := by decide +kernel
theorem dX10_readText_55 : decode cX10_readText 55 = .ok (.iconst 2, 1) := by decide +kernel
theorem dX10_readText_56 : decode cX10_readText 56 = .ok (.if_icmp .lt 14, 3) := by decide +kernel
theorem dX10_readText_59 : decode cX10_readText 59 = .ok (.aload_n 0, 1) := by decide +kernel
theorem dX10_readText_60 : decode cX10_readText 60 = .ok (.getfield 150, 3) := by decide +kernel
theorem dX10_readText_63 : decode cX10_readText 63 = .ok (.aload_n 0, 1) := by decide +kernel
theorem dX10_readText_64 : decode cX10_readText 64 = .ok (.getfield 143, 3) := by decide +kernel
theorem dX10_readText_67 : decode cX10_readText 67 = .ok (.if_icmp .ge 11, 3) := by decide +kernel
theorem dX10_readText_70 : decode cX10_readText 70 = .ok (.aload_n 0, 1) := by decide +kernel
theorem dX10_readText_71 : decode cX10_readText 71 = .ok (.iload_n 1, 1) := by decide +kernel
theorem dX10_readText_72 : decode cX10_readText 72 = .ok (.invokevirtual 199, 3) := by decide +kernel
theorem dX10_readText_75 : decode cX10_readText 75 = .ok (.goto (-33), 3) := by decide +kernel
theorem dX10_readText_78 : decode cX10_readText 78 = .ok (.aload_n 0, 1) := by decide +kernel
theorem dX10_readText_79 : decode cX10_readText 79 = .ok (.getfield 153, 3) := by decide +kernel
theorem dX10_readText_82 : decode cX10_readText 82 = .ok (.ifCond .eq 8, 3) := by decide +kernel
theorem dX10_readText_85 : decode cX10_readText 85 = .ok (.bipush (-9), 2) := by decide +kernel
theorem dX10_readText_87 : decode cX10_readText 87 = .ok (.goto 7, 3) := by decide +kernel
theorem dX10_readText_90 : decode cX10_readText 90 = .ok (.aload_n 0, 1) := by decide +kernel
theorem dX10_readText_91 : decode cX10_readText 91 = .ok (.getfield 150, 3) := by decide +kernel
theorem dX10_readText_94 : decode cX10_readText 94 = .ok (.ireturn, 1) := by decide +kernel
theorem dX10_errorPosition_0 : decode cX10_errorPosition 0 = .ok (.aload_n 0, 1) := by decide +kernel
theorem dX10_errorPosition_1 : decode cX10_errorPosition 1 = .ok (.iconst 0, 1) := by decide +kernel
theorem dX10_errorPosition_2 : decode cX10_errorPosition 2 = .ok (.putfield 73, 3) := by decide +kernel
theorem dX10_errorPosition_5 : decode cX10_errorPosition 5 = .ok (.aload_n 0, 1) := by decide +kernel
theorem dX10_errorPosition_6 : decode cX10_errorPosition 6 = .ok (.iconst 0, 1) := by decide +kernel
theorem dX10_errorPosition_7 : decode cX10_errorPosition 7 = .ok (.invokevirtual 202, 3) := by decide +kernel
theorem dX10_errorPosition_10 : decode cX10_errorPosition 10 = .ok (.ireturn, 1) := by decide +kernel
theorem dX10_load_0 : decode cX10_load 0 = .ok (.aload_n 0, 1) := by decide +kernel
theorem dX10_load_1 : decode cX10_load 1 = .ok (.aload_n 0, 1) := by decide +kernel
theorem dX10_load_2 : decode cX10_load 2 = .ok (.iconst 1, 1) := by decide +kernel
theorem dX10_load_3 : decode cX10_load 3 = .ok (.invokevirtual 202, 3) := by decide +kernel
theorem dX10_load_6 : decode cX10_load 6 = .ok (.bipush (-9), 2) := by decide +kernel
theorem dX10_load_8 : decode cX10_load 8 = .ok (.if_icmp .ne 7, 3) := by decide +kernel
theorem dX10_load_11 : decode cX10_load 11 = .ok (.iconst 0, 1) := by decide +kernel
theorem dX10_load_12 : decode cX10_load 12 = .ok (.goto 4, 3) := by decide +kernel
theorem dX10_load_15 : decode cX10_load 15 = .ok (.iconst 1, 1) := by decide +kernel
theorem dX10_load_16 : decode cX10_load 16 = .ok (.invokevirtual 146, 3) := by decide +kernel
theorem dX10_load_19 : decode cX10_load 19 = .ok (.ifCond .eq 5, 3) := by decide +kernel
theorem dX10_load_22 : decode cX10_load 22 = .ok (.iconst 0, 1) := by decide +kernel
theorem dX10_load_23 : decode cX10_load 23 = .ok (.ireturn, 1) := by decide +kernel
theorem dX10_load_24 : decode cX10_load 24 = .ok (.aload_n 0, 1) := by decide +kernel
theorem dX10_load_25 : decode cX10_load 25 = .ok (.getfield 13, 3) := by decide +kernel
theorem dX10_load_28 : decode cX10_load 28 = .ok (.iconst 0, 1) := by decide +kernel
theorem dX10_load_29 : decode cX10_load 29 = .ok (.aload_n 0, 1) := by decide +kernel
theorem dX10_load_30 : decode cX10_load 30 = .ok (.getfield 35, 3) := by decide +kernel
theorem dX10_load_33 : decode cX10_load 33 = .ok (.iconst 0, 1) := by decide +kernel
theorem dX10_load_34 : decode cX10_load 34 = .ok (.sipush 394, 3) := by decide +kernel
theorem dX10_load_37 : decode cX10_load 37 = .ok (.invokestatic 82, 3) := by decide +kernel
theorem dX10_load_40 : decode cX10_load 40 = .ok (.aload_n 0, 1) := by decide +kernel
theorem dX10_load_41 : decode cX10_load 41 = .ok (.iconst 0, 1) := by decide +kernel
theorem dX10_load_42 : decode cX10_load 42 = .ok (.putfield 79, 3) := by decide +kernel
theorem dX10_load_45 : decode cX10_load 45 = .ok (.aload_n 0, 1) := by decide +kernel
theorem dX10_load_46 : decode cX10_load 46 = .ok (.getfield 47, 3) := by decide +kernel
theorem dX10_load_49 : decode cX10_load 49 = .ok (.iconst 0, 1) := by decide +kernel
theorem dX10_load_50 : decode cX10_load 50 = .ok (.iconst 0, 1) := by decide +kernel
theorem dX10_load_51 : decode cX10_load 51 = .ok (.bastore, 1) := by decide +kernel
theorem dX10_load_52 : decode cX10_load 52 = .ok (.aload_n 0, 1) := by decide +kernel
theorem dX10_load_53 : decode cX10_load 53 = .ok (.getfield 47, 3) := by decide +kernel
theorem dX10_load_56 : decode cX10_load 56 = .ok (.iconst 1, 1) := by decide +kernel
theorem dX10_load_57 : decode cX10_load 57 = .ok (.iconst 0, 1) := by decide +kernel
theorem dX10_load_58 : decode cX10_load 58 = .ok (.bastore, 1) := by decide +kernel
theorem dX10_load_59 : decode cX10_load 59 = .ok (.aload_n 0, 1) := by decide +kernel
theorem dX10_load_60 : decode cX10_load 60 = .ok (.getfield 35, 3) := by decide +kernel
theorem dX10_load_63 : decode cX10_load 63 = .ok (.iconst 0, 1) := by decide +kernel
theorem dX10_load_64 : decode cX10_load 64 = .ok (.iaload, 1) := by decide +kernel
theorem dX10_load_65 : decode cX10_load 65 = .ok (.ireturn, 1) := by decide +kernel
theorem dX10_allVisited_0 : decode cX10_allVisited 0 = .ok (.iconst 0, 1) := by decide +kernel
theorem dX10_allVisited_1 : decode cX10_allVisited 1 = .ok (.istore_n 1, 1) := by decide +kernel
theorem dX10_allVisited_2 : decode cX10_allVisited 2 = .ok (.iconst 0, 1) := by decide +kernel
theorem dX10_allVisited_3 : decode cX10_allVisited 3 = .ok (.istore_n 2, 1) := by decide +kernel
theorem dX10_allVisited_4 : decode cX10_allVisited 4 = .ok (.iload_n 2, 1) := by decide +kernel
theorem dX10_allVisited_5 : decode cX10_allVisited 5 = .ok (.aload_n 0, 1) := by decide +kernel
theorem dX10_allVisited_6 : decode cX10_allVisited 6 = .ok (.getfield 35, 3) := by decide +kernel
theorem dX10_allVisited_9 : decode cX10_allVisited 9 = .ok (.iconst 1, 1) := by decide +kernel
theorem dX10_allVisited_10 : decode cX10_allVisited 10 = .ok (.iaload, 1) := by decide +kernel
theorem dX10_allVisited_11 : decode cX10_allVisited 11 = .ok (.if_icmp .ge 20, 3) := by decide +kernel
theorem dX10_allVisited_14 : decode cX10_allVisited 14 = .ok (.iload_n 1, 1) := by decide +kernel
theorem dX10_allVisited_15 : decode cX10_allVisited 15 = .ok (.aload_n 0, 1) := by decide +kernel
theorem dX10_allVisited_16 : decode cX10_allVisited 16 = .ok (.getfield 35, 3) := by decide +kernel
theorem dX10_allVisited_19 : decode cX10_allVisited 19 = .ok (.iload_n 2, 1) := by decide +kernel
theorem dX10_allVisited_20 : decode cX10_allVisited 20 = .ok (.invokestatic 104, 3) := by decide +kernel
theorem dX10_allVisited_23 : decode cX10_allVisited 23 = .ok (.ior, 1) := by decide +kernel
theorem dX10_allVisited_24 : decode cX10_allVisited 24 = .ok (.istore_n 1, 1) := by decide +kernel
theorem dX10_allVisited_25 : decode cX10_allVisited 25 = .ok (.iinc 2 1, 3) := by decide +kernel
theorem dX10_allVisited_28 : decode cX10_allVisited 28 = .ok (.goto (-24), 3) := by decide +kernel
theorem dX10_allVisited_31 : decode cX10_allVisited 31 = .ok (.iload_n 1, 1) := by decide +kernel
theorem dX10_allVisited_32 : decode cX10_allVisited 32 = .ok (.ireturn, 1) := by decide +kernel
theorem dX10_about_0 : decode cX10_about 0 = .ok (.aload_n 0, 1) := by decide +kernel
theorem dX10_about_1 : decode cX10_about 1 = .ok (.iload_n 1, 1) := by decide +kernel
theorem dX10_about_2 : decode cX10_about 2 = .ok (.i2l, 1) := by decide +kernel
theorem dX10_about_3 : decode cX10_about 3 = .ok (.lconst 0, 1) := by decide +kernel
theorem dX10_about_4 : decode cX10_about 4 = .ok (.ldc2_w 206, 3) := by decide +kernel
theorem dX10_about_7 : decode cX10_about 7 = .ok (.invokestatic 139, 3) := by decide +kernel
theorem dX10_about_10 : decode cX10_about 10 = .ok (.ifCond .eq 7, 3) := by decide +kernel
theorem dX10_about_13 : decode cX10_about 13 = .ok (.iconst 0, 1) := by decide +kernel
theorem dX10_about_14 : decode cX10_about 14 = .ok (.goto 4, 3) := by decide +kernel
theorem dX10_about_17 : decode cX10_about 17 = .ok (.iconst 1, 1) := by decide +kernel
theorem dX10_about_18 : decode cX10_about 18 = .ok (.invokevirtual 146, 3) := by decide +kernel
theorem dX10_about_21 : decode cX10_about 21 = .ok (.ifCond .eq 5, 3) := by decide +kernel
theorem dX10_about_24 : decode cX10_about 24 = .ok (.iconst 0, 1) := by decide +kernel
theorem dX10_about_25 : decode cX10_about 25 = .ok (.ireturn, 1) := by decide +kernel
theorem dX10_about_26 : decode cX10_about 26 = .ok (.iconst 0, 1) := by decide +kernel
theorem dX10_about_27 : decode cX10_about 27 = .ok (.istore_n 2, 1) := by decide +kernel
theorem dX10_about_28 : decode cX10_about 28 = .ok (.iconst 0, 1) := by decide +kernel
theorem dX10_about_29 : decode cX10_about 29 = .ok (.istore_n 3, 1) := by decide +kernel
theorem dX10_about_30 : decode cX10_about 30 = .ok (.iconst 0, 1) := by decide +kernel
theorem dX10_about_31 : decode cX10_about 31 = .ok (.istore 4, 2) := by decide +kernel
theorem dX10_about_33 : decode cX10_about 33 = .ok (.iconst 0, 1) := by decide +kernel
theorem dX10_about_34 : decode cX10_about 34 = .ok (.istore 5, 2) := by decide +kernel
theorem dX10_about_36 : decode cX10_about 36 = .ok (.iload 5, 2) := by decide +kernel
theorem dX10_about_38 : decode cX10_about 38 = .ok (.aload_n 0, 1) := by decide +kernel
theorem dX10_about_39 : decode cX10_about 39 = .ok (.getfield 35, 3) := by decide +kernel
theorem dX10_about_42 : decode cX10_about 42 = .ok (.iconst 1, 1) := by decide +kernel
theorem dX10_about_43 : decode cX10_about 43 = .ok (.iaload, 1) := by decide +kernel
theorem dX10_about_44 : decode cX10_about 44 = .ok (.if_icmp .ge 72, 3) := by decide +kernel
theorem dX10_about_47 : decode cX10_about 47 = .ok (.iload_n 2, 1) := by decide +kernel
theorem dX10_about_48 : decode cX10_about 48 = .ok (.aload_n 0, 1) := by decide +kernel
theorem dX10_about_49 : decode cX10_about 49 = .ok (.getfield 35, 3) := by decide +kernel
theorem dX10_about_52 : decode cX10_about 52 = .ok (.iload 5, 2) := by decide +kernel
theorem dX10_about_54 : decode cX10_about 54 = .ok (.invokestatic 108, 3) := by decide +kernel
theorem dX10_about_57 : decode cX10_about 57 = .ok (.ifCond .eq 7, 3) := by decide +kernel
theorem dX10_about_60 : decode cX10_about 60 = .ok (.iconst 1, 1) := by decide +kernel
theorem dX10_about_61 : decode cX10_about 61 = .ok (.goto 4, 3) := by decide +kernel
theorem dX10_about_64 : decode cX10_about 64 = .ok (.iconst 0, 1) := by decide +kernel
theorem dX10_about_65 : decode cX10_about 65 = .ok (.iadd, 1) := by decide +kernel
theorem dX10_about_66 : decode cX10_about 66 = .ok (.istore_n 2, 1) := by decide +kernel
theorem dX10_about_67 : decode cX10_about 67 = .ok (.aload_n 0, 1) := by decide +kernel
theorem dX10_about_68 : decode cX10_about 68 = .ok (.getfield 35, 3) := by decide +kernel
theorem dX10_about_71 : decode cX10_about 71 = .ok (.iload 5, 2) := by decide +kernel
theorem dX10_about_73 : decode cX10_about 73 = .ok (.invokestatic 208, 3) := by decide +kernel
theorem dX10_about_76 : decode cX10_about 76 = .ok (.iload_n 3, 1) := by decide +kernel
theorem dX10_about_77 : decode cX10_about 77 = .ok (.if_icmp .le 15, 3) := by decide +kernel
theorem dX10_about_80 : decode cX10_about 80 = .ok (.aload_n 0, 1) := by decide +kernel
theorem dX10_about_81 : decode cX10_about 81 = .ok (.getfield 35, 3) := by decide +kernel
theorem dX10_about_84 : decode cX10_about 84 = .ok (.iload 5, 2) := by decide +kernel
theorem dX10_about_86 : decode cX10_about 86 = .ok (.invokestatic 208, 3) := by decide +kernel
theorem dX10_about_89 : decode cX10_about 89 = .ok (.goto 4, 3) := by decide +kernel
theorem dX10_about_92 : decode cX10_about 92 = .ok (.iload_n 3, 1) := by decide +kernel
theorem dX10_about_93 : decode cX10_about 93 = .ok (.istore_n 3, 1) := by decide +kernel
theorem dX10_about_94 : decode cX10_about 94 = .ok (.iload 4, 2) := by decide +kernel
theorem dX10_about_96 : decode cX10_about 96 = .ok (.aload_n 0, 1) := by decide +kernel
theorem dX10_about_97 : decode cX10_about 97 = .ok (.getfield 35, 3) := by decide +kernel
theorem dX10_about_100 : decode cX10_about 100 = .ok (.iload 5, 2) := by decide +kernel
theorem dX10_about_102 : decode cX10_about 102 = .ok (.iconst 2, 1) := by decide +kernel
theorem dX10_about_103 : decode cX10_about 103 = .ok (.invokestatic 101, 3) := by decide +kernel
theorem dX10_about_106 : decode cX10_about 106 = .ok (.iaload, 1) := by decide +kernel
theorem dX10_about_107 : decode cX10_about 107 = .ok (.iadd, 1) := by decide +kernel
theorem dX10_about_108 : decode cX10_about 108 = .ok (.istore 4, 2) := by decide +kernel
theorem dX10_about_110 : decode cX10_about 110 = .ok (.iinc 5 1, 3) := by decide +kernel
theorem dX10_about_113 : decode cX10_about 113 = .ok (.goto (-77), 3) := by decide +kernel
theorem dX10_about_116 : decode cX10_about 116 = .ok (.iload_n 1, 1) := by decide +kernel
theorem dX10_about_117 : decode cX10_about 117 = .ok (.iconst 2, 1) := by decide +kernel
theorem dX10_about_118 : decode cX10_about 118 = .ok (.if_icmp .ge 12, 3) := by decide +kernel
theorem dX10_about_121 : decode cX10_about 121 = .ok (.aload_n 0, 1) := by decide +kernel
theorem dX10_about_122 : decode cX10_about 122 = .ok (.getfield 35, 3) := by decide +kernel
theorem dX10_about_125 : decode cX10_about 125 = .ok (.iload_n 1, 1) := by decide +kernel
theorem dX10_about_126 : decode cX10_about 126 = .ok (.iaload, 1) := by decide +kernel
theorem dX10_about_127 : decode cX10_about 127 = .ok (.goto 38, 3) := by decide +kernel
theorem dX10_about_130 : decode cX10_about 130 = .ok (.iload_n 1, 1) := by decide +kernel
theorem dX10_about_131 : decode cX10_about 131 = .ok (.iconst 2, 1) := by decide +kernel
theorem dX10_about_132 : decode cX10_about 132 = .ok (.if_icmp .ne 7, 3) := by decide +kernel
theorem dX10_about_135 : decode cX10_about 135 = .ok (.iload_n 2, 1) := by decide +kernel
theorem dX10_about_136 : decode cX10_about 136 = .ok (.goto 29, 3) := by decide +kernel
theorem dX10_about_139 : decode cX10_about 139 = .ok (.iload_n 1, 1) := by decide +kernel
theorem dX10_about_140 : decode cX10_about 140 = .ok (.iconst 3, 1) := by decide +kernel
theorem dX10_about_141 : decode cX10_about 141 = .ok (.if_icmp .ne 7, 3) := by decide +kernel
theorem dX10_about_144 : decode cX10_about 144 = .ok (.iload_n 3, 1) := by decide +kernel
theorem dX10_about_145 : decode cX10_about 145 = .ok (.goto 20, 3) := by decide +kernel
theorem dX10_about_148 : decode cX10_about 148 = .ok (.iload_n 1, 1) := by decide +kernel
theorem dX10_about_149 : decode cX10_about 149 = .ok (.iconst 4, 1) := by decide +kernel
theorem dX10_about_150 : decode cX10_about 150 = .ok (.if_icmp .ne 13, 3) := by decide +kernel
theorem dX10_about_153 : decode cX10_about 153 = .ok (.aload_n 0, 1) := by decide +kernel
theorem dX10_about_154 : decode cX10_about 154 = .ok (.invokevirtual 211, 3) := by decide +kernel
theorem dX10_about_157 : decode cX10_about 157 = .ok (.invokestatic 214, 3) := by decide +kernel
theorem dX10_about_160 : decode cX10_about 160 = .ok (.goto 5, 3) := by decide +kernel
theorem dX10_about_163 : decode cX10_about 163 = .ok (.iload 4, 2) := by decide +kernel
theorem dX10_about_165 : decode cX10_about 165 = .ok (.ireturn, 1) := by decide +kernel
theorem dX10_isPlace_0 : decode cX10_isPlace 0 = .ok (.iload_n 1, 1) := by decide +kernel
theorem dX10_isPlace_1 : decode cX10_isPlace 1 = .ok (.i2l, 1) := by decide +kernel
theorem dX10_isPlace_2 : decode cX10_isPlace 2 = .ok (.lconst 0, 1) := by decide +kernel
theorem dX10_isPlace_3 : decode cX10_isPlace 3 = .ok (.aload_n 0, 1) := by decide +kernel
theorem dX10_isPlace_4 : decode cX10_isPlace 4 = .ok (.getfield 35, 3) := by decide +kernel
theorem dX10_isPlace_7 : decode cX10_isPlace 7 = .ok (.iconst 0, 1) := by decide +kernel
theorem dX10_isPlace_8 : decode cX10_isPlace 8 = .ok (.iaload, 1) := by decide +kernel
theorem dX10_isPlace_9 : decode cX10_isPlace 9 = .ok (.iconst 1, 1) := by decide +kernel
theorem dX10_isPlace_10 : decode cX10_isPlace 10 = .ok (.isub, 1) := by decide +kernel
theorem dX10_isPlace_11 : decode cX10_isPlace 11 = .ok (.i2l, 1) := by decide +kernel
theorem dX10_isPlace_12 : decode cX10_isPlace 12 = .ok (.invokestatic 139, 3) := by decide +kernel
theorem dX10_isPlace_15 : decode cX10_isPlace 15 = .ok (.ireturn, 1) := by decide +kernel
theorem dX10_isTeam_0 : decode cX10_isTeam 0 = .ok (.iload_n 1, 1) := by decide +kernel
theorem dX10_isTeam_1 : decode cX10_isTeam 1 = .ok (.i2l, 1) := by decide +kernel
theorem dX10_isTeam_2 : decode cX10_isTeam 2 = .ok (.lconst 0, 1) := by decide +kernel
theorem dX10_isTeam_3 : decode cX10_isTeam 3 = .ok (.aload_n 0, 1) := by decide +kernel
theorem dX10_isTeam_4 : decode cX10_isTeam 4 = .ok (.getfield 35, 3) := by decide +kernel
theorem dX10_isTeam_7 : decode cX10_isTeam 7 = .ok (.iconst 1, 1) := by decide +kernel
theorem dX10_isTeam_8 : decode cX10_isTeam 8 = .ok (.iaload, 1) := by decide +kernel
theorem dX10_isTeam_9 : decode cX10_isTeam 9 = .ok (.iconst 1, 1) := by decide +kernel
theorem dX10_isTeam_10 : decode cX10_isTeam 10 = .ok (.isub, 1) := by decide +kernel
theorem dX10_isTeam_11 : decode cX10_isTeam 11 = .ok (.i2l, 1) := by decide +kernel
theorem dX10_isTeam_12 : decode cX10_isTeam 12 = .ok (.invokestatic 139, 3) := by decide +kernel
theorem dX10_isTeam_15 : decode cX10_isTeam 15 = .ok (.ireturn, 1) := by decide +kernel
theorem dX10_place_0 : decode cX10_place 0 = .ok (.aload_n 0, 1) := by decide +kernel
theorem dX10_place_1 : decode cX10_place 1 = .ok (.aload_n 0, 1) := by decide +kernel
theorem dX10_place_2 : decode cX10_place 2 = .ok (.iload_n 1, 1) := by decide +kernel
theorem dX10_place_3 : decode cX10_place 3 = .ok (.invokevirtual 218, 3) := by decide +kernel
theorem dX10_place_6 : decode cX10_place 6 = .ok (.ifCond .ne 7, 3) := by decide +kernel
theorem dX10_place_9 : decode cX10_place 9 = .ok (.iconst 1, 1) := by decide +kernel
theorem dX10_place_10 : decode cX10_place 10 = .ok (.goto 20, 3) := by decide +kernel
theorem dX10_place_13 : decode cX10_place 13 = .ok (.iload_n 2, 1) := by decide +kernel
theorem dX10_place_14 : decode cX10_place 14 = .ok (.i2l, 1) := by decide +kernel
theorem dX10_place_15 : decode cX10_place 15 = .ok (.lconst 0, 1) := by decide +kernel
theorem dX10_place_16 : decode cX10_place 16 = .ok (.ldc2_w 221, 3) := by decide +kernel
theorem dX10_place_19 : decode cX10_place 19 = .ok (.invokestatic 139, 3) := by decide +kernel
theorem dX10_place_22 : decode cX10_place 22 = .ok (.ifCond .eq 7, 3) := by decide +kernel
theorem dX10_place_25 : decode cX10_place 25 = .ok (.iconst 0, 1) := by decide +kernel
theorem dX10_place_26 : decode cX10_place 26 = .ok (.goto 4, 3) := by decide +kernel
theorem dX10_place_29 : decode cX10_place 29 = .ok (.iconst 2, 1) := by decide +kernel
theorem dX10_place_30 : decode cX10_place 30 = .ok (.invokevirtual 146, 3) := by decide +kernel
theorem dX10_place_33 : decode cX10_place 33 = .ok (.ifCond .eq 5, 3) := by decide +kernel
theorem dX10_place_36 : decode cX10_place 36 = .ok (.iconst 0, 1) := by decide +kernel
theorem dX10_place_37 : decode cX10_place 37 = .ok (.ireturn, 1) := by decide +kernel
theorem dX10_place_38 : decode cX10_place 38 = .ok (.iload_n 2, 1) := by decide +kernel
theorem dX10_place_39 : decode cX10_place 39 = .ok (.iconst 2, 1) := by decide +kernel
theorem dX10_place_40 : decode cX10_place 40 = .ok (.if_icmp .ge 16, 3) := by decide +kernel
theorem dX10_place_43 : decode cX10_place 43 = .ok (.aload_n 0, 1) := by decide +kernel
theorem dX10_place_44 : decode cX10_place 44 = .ok (.getfield 35, 3) := by decide +kernel
theorem dX10_place_47 : decode cX10_place 47 = .ok (.iconst 2, 1) := by decide +kernel
theorem dX10_place_48 : decode cX10_place 48 = .ok (.iconst 2, 1) := by decide +kernel
theorem dX10_place_49 : decode cX10_place 49 = .ok (.iload_n 1, 1) := by decide +kernel
theorem dX10_place_50 : decode cX10_place 50 = .ok (.imul, 1) := by decide +kernel
theorem dX10_place_51 : decode cX10_place 51 = .ok (.iadd, 1) := by decide +kernel
theorem dX10_place_52 : decode cX10_place 52 = .ok (.iload_n 2, 1) := by decide +kernel
theorem dX10_place_53 : decode cX10_place 53 = .ok (.iadd, 1) := by decide +kernel
theorem dX10_place_54 : decode cX10_place 54 = .ok (.iaload, 1) := by decide +kernel
theorem dX10_place_55 : decode cX10_place 55 = .ok (.ireturn, 1) := by decide +kernel
theorem dX10_place_56 : decode cX10_place 56 = .ok (.iconst 0, 1) := by decide +kernel
theorem dX10_place_57 : decode cX10_place 57 = .ok (.istore_n 3, 1) := by decide +kernel
theorem dX10_place_58 : decode cX10_place 58 = .ok (.iconst 0, 1) := by decide +kernel
theorem dX10_place_59 : decode cX10_place 59 = .ok (.istore 4, 2) := by decide +kernel
theorem dX10_place_61 : decode cX10_place 61 = .ok (.iload 4, 2) := by decide +kernel
theorem dX10_place_63 : decode cX10_place 63 = .ok (.aload_n 0, 1) := by decide +kernel
theorem dX10_place_64 : decode cX10_place 64 = .ok (.getfield 35, 3) := by decide +kernel
theorem dX10_place_67 : decode cX10_place 67 = .ok (.iconst 1, 1) := by decide +kernel
theorem dX10_place_68 : decode cX10_place 68 = .ok (.iaload, 1) := by decide +kernel
theorem dX10_place_69 : decode cX10_place 69 = .ok (.if_icmp .ge 33, 3) := by decide +kernel
theorem dX10_place_72 : decode cX10_place 72 = .ok (.iload_n 3, 1) := by decide +kernel
theorem dX10_place_73 : decode cX10_place 73 = .ok (.aload_n 0, 1) := by decide +kernel
theorem dX10_place_74 : decode cX10_place 74 = .ok (.getfield 35, 3) := by decide +kernel
theorem dX10_place_77 : decode cX10_place 77 = .ok (.iload 4, 2) := by decide +kernel
theorem dX10_place_79 : decode cX10_place 79 = .ok (.invokestatic 104, 3) := by decide +kernel
theorem dX10_place_82 : decode cX10_place 82 = .ok (.iload_n 1, 1) := by decide +kernel
theorem dX10_place_83 : decode cX10_place 83 = .ok (.invokestatic 65, 3) := by decide +kernel
theorem dX10_place_86 : decode cX10_place 86 = .ok (.ifCond .eq 7, 3) := by decide +kernel
theorem dX10_place_89 : decode cX10_place 89 = .ok (.iconst 1, 1) := by decide +kernel
theorem dX10_place_90 : decode cX10_place 90 = .ok (.goto 4, 3) := by decide +kernel
theorem dX10_place_93 : decode cX10_place 93 = .ok (.iconst 0, 1) := by decide +kernel
theorem dX10_place_94 : decode cX10_place 94 = .ok (.iadd, 1) := by decide +kernel
theorem dX10_place_95 : decode cX10_place 95 = .ok (.istore_n 3, 1) := by decide +kernel
theorem dX10_place_96 : decode cX10_place 96 = .ok (.iinc 4 1, 3) := by decide +kernel
theorem dX10_place_99 : decode cX10_place 99 = .ok (.goto (-38), 3) := by decide +kernel
theorem dX10_place_102 : decode cX10_place 102 = .ok (.iload_n 2, 1) := by decide +kernel
theorem dX10_place_103 : decode cX10_place 103 = .ok (.iconst 2, 1) := by decide +kernel
theorem dX10_place_104 : decode cX10_place 104 = .ok (.if_icmp .ne 7, 3) := by decide +kernel
theorem dX10_place_107 : decode cX10_place 107 = .ok (.iload_n 3, 1) := by decide +kernel
theorem dX10_place_108 : decode cX10_place 108 = .ok (.goto 11, 3) := by decide +kernel
theorem dX10_place_111 : decode cX10_place 111 = .ok (.aload_n 0, 1) := by decide +kernel
theorem dX10_place_112 : decode cX10_place 112 = .ok (.getfield 35, 3) := by decide +kernel
theorem dX10_place_115 : decode cX10_place 115 = .ok (.iload_n 1, 1) := by decide +kernel
theorem dX10_place_116 : decode cX10_place 116 = .ok (.invokestatic 223, 3) := by decide +kernel
theorem dX10_place_119 : decode cX10_place 119 = .ok (.ireturn, 1) := by decide +kernel
theorem dX10_holds_0 : decode cX10_holds 0 = .ok (.aload_n 0, 1) := by decide +kernel
theorem dX10_holds_1 : decode cX10_holds 1 = .ok (.aload_n 0, 1) := by decide +kernel
theorem dX10_holds_2 : decode cX10_holds 2 = .ok (.iload_n 1, 1) := by decide +kernel
theorem dX10_holds_3 : decode cX10_holds 3 = .ok (.invokevirtual 218, 3) := by decide +kernel
theorem dX10_holds_6 : decode cX10_holds 6 = .ok (.ifCond .ne 7, 3) := by decide +kernel
theorem dX10_holds_9 : decode cX10_holds 9 = .ok (.iconst 1, 1) := by decide +kernel
theorem dX10_holds_10 : decode cX10_holds 10 = .ok (.goto 28, 3) := by decide +kernel
theorem dX10_holds_13 : decode cX10_holds 13 = .ok (.iload_n 2, 1) := by decide +kernel
theorem dX10_holds_14 : decode cX10_holds 14 = .ok (.i2l, 1) := by decide +kernel
theorem dX10_holds_15 : decode cX10_holds 15 = .ok (.lconst 0, 1) := by decide +kernel
theorem dX10_holds_16 : decode cX10_holds 16 = .ok (.iconst 1, 1) := by decide +kernel
theorem dX10_holds_17 : decode cX10_holds 17 = .ok (.aload_n 0, 1) := by decide +kernel
theorem dX10_holds_18 : decode cX10_holds 18 = .ok (.getfield 35, 3) := by decide +kernel
theorem dX10_holds_21 : decode cX10_holds 21 = .ok (.iconst 0, 1) := by decide +kernel
theorem dX10_holds_22 : decode cX10_holds 22 = .ok (.iaload, 1) := by decide +kernel
theorem dX10_holds_23 : decode cX10_holds 23 = .ok (.ishl, 1) := by decide +kernel
theorem dX10_holds_24 : decode cX10_holds 24 = .ok (.iconst 1, 1) := by decide +kernel
theorem dX10_holds_25 : decode cX10_holds 25 = .ok (.isub, 1) := by decide +kernel
theorem dX10_holds_26 : decode cX10_holds 26 = .ok (.i2l, 1) := by decide +kernel
theorem dX10_holds_27 : decode cX10_holds 27 = .ok (.invokestatic 139, 3) := by decide +kernel
theorem dX10_holds_30 : decode cX10_holds 30 = .ok (.ifCond .eq 7, 3) := by decide +kernel
theorem dX10_holds_33 : decode cX10_holds 33 = .ok (.iconst 0, 1) := by decide +kernel
theorem dX10_holds_34 : decode cX10_holds 34 = .ok (.goto 4, 3) := by decide +kernel
theorem dX10_holds_37 : decode cX10_holds 37 = .ok (.iconst 2, 1) := by decide +kernel
theorem dX10_holds_38 : decode cX10_holds 38 = .ok (.invokevirtual 146, 3) := by decide +kernel
theorem dX10_holds_41 : decode cX10_holds 41 = .ok (.ifCond .ne 19, 3) := by decide +kernel
theorem dX10_holds_44 : decode cX10_holds 44 = .ok (.aload_n 0, 1) := by decide +kernel
theorem dX10_holds_45 : decode cX10_holds 45 = .ok (.getfield 35, 3) := by decide +kernel
theorem dX10_holds_48 : decode cX10_holds 48 = .ok (.iload_n 1, 1) := by decide +kernel
theorem dX10_holds_49 : decode cX10_holds 49 = .ok (.iload_n 2, 1) := by decide +kernel
theorem dX10_holds_50 : decode cX10_holds 50 = .ok (.invokestatic 86, 3) := by decide +kernel
theorem dX10_holds_53 : decode cX10_holds 53 = .ok (.ifCond .eq 7, 3) := by decide +kernel
theorem dX10_holds_56 : decode cX10_holds 56 = .ok (.iconst 1, 1) := by decide +kernel
theorem dX10_holds_57 : decode cX10_holds 57 = .ok (.goto 4, 3) := by decide +kernel
theorem dX10_holds_60 : decode cX10_holds 60 = .ok (.iconst 0, 1) := by decide +kernel
theorem dX10_holds_61 : decode cX10_holds 61 = .ok (.ireturn, 1) := by decide +kernel
theorem dX10_team_0 : decode cX10_team 0 = .ok (.aload_n 0, 1) := by decide +kernel
theorem dX10_team_1 : decode cX10_team 1 = .ok (.aload_n 0, 1) := by decide +kernel
theorem dX10_team_2 : decode cX10_team 2 = .ok (.iload_n 1, 1) := by decide +kernel
theorem dX10_team_3 : decode cX10_team 3 = .ok (.invokevirtual 226, 3) := by decide +kernel
theorem dX10_team_6 : decode cX10_team 6 = .ok (.ifCond .ne 7, 3) := by decide +kernel
theorem dX10_team_9 : decode cX10_team 9 = .ok (.iconst 1, 1) := by decide +kernel
theorem dX10_team_10 : decode cX10_team 10 = .ok (.goto 20, 3) := by decide +kernel
theorem dX10_team_13 : decode cX10_team 13 = .ok (.iload_n 2, 1) := by decide +kernel
theorem dX10_team_14 : decode cX10_team 14 = .ok (.i2l, 1) := by decide +kernel
theorem dX10_team_15 : decode cX10_team 15 = .ok (.lconst 0, 1) := by decide +kernel
theorem dX10_team_16 : decode cX10_team 16 = .ok (.ldc2_w 206, 3) := by decide +kernel
theorem dX10_team_19 : decode cX10_team 19 = .ok (.invokestatic 139, 3) := by decide +kernel
theorem dX10_team_22 : decode cX10_team 22 = .ok (.ifCond .eq 7, 3) := by decide +kernel
theorem dX10_team_25 : decode cX10_team 25 = .ok (.iconst 0, 1) := by decide +kernel
theorem dX10_team_26 : decode cX10_team 26 = .ok (.goto 4, 3) := by decide +kernel
theorem dX10_team_29 : decode cX10_team 29 = .ok (.iconst 2, 1) := by decide +kernel
theorem dX10_team_30 : decode cX10_team 30 = .ok (.invokevirtual 146, 3) := by decide +kernel
theorem dX10_team_33 : decode cX10_team 33 = .ok (.ifCond .eq 5, 3) := by decide +kernel
theorem dX10_team_36 : decode cX10_team 36 = .ok (.iconst 0, 1) := by decide +kernel
theorem dX10_team_37 : decode cX10_team 37 = .ok (.ireturn, 1) := by decide +kernel
theorem dX10_team_38 : decode cX10_team 38 = .ok (.iload_n 2, 1) := by decide +kernel
theorem dX10_team_39 : decode cX10_team 39 = .ok (.tableswitch 84 0 4 #[33, 42, 53, 64, 75], 33) := by decide +kernel
theorem dX10_team_72 : decode cX10_team 72 = .ok (.aload_n 0, 1) := by decide +kernel
theorem dX10_team_73 : decode cX10_team 73 = .ok (.getfield 35, 3) := by decide +kernel
theorem dX10_team_76 : decode cX10_team 76 = .ok (.iload_n 1, 1) := by decide +kernel
theorem dX10_team_77 : decode cX10_team 77 = .ok (.invokestatic 104, 3) := by decide +kernel
theorem dX10_team_80 : decode cX10_team 80 = .ok (.ireturn, 1) := by decide +kernel
theorem dX10_team_81 : decode cX10_team 81 = .ok (.aload_n 0, 1) := by decide +kernel
theorem dX10_team_82 : decode cX10_team 82 = .ok (.getfield 35, 3) := by decide +kernel
theorem dX10_team_85 : decode cX10_team 85 = .ok (.iload_n 1, 1) := by decide +kernel
theorem dX10_team_86 : decode cX10_team 86 = .ok (.iconst 0, 1) := by decide +kernel
theorem dX10_team_87 : decode cX10_team 87 = .ok (.invokestatic 101, 3) := by decide +kernel
theorem dX10_team_90 : decode cX10_team 90 = .ok (.iaload, 1) := by decide +kernel
theorem dX10_team_91 : decode cX10_team 91 = .ok (.ireturn, 1) := by decide +kernel
theorem dX10_team_92 : decode cX10_team 92 = .ok (.aload_n 0, 1) := by decide +kernel
theorem dX10_team_93 : decode cX10_team 93 = .ok (.getfield 35, 3) := by decide +kernel
theorem dX10_team_96 : decode cX10_team 96 = .ok (.iload_n 1, 1) := by decide +kernel
theorem dX10_team_97 : decode cX10_team 97 = .ok (.iconst 1, 1) := by decide +kernel
theorem dX10_team_98 : decode cX10_team 98 = .ok (.invokestatic 101, 3) := by decide +kernel
theorem dX10_team_101 : decode cX10_team 101 = .ok (.iaload, 1) := by decide +kernel
theorem dX10_team_102 : decode cX10_team 102 = .ok (.ireturn, 1) := by decide +kernel
theorem dX10_team_103 : decode cX10_team 103 = .ok (.aload_n 0, 1) := by decide +kernel
theorem dX10_team_104 : decode cX10_team 104 = .ok (.getfield 35, 3) := by decide +kernel
theorem dX10_team_107 : decode cX10_team 107 = .ok (.iload_n 1, 1) := by decide +kernel
theorem dX10_team_108 : decode cX10_team 108 = .ok (.iconst 2, 1) := by decide +kernel
theorem dX10_team_109 : decode cX10_team 109 = .ok (.invokestatic 101, 3) := by decide +kernel
theorem dX10_team_112 : decode cX10_team 112 = .ok (.iaload, 1) := by decide +kernel
theorem dX10_team_113 : decode cX10_team 113 = .ok (.ireturn, 1) := by decide +kernel
theorem dX10_team_114 : decode cX10_team 114 = .ok (.aload_n 0, 1) := by decide +kernel
theorem dX10_team_115 : decode cX10_team 115 = .ok (.getfield 35, 3) := by decide +kernel
theorem dX10_team_118 : decode cX10_team 118 = .ok (.iload_n 1, 1) := by decide +kernel
theorem dX10_team_119 : decode cX10_team 119 = .ok (.invokestatic 208, 3) := by decide +kernel
theorem dX10_team_122 : decode cX10_team 122 = .ok (.ireturn, 1) := by decide +kernel
theorem dX10_team_123 : decode cX10_team 123 = .ok (.aload_n 0, 1) := by decide +kernel
theorem dX10_team_124 : decode cX10_team 124 = .ok (.getfield 35, 3) := by decide +kernel
theorem dX10_team_127 : decode cX10_team 127 = .ok (.iload_n 1, 1) := by decide +kernel
theorem dX10_team_128 : decode cX10_team 128 = .ok (.invokestatic 112, 3) := by decide +kernel
theorem dX10_team_131 : decode cX10_team 131 = .ok (.ireturn, 1) := by decide +kernel
theorem dX10_trail_0 : decode cX10_trail 0 = .ok (.aload_n 0, 1) := by decide +kernel
theorem dX10_trail_1 : decode cX10_trail 1 = .ok (.aload_n 0, 1) := by decide +kernel
theorem dX10_trail_2 : decode cX10_trail 2 = .ok (.iload_n 1, 1) := by decide +kernel
theorem dX10_trail_3 : decode cX10_trail 3 = .ok (.invokevirtual 226, 3) := by decide +kernel
theorem dX10_trail_6 : decode cX10_trail 6 = .ok (.ifCond .ne 7, 3) := by decide +kernel
theorem dX10_trail_9 : decode cX10_trail 9 = .ok (.iconst 1, 1) := by decide +kernel
theorem dX10_trail_10 : decode cX10_trail 10 = .ok (.goto 12, 3) := by decide +kernel
theorem dX10_trail_13 : decode cX10_trail 13 = .ok (.iload_n 2, 1) := by decide +kernel
theorem dX10_trail_14 : decode cX10_trail 14 = .ok (.ifCond .ge 7, 3) := by decide +kernel
theorem dX10_trail_17 : decode cX10_trail 17 = .ok (.iconst 2, 1) := by decide +kernel
theorem dX10_trail_18 : decode cX10_trail 18 = .ok (.goto 4, 3) := by decide +kernel
theorem dX10_trail_21 : decode cX10_trail 21 = .ok (.iconst 0, 1) := by decide +kernel
theorem dX10_trail_22 : decode cX10_trail 22 = .ok (.invokevirtual 146, 3) := by decide +kernel
theorem dX10_trail_25 : decode cX10_trail 25 = .ok (.ifCond .eq 5, 3) := by decide +kernel
theorem dX10_trail_28 : decode cX10_trail 28 = .ok (.iconst 0, 1) := by decide +kernel
theorem dX10_trail_29 : decode cX10_trail 29 = .ok (.ireturn, 1) := by decide +kernel
theorem dX10_trail_30 : decode cX10_trail 30 = .ok (.iload_n 2, 1) := by decide +kernel
theorem dX10_trail_31 : decode cX10_trail 31 = .ok (.aload_n 0, 1) := by decide +kernel
theorem dX10_trail_32 : decode cX10_trail 32 = .ok (.getfield 35, 3) := by decide +kernel
theorem dX10_trail_35 : decode cX10_trail 35 = .ok (.iload_n 1, 1) := by decide +kernel
theorem dX10_trail_36 : decode cX10_trail 36 = .ok (.iconst 0, 1) := by decide +kernel
theorem dX10_trail_37 : decode cX10_trail 37 = .ok (.invokestatic 101, 3) := by decide +kernel
theorem dX10_trail_40 : decode cX10_trail 40 = .ok (.iaload, 1) := by decide +kernel
theorem dX10_trail_41 : decode cX10_trail 41 = .ok (.if_icmp .ge 18, 3) := by decide +kernel
theorem dX10_trail_44 : decode cX10_trail 44 = .ok (.aload_n 0, 1) := by decide +kernel
theorem dX10_trail_45 : decode cX10_trail 45 = .ok (.getfield 35, 3) := by decide +kernel
theorem dX10_trail_48 : decode cX10_trail 48 = .ok (.iload_n 1, 1) := by decide +kernel
theorem dX10_trail_49 : decode cX10_trail 49 = .ok (.iconst 3, 1) := by decide +kernel
theorem dX10_trail_50 : decode cX10_trail 50 = .ok (.iload_n 2, 1) := by decide +kernel
theorem dX10_trail_51 : decode cX10_trail 51 = .ok (.iadd, 1) := by decide +kernel
theorem dX10_trail_52 : decode cX10_trail 52 = .ok (.invokestatic 101, 3) := by decide +kernel
theorem dX10_trail_55 : decode cX10_trail 55 = .ok (.iaload, 1) := by decide +kernel
theorem dX10_trail_56 : decode cX10_trail 56 = .ok (.goto 5, 3) := by decide +kernel
theorem dX10_trail_59 : decode cX10_trail 59 = .ok (.bipush (-9), 2) := by decide +kernel
theorem dX10_trail_61 : decode cX10_trail 61 = .ok (.ireturn, 1) := by decide +kernel
theorem dX10_open_0 : decode cX10_open 0 = .ok (.aload_n 0, 1) := by decide +kernel
theorem dX10_open_1 : decode cX10_open 1 = .ok (.aload_n 0, 1) := by decide +kernel
theorem dX10_open_2 : decode cX10_open 2 = .ok (.iload_n 1, 1) := by decide +kernel
theorem dX10_open_3 : decode cX10_open 3 = .ok (.invokevirtual 226, 3) := by decide +kernel
theorem dX10_open_6 : decode cX10_open 6 = .ok (.ifCond .eq 7, 3) := by decide +kernel
theorem dX10_open_9 : decode cX10_open 9 = .ok (.iconst 0, 1) := by decide +kernel
theorem dX10_open_10 : decode cX10_open 10 = .ok (.goto 4, 3) := by decide +kernel
theorem dX10_open_13 : decode cX10_open 13 = .ok (.iconst 1, 1) := by decide +kernel
theorem dX10_open_14 : decode cX10_open 14 = .ok (.invokevirtual 146, 3) := by decide +kernel
theorem dX10_open_17 : decode cX10_open 17 = .ok (.ifCond .eq 7, 3) := by decide +kernel
theorem dX10_open_20 : decode cX10_open 20 = .ok (.iconst 0, 1) := by decide +kernel
theorem dX10_open_21 : decode cX10_open 21 = .ok (.goto 18, 3) := by decide +kernel
theorem dX10_open_24 : decode cX10_open 24 = .ok (.aload_n 0, 1) := by decide +kernel
theorem dX10_open_25 : decode cX10_open 25 = .ok (.getfield 35, 3) := by decide +kernel
theorem dX10_open_28 : decode cX10_open 28 = .ok (.aload_n 0, 1) := by decide +kernel
theorem dX10_open_29 : decode cX10_open 29 = .ok (.getfield 35, 3) := by decide +kernel
theorem dX10_open_32 : decode cX10_open 32 = .ok (.iload_n 1, 1) := by decide +kernel
theorem dX10_open_33 : decode cX10_open 33 = .ok (.invokestatic 104, 3) := by decide +kernel
theorem dX10_open_36 : decode cX10_open 36 = .ok (.invokestatic 119, 3) := by decide +kernel
theorem dX10_open_39 : decode cX10_open 39 = .ok (.ireturn, 1) := by decide +kernel
theorem dX10_adds_0 : decode cX10_adds 0 = .ok (.aload_n 0, 1) := by decide +kernel
theorem dX10_adds_1 : decode cX10_adds 1 = .ok (.iconst 1, 1) := by decide +kernel
theorem dX10_adds_2 : decode cX10_adds 2 = .ok (.iaload, 1) := by decide +kernel
theorem dX10_adds_3 : decode cX10_adds 3 = .ok (.iconst 4, 1) := by decide +kernel
theorem dX10_adds_4 : decode cX10_adds 4 = .ok (.if_icmp .ne 5, 3) := by decide +kernel
theorem dX10_adds_7 : decode cX10_adds 7 = .ok (.iconst 0, 1) := by decide +kernel
theorem dX10_adds_8 : decode cX10_adds 8 = .ok (.ireturn, 1) := by decide +kernel
theorem dX10_adds_9 : decode cX10_adds 9 = .ok (.aload_n 0, 1) := by decide +kernel
theorem dX10_adds_10 : decode cX10_adds 10 = .ok (.aload_n 0, 1) := by decide +kernel
theorem dX10_adds_11 : decode cX10_adds 11 = .ok (.iconst 1, 1) := by decide +kernel
theorem dX10_adds_12 : decode cX10_adds 12 = .ok (.iaload, 1) := by decide +kernel
theorem dX10_adds_13 : decode cX10_adds 13 = .ok (.invokestatic 229, 3) := by decide +kernel
theorem dX10_adds_16 : decode cX10_adds 16 = .ok (.aload_n 0, 1) := by decide +kernel
theorem dX10_adds_17 : decode cX10_adds 17 = .ok (.iconst 1, 1) := by decide +kernel
theorem dX10_adds_18 : decode cX10_adds 18 = .ok (.dup2, 1) := by decide +kernel
theorem dX10_adds_19 : decode cX10_adds 19 = .ok (.iaload, 1) := by decide +kernel
theorem dX10_adds_20 : decode cX10_adds 20 = .ok (.iconst 1, 1) := by decide +kernel
theorem dX10_adds_21 : decode cX10_adds 21 = .ok (.iadd, 1) := by decide +kernel
theorem dX10_adds_22 : decode cX10_adds 22 = .ok (.iastore, 1) := by decide +kernel
theorem dX10_adds_23 : decode cX10_adds 23 = .ok (.iconst 1, 1) := by decide +kernel
theorem dX10_adds_24 : decode cX10_adds 24 = .ok (.ireturn, 1) := by decide +kernel
theorem dX10_addTeam_0 : decode cX10_addTeam 0 = .ok (.aload_n 0, 1) := by decide +kernel
theorem dX10_addTeam_1 : decode cX10_addTeam 1 = .ok (.aload_n 0, 1) := by decide +kernel
theorem dX10_addTeam_2 : decode cX10_addTeam 2 = .ok (.getfield 35, 3) := by decide +kernel
theorem dX10_addTeam_5 : decode cX10_addTeam 5 = .ok (.iconst 1, 1) := by decide +kernel
theorem dX10_addTeam_6 : decode cX10_addTeam 6 = .ok (.iaload, 1) := by decide +kernel
theorem dX10_addTeam_7 : decode cX10_addTeam 7 = .ok (.iconst 4, 1) := by decide +kernel
theorem dX10_addTeam_8 : decode cX10_addTeam 8 = .ok (.if_icmp .ne 7, 3) := by decide +kernel
theorem dX10_addTeam_11 : decode cX10_addTeam 11 = .ok (.iconst 1, 1) := by decide +kernel
theorem dX10_addTeam_12 : decode cX10_addTeam 12 = .ok (.goto 4, 3) := by decide +kernel
theorem dX10_addTeam_15 : decode cX10_addTeam 15 = .ok (.iconst 0, 1) := by decide +kernel
theorem dX10_addTeam_16 : decode cX10_addTeam 16 = .ok (.invokevirtual 146, 3) := by decide +kernel
theorem dX10_addTeam_19 : decode cX10_addTeam 19 = .ok (.ifCond .eq 5, 3) := by decide +kernel
theorem dX10_addTeam_22 : decode cX10_addTeam 22 = .ok (.iconst 0, 1) := by decide +kernel
theorem dX10_addTeam_23 : decode cX10_addTeam 23 = .ok (.ireturn, 1) := by decide +kernel
theorem dX10_addTeam_24 : decode cX10_addTeam 24 = .ok (.aload_n 0, 1) := by decide +kernel
theorem dX10_addTeam_25 : decode cX10_addTeam 25 = .ok (.invokevirtual 232, 3) := by decide +kernel
theorem dX10_addTeam_28 : decode cX10_addTeam 28 = .ok (.aload_n 0, 1) := by decide +kernel
theorem dX10_addTeam_29 : decode cX10_addTeam 29 = .ok (.getfield 35, 3) := by decide +kernel
theorem dX10_addTeam_32 : decode cX10_addTeam 32 = .ok (.invokestatic 235, 3) := by decide +kernel
theorem dX10_addTeam_35 : decode cX10_addTeam 35 = .ok (.pop, 1) := by decide +kernel
theorem dX10_addTeam_36 : decode cX10_addTeam 36 = .ok (.aload_n 0, 1) := by decide +kernel
theorem dX10_addTeam_37 : decode cX10_addTeam 37 = .ok (.getfield 35, 3) := by decide +kernel
theorem dX10_addTeam_40 : decode cX10_addTeam 40 = .ok (.iconst 1, 1) := by decide +kernel
theorem dX10_addTeam_41 : decode cX10_addTeam 41 = .ok (.iaload, 1) := by decide +kernel
theorem dX10_addTeam_42 : decode cX10_addTeam 42 = .ok (.iconst 1, 1) := by decide +kernel
theorem dX10_addTeam_43 : decode cX10_addTeam 43 = .ok (.isub, 1) := by decide +kernel
theorem dX10_addTeam_44 : decode cX10_addTeam 44 = .ok (.ireturn, 1) := by decide +kernel
theorem dX10_go_0 : decode cX10_go 0 = .ok (.aload_n 0, 1) := by decide +kernel
theorem dX10_go_1 : decode cX10_go 1 = .ok (.aload_n 0, 1) := by decide +kernel
theorem dX10_go_2 : decode cX10_go 2 = .ok (.iload_n 1, 1) := by decide +kernel
theorem dX10_go_3 : decode cX10_go 3 = .ok (.invokevirtual 226, 3) := by decide +kernel
theorem dX10_go_6 : decode cX10_go 6 = .ok (.ifCond .eq 11, 3) := by decide +kernel
theorem dX10_go_9 : decode cX10_go 9 = .ok (.aload_n 0, 1) := by decide +kernel
theorem dX10_go_10 : decode cX10_go 10 = .ok (.iload_n 2, 1) := by decide +kernel
theorem dX10_go_11 : decode cX10_go 11 = .ok (.invokevirtual 218, 3) := by decide +kernel
theorem dX10_go_14 : decode cX10_go 14 = .ok (.ifCond .ne 7, 3) := by decide +kernel
theorem dX10_go_17 : decode cX10_go 17 = .ok (.iconst 1, 1) := by decide +kernel
theorem dX10_go_18 : decode cX10_go 18 = .ok (.goto 27, 3) := by decide +kernel
theorem dX10_go_21 : decode cX10_go 21 = .ok (.aload_n 0, 1) := by decide +kernel
theorem dX10_go_22 : decode cX10_go 22 = .ok (.getfield 35, 3) := by decide +kernel
theorem dX10_go_25 : decode cX10_go 25 = .ok (.aload_n 0, 1) := by decide +kernel
theorem dX10_go_26 : decode cX10_go 26 = .ok (.getfield 35, 3) := by decide +kernel
theorem dX10_go_29 : decode cX10_go 29 = .ok (.iload_n 1, 1) := by decide +kernel
theorem dX10_go_30 : decode cX10_go 30 = .ok (.invokestatic 104, 3) := by decide +kernel
theorem dX10_go_33 : decode cX10_go 33 = .ok (.iload_n 2, 1) := by decide +kernel
theorem dX10_go_34 : decode cX10_go 34 = .ok (.invokestatic 98, 3) := by decide +kernel
theorem dX10_go_37 : decode cX10_go 37 = .ok (.ifCond .eq 7, 3) := by decide +kernel
theorem dX10_go_40 : decode cX10_go 40 = .ok (.iconst 0, 1) := by decide +kernel
theorem dX10_go_41 : decode cX10_go 41 = .ok (.goto 4, 3) := by decide +kernel
theorem dX10_go_44 : decode cX10_go 44 = .ok (.iconst 2, 1) := by decide +kernel
theorem dX10_go_45 : decode cX10_go 45 = .ok (.invokevirtual 146, 3) := by decide +kernel
theorem dX10_go_48 : decode cX10_go 48 = .ok (.ifCond .eq 5, 3) := by decide +kernel
theorem dX10_go_51 : decode cX10_go 51 = .ok (.iconst 0, 1) := by decide +kernel
theorem dX10_go_52 : decode cX10_go 52 = .ok (.ireturn, 1) := by decide +kernel
theorem dX10_go_53 : decode cX10_go 53 = .ok (.aload_n 0, 1) := by decide +kernel
theorem dX10_go_54 : decode cX10_go 54 = .ok (.invokevirtual 232, 3) := by decide +kernel
theorem dX10_go_57 : decode cX10_go 57 = .ok (.aload_n 0, 1) := by decide +kernel
theorem dX10_go_58 : decode cX10_go 58 = .ok (.getfield 35, 3) := by decide +kernel
theorem dX10_go_61 : decode cX10_go 61 = .ok (.iload_n 1, 1) := by decide +kernel
theorem dX10_go_62 : decode cX10_go 62 = .ok (.iload_n 2, 1) := by decide +kernel
theorem dX10_go_63 : decode cX10_go 63 = .ok (.invokestatic 239, 3) := by decide +kernel
theorem dX10_go_66 : decode cX10_go 66 = .ok (.aload_n 0, 1) := by decide +kernel
theorem dX10_go_67 : decode cX10_go 67 = .ok (.getfield 35, 3) := by decide +kernel
theorem dX10_go_70 : decode cX10_go 70 = .ok (.iload_n 1, 1) := by decide +kernel
theorem dX10_go_71 : decode cX10_go 71 = .ok (.iconst 1, 1) := by decide +kernel
theorem dX10_go_72 : decode cX10_go 72 = .ok (.invokestatic 101, 3) := by decide +kernel
theorem dX10_go_75 : decode cX10_go 75 = .ok (.iaload, 1) := by decide +kernel
theorem dX10_go_76 : decode cX10_go 76 = .ok (.ireturn, 1) := by decide +kernel
theorem dX10_hint_0 : decode cX10_hint 0 = .ok (.aload_n 0, 1) := by decide +kernel
theorem dX10_hint_1 : decode cX10_hint 1 = .ok (.aload_n 0, 1) := by decide +kernel
theorem dX10_hint_2 : decode cX10_hint 2 = .ok (.iload_n 1, 1) := by decide +kernel
theorem dX10_hint_3 : decode cX10_hint 3 = .ok (.invokevirtual 226, 3) := by decide +kernel
theorem dX10_hint_6 : decode cX10_hint 6 = .ok (.ifCond .ne 7, 3) := by decide +kernel
theorem dX10_hint_9 : decode cX10_hint 9 = .ok (.iconst 1, 1) := by decide +kernel
theorem dX10_hint_10 : decode cX10_hint 10 = .ok (.goto 20, 3) := by decide +kernel
theorem dX10_hint_13 : decode cX10_hint 13 = .ok (.aload_n 0, 1) := by decide +kernel
theorem dX10_hint_14 : decode cX10_hint 14 = .ok (.aload_n 0, 1) := by decide +kernel
theorem dX10_hint_15 : decode cX10_hint 15 = .ok (.getfield 35, 3) := by decide +kernel
theorem dX10_hint_18 : decode cX10_hint 18 = .ok (.iload_n 1, 1) := by decide +kernel
theorem dX10_hint_19 : decode cX10_hint 19 = .ok (.invokevirtual 243, 3) := by decide +kernel
theorem dX10_hint_22 : decode cX10_hint 22 = .ok (.ifCond .ne 7, 3) := by decide +kernel
theorem dX10_hint_25 : decode cX10_hint 25 = .ok (.iconst 2, 1) := by decide +kernel
theorem dX10_hint_26 : decode cX10_hint 26 = .ok (.goto 4, 3) := by decide +kernel
theorem dX10_hint_29 : decode cX10_hint 29 = .ok (.iconst 0, 1) := by decide +kernel
theorem dX10_hint_30 : decode cX10_hint 30 = .ok (.invokevirtual 146, 3) := by decide +kernel
theorem dX10_hint_33 : decode cX10_hint 33 = .ok (.ifCond .eq 5, 3) := by decide +kernel
theorem dX10_hint_36 : decode cX10_hint 36 = .ok (.iconst 0, 1) := by decide +kernel
theorem dX10_hint_37 : decode cX10_hint 37 = .ok (.ireturn, 1) := by decide +kernel
theorem dX10_hint_38 : decode cX10_hint 38 = .ok (.aload_n 0, 1) := by decide +kernel
theorem dX10_hint_39 : decode cX10_hint 39 = .ok (.invokevirtual 232, 3) := by decide +kernel
theorem dX10_hint_42 : decode cX10_hint 42 = .ok (.aload_n 0, 1) := by decide +kernel
theorem dX10_hint_43 : decode cX10_hint 43 = .ok (.getfield 35, 3) := by decide +kernel
theorem dX10_hint_46 : decode cX10_hint 46 = .ok (.iload_n 1, 1) := by decide +kernel
theorem dX10_hint_47 : decode cX10_hint 47 = .ok (.iconst 2, 1) := by decide +kernel
theorem dX10_hint_48 : decode cX10_hint 48 = .ok (.invokestatic 101, 3) := by decide +kernel
theorem dX10_hint_51 : decode cX10_hint 51 = .ok (.dup2, 1) := by decide +kernel
theorem dX10_hint_52 : decode cX10_hint 52 = .ok (.iaload, 1) := by decide +kernel
theorem dX10_hint_53 : decode cX10_hint 53 = .ok (.iconst 1, 1) := by decide +kernel
theorem dX10_hint_54 : decode cX10_hint 54 = .ok (.iadd, 1) := by decide +kernel
theorem dX10_hint_55 : decode cX10_hint 55 = .ok (.iastore, 1) := by decide +kernel
theorem dX10_hint_56 : decode cX10_hint 56 = .ok (.aload_n 0, 1) := by decide +kernel
theorem dX10_hint_57 : decode cX10_hint 57 = .ok (.aload_n 0, 1) := by decide +kernel
theorem dX10_hint_58 : decode cX10_hint 58 = .ok (.getfield 35, 3) := by decide +kernel
theorem dX10_hint_61 : decode cX10_hint 61 = .ok (.iload_n 1, 1) := by decide +kernel
theorem dX10_hint_62 : decode cX10_hint 62 = .ok (.invokevirtual 243, 3) := by decide +kernel
theorem dX10_hint_65 : decode cX10_hint 65 = .ok (.invokestatic 246, 3) := by decide +kernel
theorem dX10_hint_68 : decode cX10_hint 68 = .ok (.ireturn, 1) := by decide +kernel
theorem dX10_giveUp_0 : decode cX10_giveUp 0 = .ok (.aload_n 0, 1) := by decide +kernel
theorem dX10_giveUp_1 : decode cX10_giveUp 1 = .ok (.aload_n 0, 1) := by decide +kernel
theorem dX10_giveUp_2 : decode cX10_giveUp 2 = .ok (.iload_n 1, 1) := by decide +kernel
theorem dX10_giveUp_3 : decode cX10_giveUp 3 = .ok (.invokevirtual 226, 3) := by decide +kernel
theorem dX10_giveUp_6 : decode cX10_giveUp 6 = .ok (.ifCond .eq 7, 3) := by decide +kernel
theorem dX10_giveUp_9 : decode cX10_giveUp 9 = .ok (.iconst 0, 1) := by decide +kernel
theorem dX10_giveUp_10 : decode cX10_giveUp 10 = .ok (.goto 4, 3) := by decide +kernel
theorem dX10_giveUp_13 : decode cX10_giveUp 13 = .ok (.iconst 1, 1) := by decide +kernel
theorem dX10_giveUp_14 : decode cX10_giveUp 14 = .ok (.invokevirtual 146, 3) := by decide +kernel
theorem dX10_giveUp_17 : decode cX10_giveUp 17 = .ok (.ifCond .eq 5, 3) := by decide +kernel
theorem dX10_giveUp_20 : decode cX10_giveUp 20 = .ok (.iconst 0, 1) := by decide +kernel
theorem dX10_giveUp_21 : decode cX10_giveUp 21 = .ok (.ireturn, 1) := by decide +kernel
theorem dX10_giveUp_22 : decode cX10_giveUp 22 = .ok (.aload_n 0, 1) := by decide +kernel
theorem dX10_giveUp_23 : decode cX10_giveUp 23 = .ok (.invokevirtual 232, 3) := by decide +kernel
theorem dX10_giveUp_26 : decode cX10_giveUp 26 = .ok (.aload_n 0, 1) := by decide +kernel
theorem dX10_giveUp_27 : decode cX10_giveUp 27 = .ok (.getfield 35, 3) := by decide +kernel
theorem dX10_giveUp_30 : decode cX10_giveUp 30 = .ok (.iload_n 1, 1) := by decide +kernel
theorem dX10_giveUp_31 : decode cX10_giveUp 31 = .ok (.invokestatic 249, 3) := by decide +kernel
theorem dX10_giveUp_34 : decode cX10_giveUp 34 = .ok (.aload_n 0, 1) := by decide +kernel
theorem dX10_giveUp_35 : decode cX10_giveUp 35 = .ok (.getfield 35, 3) := by decide +kernel
theorem dX10_giveUp_38 : decode cX10_giveUp 38 = .ok (.iconst 1, 1) := by decide +kernel
theorem dX10_giveUp_39 : decode cX10_giveUp 39 = .ok (.iaload, 1) := by decide +kernel
theorem dX10_giveUp_40 : decode cX10_giveUp 40 = .ok (.ireturn, 1) := by decide +kernel
theorem dX10_move_0 : decode cX10_move 0 = .ok (.aload_n 0, 1) := by decide +kernel
theorem dX10_move_1 : decode cX10_move 1 = .ok (.aload_n 0, 1) := by decide +kernel
theorem dX10_move_2 : decode cX10_move 2 = .ok (.iload_n 1, 1) := by decide +kernel
theorem dX10_move_3 : decode cX10_move 3 = .ok (.invokevirtual 218, 3) := by decide +kernel
theorem dX10_move_6 : decode cX10_move 6 = .ok (.ifCond .ne 7, 3) := by decide +kernel
theorem dX10_move_9 : decode cX10_move 9 = .ok (.iconst 1, 1) := by decide +kernel
theorem dX10_move_10 : decode cX10_move 10 = .ok (.goto 32, 3) := by decide +kernel
theorem dX10_move_13 : decode cX10_move 13 = .ok (.iload_n 2, 1) := by decide +kernel
theorem dX10_move_14 : decode cX10_move 14 = .ok (.i2l, 1) := by decide +kernel
theorem dX10_move_15 : decode cX10_move 15 = .ok (.lconst 0, 1) := by decide +kernel
theorem dX10_move_16 : decode cX10_move 16 = .ok (.ldc2_w 157, 3) := by decide +kernel
theorem dX10_move_19 : decode cX10_move 19 = .ok (.invokestatic 139, 3) := by decide +kernel
theorem dX10_move_22 : decode cX10_move 22 = .ok (.ifCond .eq 19, 3) := by decide +kernel
theorem dX10_move_25 : decode cX10_move 25 = .ok (.iload_n 3, 1) := by decide +kernel
theorem dX10_move_26 : decode cX10_move 26 = .ok (.i2l, 1) := by decide +kernel
theorem dX10_move_27 : decode cX10_move 27 = .ok (.lconst 0, 1) := by decide +kernel
theorem dX10_move_28 : decode cX10_move 28 = .ok (.ldc2_w 157, 3) := by decide +kernel
theorem dX10_move_31 : decode cX10_move 31 = .ok (.invokestatic 139, 3) := by decide +kernel
theorem dX10_move_34 : decode cX10_move 34 = .ok (.ifCond .eq 7, 3) := by decide +kernel
theorem dX10_move_37 : decode cX10_move 37 = .ok (.iconst 0, 1) := by decide +kernel
theorem dX10_move_38 : decode cX10_move 38 = .ok (.goto 4, 3) := by decide +kernel
theorem dX10_move_41 : decode cX10_move 41 = .ok (.iconst 2, 1) := by decide +kernel
theorem dX10_move_42 : decode cX10_move 42 = .ok (.invokevirtual 146, 3) := by decide +kernel
theorem dX10_move_45 : decode cX10_move 45 = .ok (.ifCond .eq 5, 3) := by decide +kernel
theorem dX10_move_48 : decode cX10_move 48 = .ok (.iconst 0, 1) := by decide +kernel
theorem dX10_move_49 : decode cX10_move 49 = .ok (.ireturn, 1) := by decide +kernel
theorem dX10_move_50 : decode cX10_move 50 = .ok (.aload_n 0, 1) := by decide +kernel
theorem dX10_move_51 : decode cX10_move 51 = .ok (.invokevirtual 232, 3) := by decide +kernel
theorem dX10_move_54 : decode cX10_move 54 = .ok (.bipush 10, 2) := by decide +kernel
theorem dX10_move_56 : decode cX10_move 56 = .ok (.aload_n 0, 1) := by decide +kernel
theorem dX10_move_57 : decode cX10_move 57 = .ok (.getfield 35, 3) := by decide +kernel
theorem dX10_move_60 : decode cX10_move 60 = .ok (.iconst 2, 1) := by decide +kernel
theorem dX10_move_61 : decode cX10_move 61 = .ok (.iconst 2, 1) := by decide +kernel
theorem dX10_move_62 : decode cX10_move 62 = .ok (.iload_n 1, 1) := by decide +kernel
theorem dX10_move_63 : decode cX10_move 63 = .ok (.imul, 1) := by decide +kernel
theorem dX10_move_64 : decode cX10_move 64 = .ok (.iadd, 1) := by decide +kernel
theorem dX10_move_65 : decode cX10_move 65 = .ok (.iaload, 1) := by decide +kernel
theorem dX10_move_66 : decode cX10_move 66 = .ok (.imul, 1) := by decide +kernel
theorem dX10_move_67 : decode cX10_move 67 = .ok (.aload_n 0, 1) := by decide +kernel
theorem dX10_move_68 : decode cX10_move 68 = .ok (.getfield 35, 3) := by decide +kernel
theorem dX10_move_71 : decode cX10_move 71 = .ok (.iconst 2, 1) := by decide +kernel
theorem dX10_move_72 : decode cX10_move 72 = .ok (.iconst 2, 1) := by decide +kernel
theorem dX10_move_73 : decode cX10_move 73 = .ok (.iload_n 1, 1) := by decide +kernel
theorem dX10_move_74 : decode cX10_move 74 = .ok (.imul, 1) := by decide +kernel
theorem dX10_move_75 : decode cX10_move 75 = .ok (.iadd, 1) := by decide +kernel
theorem dX10_move_76 : decode cX10_move 76 = .ok (.iconst 1, 1) := by decide +kernel
theorem dX10_move_77 : decode cX10_move 77 = .ok (.iadd, 1) := by decide +kernel
theorem dX10_move_78 : decode cX10_move 78 = .ok (.iaload, 1) := by decide +kernel
theorem dX10_move_79 : decode cX10_move 79 = .ok (.iadd, 1) := by decide +kernel
theorem dX10_move_80 : decode cX10_move 80 = .ok (.istore 4, 2) := by decide +kernel
theorem dX10_move_82 : decode cX10_move 82 = .ok (.aload_n 0, 1) := by decide +kernel
theorem dX10_move_83 : decode cX10_move 83 = .ok (.getfield 35, 3) := by decide +kernel
theorem dX10_move_86 : decode cX10_move 86 = .ok (.iconst 2, 1) := by decide +kernel
theorem dX10_move_87 : decode cX10_move 87 = .ok (.iconst 2, 1) := by decide +kernel
theorem dX10_move_88 : decode cX10_move 88 = .ok (.iload_n 1, 1) := by decide +kernel
theorem dX10_move_89 : decode cX10_move 89 = .ok (.imul, 1) := by decide +kernel
theorem dX10_move_90 : decode cX10_move 90 = .ok (.iadd, 1) := by decide +kernel
theorem dX10_move_91 : decode cX10_move 91 = .ok (.iload_n 2, 1) := by decide +kernel
theorem dX10_move_92 : decode cX10_move 92 = .ok (.iastore, 1) := by decide +kernel
theorem dX10_move_93 : decode cX10_move 93 = .ok (.aload_n 0, 1) := by decide +kernel
theorem dX10_move_94 : decode cX10_move 94 = .ok (.getfield 35, 3) := by decide +kernel
theorem dX10_move_97 : decode cX10_move 97 = .ok (.iconst 2, 1) := by decide +kernel
theorem dX10_move_98 : decode cX10_move 98 = .ok (.iconst 2, 1) := by decide +kernel
theorem dX10_move_99 : decode cX10_move 99 = .ok (.iload_n 1, 1) := by decide +kernel
theorem dX10_move_100 : decode cX10_move 100 = .ok (.imul, 1) := by decide +kernel
theorem dX10_move_101 : decode cX10_move 101 = .ok (.iadd, 1) := by decide +kernel
theorem dX10_move_102 : decode cX10_move 102 = .ok (.iconst 1, 1) := by decide +kernel
theorem dX10_move_103 : decode cX10_move 103 = .ok (.iadd, 1) := by decide +kernel
theorem dX10_move_104 : decode cX10_move 104 = .ok (.iload_n 3, 1) := by decide +kernel
theorem dX10_move_105 : decode cX10_move 105 = .ok (.iastore, 1) := by decide +kernel
theorem dX10_move_106 : decode cX10_move 106 = .ok (.iload 4, 2) := by decide +kernel
theorem dX10_move_108 : decode cX10_move 108 = .ok (.ireturn, 1) := by decide +kernel
theorem dX10_ease_0 : decode cX10_ease 0 = .ok (.aload_n 0, 1) := by decide +kernel
theorem dX10_ease_1 : decode cX10_ease 1 = .ok (.aload_n 0, 1) := by decide +kernel
theorem dX10_ease_2 : decode cX10_ease 2 = .ok (.iload_n 1, 1) := by decide +kernel
theorem dX10_ease_3 : decode cX10_ease 3 = .ok (.invokevirtual 218, 3) := by decide +kernel
theorem dX10_ease_6 : decode cX10_ease 6 = .ok (.ifCond .eq 7, 3) := by decide +kernel
theorem dX10_ease_9 : decode cX10_ease 9 = .ok (.iconst 0, 1) := by decide +kernel
theorem dX10_ease_10 : decode cX10_ease 10 = .ok (.goto 4, 3) := by decide +kernel
theorem dX10_ease_13 : decode cX10_ease 13 = .ok (.iconst 1, 1) := by decide +kernel
theorem dX10_ease_14 : decode cX10_ease 14 = .ok (.invokevirtual 146, 3) := by decide +kernel
theorem dX10_ease_17 : decode cX10_ease 17 = .ok (.ifCond .eq 5, 3) := by decide +kernel
theorem dX10_ease_20 : decode cX10_ease 20 = .ok (.iconst 0, 1) := by decide +kernel
theorem dX10_ease_21 : decode cX10_ease 21 = .ok (.ireturn, 1) := by decide +kernel
theorem dX10_ease_22 : decode cX10_ease 22 = .ok (.aload_n 0, 1) := by decide +kernel
theorem dX10_ease_23 : decode cX10_ease 23 = .ok (.invokevirtual 232, 3) := by decide +kernel
theorem dX10_ease_26 : decode cX10_ease 26 = .ok (.aload_n 0, 1) := by decide +kernel
theorem dX10_ease_27 : decode cX10_ease 27 = .ok (.getfield 35, 3) := by decide +kernel
theorem dX10_ease_30 : decode cX10_ease 30 = .ok (.iload_n 1, 1) := by decide +kernel
theorem dX10_ease_31 : decode cX10_ease 31 = .ok (.invokestatic 223, 3) := by decide +kernel
theorem dX10_ease_34 : decode cX10_ease 34 = .ok (.istore_n 2, 1) := by decide +kernel
theorem dX10_ease_35 : decode cX10_ease 35 = .ok (.aload_n 0, 1) := by decide +kernel
theorem dX10_ease_36 : decode cX10_ease 36 = .ok (.getfield 35, 3) := by decide +kernel
theorem dX10_ease_39 : decode cX10_ease 39 = .ok (.iload_n 1, 1) := by decide +kernel
theorem dX10_ease_40 : decode cX10_ease 40 = .ok (.invokestatic 252, 3) := by decide +kernel
theorem dX10_ease_43 : decode cX10_ease 43 = .ok (.iload_n 2, 1) := by decide +kernel
theorem dX10_ease_44 : decode cX10_ease 44 = .ok (.ireturn, 1) := by decide +kernel
theorem dX10_undo_0 : decode cX10_undo 0 = .ok (.aload_n 0, 1) := by decide +kernel
theorem dX10_undo_1 : decode cX10_undo 1 = .ok (.aload_n 0, 1) := by decide +kernel
theorem dX10_undo_2 : decode cX10_undo 2 = .ok (.getfield 79, 3) := by decide +kernel
theorem dX10_undo_5 : decode cX10_undo 5 = .ok (.ifCond .ne 7, 3) := by decide +kernel
theorem dX10_undo_8 : decode cX10_undo 8 = .ok (.iconst 1, 1) := by decide +kernel
theorem dX10_undo_9 : decode cX10_undo 9 = .ok (.goto 4, 3) := by decide +kernel
theorem dX10_undo_12 : decode cX10_undo 12 = .ok (.iconst 0, 1) := by decide +kernel
theorem dX10_undo_13 : decode cX10_undo 13 = .ok (.invokevirtual 146, 3) := by decide +kernel
theorem dX10_undo_16 : decode cX10_undo 16 = .ok (.ifCond .eq 5, 3) := by decide +kernel
theorem dX10_undo_19 : decode cX10_undo 19 = .ok (.iconst 0, 1) := by decide +kernel
theorem dX10_undo_20 : decode cX10_undo 20 = .ok (.ireturn, 1) := by decide +kernel
theorem dX10_undo_21 : decode cX10_undo 21 = .ok (.aload_n 0, 1) := by decide +kernel
theorem dX10_undo_22 : decode cX10_undo 22 = .ok (.dup, 1) := by decide +kernel
theorem dX10_undo_23 : decode cX10_undo 23 = .ok (.getfield 79, 3) := by decide +kernel
theorem dX10_undo_26 : decode cX10_undo 26 = .ok (.iconst 1, 1) := by decide +kernel
theorem dX10_undo_27 : decode cX10_undo 27 = .ok (.isub, 1) := by decide +kernel
theorem dX10_undo_28 : decode cX10_undo 28 = .ok (.putfield 79, 3) := by decide +kernel
theorem dX10_undo_31 : decode cX10_undo 31 = .ok (.aload_n 0, 1) := by decide +kernel
theorem dX10_undo_32 : decode cX10_undo 32 = .ok (.getfield 41, 3) := by decide +kernel
theorem dX10_undo_35 : decode cX10_undo 35 = .ok (.sipush 394, 3) := by decide +kernel
theorem dX10_undo_38 : decode cX10_undo 38 = .ok (.aload_n 0, 1) := by decide +kernel
theorem dX10_undo_39 : decode cX10_undo 39 = .ok (.getfield 79, 3) := by decide +kernel
theorem dX10_undo_42 : decode cX10_undo 42 = .ok (.imul, 1) := by decide +kernel
theorem dX10_undo_43 : decode cX10_undo 43 = .ok (.aload_n 0, 1) := by decide +kernel
theorem dX10_undo_44 : decode cX10_undo 44 = .ok (.getfield 35, 3) := by decide +kernel
theorem dX10_undo_47 : decode cX10_undo 47 = .ok (.iconst 0, 1) := by decide +kernel
theorem dX10_undo_48 : decode cX10_undo 48 = .ok (.sipush 394, 3) := by decide +kernel
theorem dX10_undo_51 : decode cX10_undo 51 = .ok (.invokestatic 82, 3) := by decide +kernel
theorem dX10_undo_54 : decode cX10_undo 54 = .ok (.aload_n 0, 1) := by decide +kernel
theorem dX10_undo_55 : decode cX10_undo 55 = .ok (.getfield 79, 3) := by decide +kernel
theorem dX10_undo_58 : decode cX10_undo 58 = .ok (.ireturn, 1) := by decide +kernel
theorem dX10_shortest_0 : decode cX10_shortest 0 = .ok (.aload_n 0, 1) := by decide +kernel
theorem dX10_shortest_1 : decode cX10_shortest 1 = .ok (.aload_n 0, 1) := by decide +kernel
theorem dX10_shortest_2 : decode cX10_shortest 2 = .ok (.iload_n 1, 1) := by decide +kernel
theorem dX10_shortest_3 : decode cX10_shortest 3 = .ok (.invokevirtual 226, 3) := by decide +kernel
theorem dX10_shortest_6 : decode cX10_shortest 6 = .ok (.ifCond .ne 7, 3) := by decide +kernel
theorem dX10_shortest_9 : decode cX10_shortest 9 = .ok (.iconst 1, 1) := by decide +kernel
theorem dX10_shortest_10 : decode cX10_shortest 10 = .ok (.goto 18, 3) := by decide +kernel
theorem dX10_shortest_13 : decode cX10_shortest 13 = .ok (.iload_n 2, 1) := by decide +kernel
theorem dX10_shortest_14 : decode cX10_shortest 14 = .ok (.i2l, 1) := by decide +kernel
theorem dX10_shortest_15 : decode cX10_shortest 15 = .ok (.lconst 0, 1) := by decide +kernel
theorem dX10_shortest_16 : decode cX10_shortest 16 = .ok (.lconst 1, 1) := by decide +kernel
theorem dX10_shortest_17 : decode cX10_shortest 17 = .ok (.invokestatic 139, 3) := by decide +kernel
theorem dX10_shortest_20 : decode cX10_shortest 20 = .ok (.ifCond .eq 7, 3) := by decide +kernel
theorem dX10_shortest_23 : decode cX10_shortest 23 = .ok (.iconst 0, 1) := by decide +kernel
theorem dX10_shortest_24 : decode cX10_shortest 24 = .ok (.goto 4, 3) := by decide +kernel
theorem dX10_shortest_27 : decode cX10_shortest 27 = .ok (.iconst 2, 1) := by decide +kernel
theorem dX10_shortest_28 : decode cX10_shortest 28 = .ok (.invokevirtual 146, 3) := by decide +kernel
theorem dX10_shortest_31 : decode cX10_shortest 31 = .ok (.ifCond .eq 5, 3) := by decide +kernel
theorem dX10_shortest_34 : decode cX10_shortest 34 = .ok (.iconst 0, 1) := by decide +kernel
theorem dX10_shortest_35 : decode cX10_shortest 35 = .ok (.ireturn, 1) := by decide +kernel
theorem dX10_shortest_36 : decode cX10_shortest 36 = .ok (.aload_n 0, 1) := by decide +kernel
theorem dX10_shortest_37 : decode cX10_shortest 37 = .ok (.getfield 35, 3) := by decide +kernel
theorem dX10_shortest_40 : decode cX10_shortest 40 = .ok (.iload_n 1, 1) := by decide +kernel
theorem dX10_shortest_41 : decode cX10_shortest 41 = .ok (.invokestatic 104, 3) := by decide +kernel
theorem dX10_shortest_44 : decode cX10_shortest 44 = .ok (.istore_n 3, 1) := by decide +kernel
theorem dX10_shortest_45 : decode cX10_shortest 45 = .ok (.aload_n 0, 1) := by decide +kernel
theorem dX10_shortest_46 : decode cX10_shortest 46 = .ok (.getfield 35, 3) := by decide +kernel
theorem dX10_shortest_49 : decode cX10_shortest 49 = .ok (.iload_n 1, 1) := by decide +kernel
theorem dX10_shortest_50 : decode cX10_shortest 50 = .ok (.invokestatic 108, 3) := by decide +kernel
theorem dX10_shortest_53 : decode cX10_shortest 53 = .ok (.ifCond .eq 14, 3) := by decide +kernel
theorem dX10_shortest_56 : decode cX10_shortest 56 = .ok (.iload_n 2, 1) := by decide +kernel
theorem dX10_shortest_57 : decode cX10_shortest 57 = .ok (.ifCond .ne 7, 3) := by decide +kernel
theorem dX10_shortest_60 : decode cX10_shortest 60 = .ok (.iconst 0, 1) := by decide +kernel
theorem dX10_shortest_61 : decode cX10_shortest 61 = .ok (.goto 5, 3) := by decide +kernel
theorem dX10_shortest_64 : decode cX10_shortest 64 = .ok (.bipush (-9), 2) := by decide +kernel
theorem dX10_shortest_66 : decode cX10_shortest 66 = .ok (.ireturn, 1) := by decide +kernel
theorem dX10_shortest_67 : decode cX10_shortest 67 = .ok (.aload_n 0, 1) := by decide +kernel
theorem dX10_shortest_68 : decode cX10_shortest 68 = .ok (.aload_n 0, 1) := by decide +kernel
theorem dX10_shortest_69 : decode cX10_shortest 69 = .ok (.getfield 35, 3) := by decide +kernel
theorem dX10_shortest_72 : decode cX10_shortest 72 = .ok (.invokevirtual 255, 3) := by decide +kernel
theorem dX10_shortest_75 : decode cX10_shortest 75 = .ok (.aload_n 0, 1) := by decide +kernel
theorem dX10_shortest_76 : decode cX10_shortest 76 = .ok (.getfield 56, 3) := by decide +kernel
theorem dX10_shortest_79 : decode cX10_shortest 79 = .ok (.iload_n 3, 1) := by decide +kernel
theorem dX10_shortest_80 : decode cX10_shortest 80 = .ok (.iaload, 1) := by decide +kernel
theorem dX10_shortest_81 : decode cX10_shortest 81 = .ok (.ldc 129, 2) := by decide +kernel
theorem dX10_shortest_83 : decode cX10_shortest 83 = .ok (.if_icmp .lt 6, 3) := by decide +kernel
theorem dX10_shortest_86 : decode cX10_shortest 86 = .ok (.bipush (-9), 2) := by decide +kernel
theorem dX10_shortest_88 : decode cX10_shortest 88 = .ok (.ireturn, 1) := by decide +kernel
theorem dX10_shortest_89 : decode cX10_shortest 89 = .ok (.iload_n 2, 1) := by decide +kernel
theorem dX10_shortest_90 : decode cX10_shortest 90 = .ok (.ifCond .ne 10, 3) := by decide +kernel
theorem dX10_shortest_93 : decode cX10_shortest 93 = .ok (.aload_n 0, 1) := by decide +kernel
theorem dX10_shortest_94 : decode cX10_shortest 94 = .ok (.getfield 56, 3) := by decide +kernel
theorem dX10_shortest_97 : decode cX10_shortest 97 = .ok (.iload_n 3, 1) := by decide +kernel
theorem dX10_shortest_98 : decode cX10_shortest 98 = .ok (.iaload, 1) := by decide +kernel
theorem dX10_shortest_99 : decode cX10_shortest 99 = .ok (.ireturn, 1) := by decide +kernel
theorem dX10_shortest_100 : decode cX10_shortest 100 = .ok (.iconst 0, 1) := by decide +kernel
theorem dX10_shortest_101 : decode cX10_shortest 101 = .ok (.istore 4, 2) := by decide +kernel
theorem dX10_shortest_103 : decode cX10_shortest 103 = .ok (.iload 4, 2) := by decide +kernel
theorem dX10_shortest_105 : decode cX10_shortest 105 = .ok (.aload_n 0, 1) := by decide +kernel
theorem dX10_shortest_106 : decode cX10_shortest 106 = .ok (.getfield 35, 3) := by decide +kernel
theorem dX10_shortest_109 : decode cX10_shortest 109 = .ok (.invokestatic 94, 3) := by decide +kernel
theorem dX10_shortest_112 : decode cX10_shortest 112 = .ok (.if_icmp .ge 47, 3) := by decide +kernel
theorem dX10_shortest_115 : decode cX10_shortest 115 = .ok (.aload_n 0, 1) := by decide +kernel
theorem dX10_shortest_116 : decode cX10_shortest 116 = .ok (.getfield 35, 3) := by decide +kernel
theorem dX10_shortest_119 : decode cX10_shortest 119 = .ok (.iload_n 3, 1) := by decide +kernel
theorem dX10_shortest_120 : decode cX10_shortest 120 = .ok (.iload 4, 2) := by decide +kernel
theorem dX10_shortest_122 : decode cX10_shortest 122 = .ok (.invokestatic 98, 3) := by decide +kernel
theorem dX10_shortest_125 : decode cX10_shortest 125 = .ok (.ifCond .eq 28, 3) := by decide +kernel
theorem dX10_shortest_128 : decode cX10_shortest 128 = .ok (.aload_n 0, 1) := by decide +kernel
theorem dX10_shortest_129 : decode cX10_shortest 129 = .ok (.getfield 56, 3) := by decide +kernel
theorem dX10_shortest_132 : decode cX10_shortest 132 = .ok (.iload_n 3, 1) := by decide +kernel
theorem dX10_shortest_133 : decode cX10_shortest 133 = .ok (.iconst 1, 1) := by decide +kernel
theorem dX10_shortest_134 : decode cX10_shortest 134 = .ok (.iload 4, 2) := by decide +kernel
theorem dX10_shortest_136 : decode cX10_shortest 136 = .ok (.ishl, 1) := by decide +kernel
theorem dX10_shortest_137 : decode cX10_shortest 137 = .ok (.ior, 1) := by decide +kernel
theorem dX10_shortest_138 : decode cX10_shortest 138 = .ok (.iaload, 1) := by decide +kernel
theorem dX10_shortest_139 : decode cX10_shortest 139 = .ok (.aload_n 0, 1) := by decide +kernel
theorem dX10_shortest_140 : decode cX10_shortest 140 = .ok (.getfield 56, 3) := by decide +kernel
theorem dX10_shortest_143 : decode cX10_shortest 143 = .ok (.iload_n 3, 1) := by decide +kernel
theorem dX10_shortest_144 : decode cX10_shortest 144 = .ok (.iaload, 1) := by decide +kernel
theorem dX10_shortest_145 : decode cX10_shortest 145 = .ok (.iconst 1, 1) := by decide +kernel
theorem dX10_shortest_146 : decode cX10_shortest 146 = .ok (.isub, 1) := by decide +kernel
theorem dX10_shortest_147 : decode cX10_shortest 147 = .ok (.if_icmp .ne 6, 3) := by decide +kernel
theorem dX10_shortest_150 : decode cX10_shortest 150 = .ok (.iload 4, 2) := by decide +kernel
theorem dX10_shortest_152 : decode cX10_shortest 152 = .ok (.ireturn, 1) := by decide +kernel
theorem dX10_shortest_153 : decode cX10_shortest 153 = .ok (.iinc 4 1, 3) := by decide +kernel
theorem dX10_shortest_156 : decode cX10_shortest 156 = .ok (.goto (-53), 3) := by decide +kernel
theorem dX10_shortest_159 : decode cX10_shortest 159 = .ok (.aload_n 0, 1) := by decide +kernel
theorem dX10_shortest_160 : decode cX10_shortest 160 = .ok (.getfield 35, 3) := by decide +kernel
theorem dX10_shortest_163 : decode cX10_shortest 163 = .ok (.invokestatic 94, 3) := by decide +kernel
theorem dX10_shortest_166 : decode cX10_shortest 166 = .ok (.ireturn, 1) := by decide +kernel
theorem dX10_quickest_0 : decode cX10_quickest 0 = .ok (.aload_n 0, 1) := by decide +kernel
theorem dX10_quickest_1 : decode cX10_quickest 1 = .ok (.aload_n 0, 1) := by decide +kernel
theorem dX10_quickest_2 : decode cX10_quickest 2 = .ok (.iload_n 1, 1) := by decide +kernel
theorem dX10_quickest_3 : decode cX10_quickest 3 = .ok (.invokevirtual 226, 3) := by decide +kernel
theorem dX10_quickest_6 : decode cX10_quickest 6 = .ok (.ifCond .ne 7, 3) := by decide +kernel
theorem dX10_quickest_9 : decode cX10_quickest 9 = .ok (.iconst 1, 1) := by decide +kernel
theorem dX10_quickest_10 : decode cX10_quickest 10 = .ok (.goto 18, 3) := by decide +kernel
theorem dX10_quickest_13 : decode cX10_quickest 13 = .ok (.iload_n 2, 1) := by decide +kernel
theorem dX10_quickest_14 : decode cX10_quickest 14 = .ok (.i2l, 1) := by decide +kernel
theorem dX10_quickest_15 : decode cX10_quickest 15 = .ok (.lconst 0, 1) := by decide +kernel
theorem dX10_quickest_16 : decode cX10_quickest 16 = .ok (.lconst 1, 1) := by decide +kernel
theorem dX10_quickest_17 : decode cX10_quickest 17 = .ok (.invokestatic 139, 3) := by decide +kernel
theorem dX10_quickest_20 : decode cX10_quickest 20 = .ok (.ifCond .eq 7, 3) := by decide +kernel
theorem dX10_quickest_23 : decode cX10_quickest 23 = .ok (.iconst 0, 1) := by decide +kernel
theorem dX10_quickest_24 : decode cX10_quickest 24 = .ok (.goto 4, 3) := by decide +kernel
theorem dX10_quickest_27 : decode cX10_quickest 27 = .ok (.iconst 2, 1) := by decide +kernel
theorem dX10_quickest_28 : decode cX10_quickest 28 = .ok (.invokevirtual 146, 3) := by decide +kernel
theorem dX10_quickest_31 : decode cX10_quickest 31 = .ok (.ifCond .eq 5, 3) := by decide +kernel
theorem dX10_quickest_34 : decode cX10_quickest 34 = .ok (.iconst 0, 1) := by decide +kernel
theorem dX10_quickest_35 : decode cX10_quickest 35 = .ok (.ireturn, 1) := by decide +kernel
theorem dX10_quickest_36 : decode cX10_quickest 36 = .ok (.aload_n 0, 1) := by decide +kernel
theorem dX10_quickest_37 : decode cX10_quickest 37 = .ok (.getfield 35, 3) := by decide +kernel
theorem dX10_quickest_40 : decode cX10_quickest 40 = .ok (.iload_n 1, 1) := by decide +kernel
theorem dX10_quickest_41 : decode cX10_quickest 41 = .ok (.invokestatic 104, 3) := by decide +kernel
theorem dX10_quickest_44 : decode cX10_quickest 44 = .ok (.istore_n 3, 1) := by decide +kernel
theorem dX10_quickest_45 : decode cX10_quickest 45 = .ok (.aload_n 0, 1) := by decide +kernel
theorem dX10_quickest_46 : decode cX10_quickest 46 = .ok (.getfield 35, 3) := by decide +kernel
theorem dX10_quickest_49 : decode cX10_quickest 49 = .ok (.iload_n 1, 1) := by decide +kernel
theorem dX10_quickest_50 : decode cX10_quickest 50 = .ok (.invokestatic 112, 3) := by decide +kernel
theorem dX10_quickest_53 : decode cX10_quickest 53 = .ok (.istore 4, 2) := by decide +kernel
theorem dX10_quickest_55 : decode cX10_quickest 55 = .ok (.aload_n 0, 1) := by decide +kernel
theorem dX10_quickest_56 : decode cX10_quickest 56 = .ok (.getfield 35, 3) := by decide +kernel
theorem dX10_quickest_59 : decode cX10_quickest 59 = .ok (.iload_n 1, 1) := by decide +kernel
theorem dX10_quickest_60 : decode cX10_quickest 60 = .ok (.invokestatic 108, 3) := by decide +kernel
theorem dX10_quickest_63 : decode cX10_quickest 63 = .ok (.ifCond .eq 14, 3) := by decide +kernel
theorem dX10_quickest_66 : decode cX10_quickest 66 = .ok (.iload_n 2, 1) := by decide +kernel
theorem dX10_quickest_67 : decode cX10_quickest 67 = .ok (.ifCond .ne 7, 3) := by decide +kernel
theorem dX10_quickest_70 : decode cX10_quickest 70 = .ok (.iconst 0, 1) := by decide +kernel
theorem dX10_quickest_71 : decode cX10_quickest 71 = .ok (.goto 5, 3) := by decide +kernel
theorem dX10_quickest_74 : decode cX10_quickest 74 = .ok (.bipush (-9), 2) := by decide +kernel
theorem dX10_quickest_76 : decode cX10_quickest 76 = .ok (.ireturn, 1) := by decide +kernel
theorem dX10_quickest_77 : decode cX10_quickest 77 = .ok (.aload_n 0, 1) := by decide +kernel
theorem dX10_quickest_78 : decode cX10_quickest 78 = .ok (.aload_n 0, 1) := by decide +kernel
theorem dX10_quickest_79 : decode cX10_quickest 79 = .ok (.getfield 35, 3) := by decide +kernel
theorem dX10_quickest_82 : decode cX10_quickest 82 = .ok (.invokevirtual 259, 3) := by decide +kernel
theorem dX10_quickest_85 : decode cX10_quickest 85 = .ok (.aload_n 0, 1) := by decide +kernel
theorem dX10_quickest_86 : decode cX10_quickest 86 = .ok (.aload_n 0, 1) := by decide +kernel
theorem dX10_quickest_87 : decode cX10_quickest 87 = .ok (.getfield 35, 3) := by decide +kernel
theorem dX10_quickest_90 : decode cX10_quickest 90 = .ok (.iload_n 3, 1) := by decide +kernel
theorem dX10_quickest_91 : decode cX10_quickest 91 = .ok (.iload 4, 2) := by decide +kernel
theorem dX10_quickest_93 : decode cX10_quickest 93 = .ok (.invokevirtual 130, 3) := by decide +kernel
theorem dX10_quickest_96 : decode cX10_quickest 96 = .ok (.istore 5, 2) := by decide +kernel
theorem dX10_quickest_98 : decode cX10_quickest 98 = .ok (.iload 5, 2) := by decide +kernel
theorem dX10_quickest_100 : decode cX10_quickest 100 = .ok (.ldc 129, 2) := by decide +kernel
theorem dX10_quickest_102 : decode cX10_quickest 102 = .ok (.if_icmp .ge 7, 3) := by decide +kernel
theorem dX10_quickest_105 : decode cX10_quickest 105 = .ok (.iload_n 2, 1) := by decide +kernel
theorem dX10_quickest_106 : decode cX10_quickest 106 = .ok (.ifCond .ne 18, 3) := by decide +kernel
theorem dX10_quickest_109 : decode cX10_quickest 109 = .ok (.iload 5, 2) := by decide +kernel
theorem dX10_quickest_111 : decode cX10_quickest 111 = .ok (.ldc 129, 2) := by decide +kernel
theorem dX10_quickest_113 : decode cX10_quickest 113 = .ok (.if_icmp .lt 8, 3) := by decide +kernel
theorem dX10_quickest_116 : decode cX10_quickest 116 = .ok (.bipush (-9), 2) := by decide +kernel
theorem dX10_quickest_118 : decode cX10_quickest 118 = .ok (.goto 5, 3) := by decide +kernel
theorem dX10_quickest_121 : decode cX10_quickest 121 = .ok (.iload 5, 2) := by decide +kernel
theorem dX10_quickest_123 : decode cX10_quickest 123 = .ok (.ireturn, 1) := by decide +kernel
theorem dX10_quickest_124 : decode cX10_quickest 124 = .ok (.iconst 0, 1) := by decide +kernel
theorem dX10_quickest_125 : decode cX10_quickest 125 = .ok (.istore 6, 2) := by decide +kernel
theorem dX10_quickest_127 : decode cX10_quickest 127 = .ok (.aload_n 0, 1) := by decide +kernel
theorem dX10_quickest_128 : decode cX10_quickest 128 = .ok (.getfield 35, 3) := by decide +kernel
theorem dX10_quickest_131 : decode cX10_quickest 131 = .ok (.iload_n 3, 1) := by decide +kernel
theorem dX10_quickest_132 : decode cX10_quickest 132 = .ok (.iload 6, 2) := by decide +kernel
theorem dX10_quickest_134 : decode cX10_quickest 134 = .ok (.invokestatic 98, 3) := by decide +kernel
theorem dX10_quickest_137 : decode cX10_quickest 137 = .ok (.ifCond .eq 21, 3) := by decide +kernel
theorem dX10_quickest_140 : decode cX10_quickest 140 = .ok (.aload_n 0, 1) := by decide +kernel
theorem dX10_quickest_141 : decode cX10_quickest 141 = .ok (.aload_n 0, 1) := by decide +kernel
theorem dX10_quickest_142 : decode cX10_quickest 142 = .ok (.getfield 35, 3) := by decide +kernel
theorem dX10_quickest_145 : decode cX10_quickest 145 = .ok (.iload_n 3, 1) := by decide +kernel
theorem dX10_quickest_146 : decode cX10_quickest 146 = .ok (.iload 4, 2) := by decide +kernel
theorem dX10_quickest_148 : decode cX10_quickest 148 = .ok (.iload 6, 2) := by decide +kernel
theorem dX10_quickest_150 : decode cX10_quickest 150 = .ok (.invokevirtual 133, 3) := by decide +kernel
theorem dX10_quickest_153 : decode cX10_quickest 153 = .ok (.iload 5, 2) := by decide +kernel
theorem dX10_quickest_155 : decode cX10_quickest 155 = .ok (.if_icmp .eq 9, 3) := by decide +kernel
theorem dX10_quickest_158 : decode cX10_quickest 158 = .ok (.iinc 6 1, 3) := by decide +kernel
theorem dX10_quickest_161 : decode cX10_quickest 161 = .ok (.goto (-34), 3) := by decide +kernel
theorem dX10_quickest_164 : decode cX10_quickest 164 = .ok (.iload 6, 2) := by decide +kernel
theorem dX10_quickest_166 : decode cX10_quickest 166 = .ok (.ireturn, 1) := by decide +kernel
theorem dX10_orders_0 : decode cX10_orders 0 = .ok (.aload_n 0, 1) := by decide +kernel
theorem dX10_orders_1 : decode cX10_orders 1 = .ok (.aload_n 0, 1) := by decide +kernel
theorem dX10_orders_2 : decode cX10_orders 2 = .ok (.iload_n 1, 1) := by decide +kernel
theorem dX10_orders_3 : decode cX10_orders 3 = .ok (.invokevirtual 226, 3) := by decide +kernel
theorem dX10_orders_6 : decode cX10_orders 6 = .ok (.ifCond .eq 7, 3) := by decide +kernel
theorem dX10_orders_9 : decode cX10_orders 9 = .ok (.iconst 0, 1) := by decide +kernel
theorem dX10_orders_10 : decode cX10_orders 10 = .ok (.goto 4, 3) := by decide +kernel
theorem dX10_orders_13 : decode cX10_orders 13 = .ok (.iconst 1, 1) := by decide +kernel
theorem dX10_orders_14 : decode cX10_orders 14 = .ok (.invokevirtual 146, 3) := by decide +kernel
theorem dX10_orders_17 : decode cX10_orders 17 = .ok (.ifCond .eq 5, 3) := by decide +kernel
theorem dX10_orders_20 : decode cX10_orders 20 = .ok (.iconst 0, 1) := by decide +kernel
theorem dX10_orders_21 : decode cX10_orders 21 = .ok (.ireturn, 1) := by decide +kernel
theorem dX10_orders_22 : decode cX10_orders 22 = .ok (.aload_n 0, 1) := by decide +kernel
theorem dX10_orders_23 : decode cX10_orders 23 = .ok (.getfield 35, 3) := by decide +kernel
theorem dX10_orders_26 : decode cX10_orders 26 = .ok (.iload_n 1, 1) := by decide +kernel
theorem dX10_orders_27 : decode cX10_orders 27 = .ok (.invokestatic 108, 3) := by decide +kernel
theorem dX10_orders_30 : decode cX10_orders 30 = .ok (.ifCond .eq 5, 3) := by decide +kernel
theorem dX10_orders_33 : decode cX10_orders 33 = .ok (.iconst 1, 1) := by decide +kernel
theorem dX10_orders_34 : decode cX10_orders 34 = .ok (.ireturn, 1) := by decide +kernel
theorem dX10_orders_35 : decode cX10_orders 35 = .ok (.aload_n 0, 1) := by decide +kernel
theorem dX10_orders_36 : decode cX10_orders 36 = .ok (.aload_n 0, 1) := by decide +kernel
theorem dX10_orders_37 : decode cX10_orders 37 = .ok (.getfield 35, 3) := by decide +kernel
theorem dX10_orders_40 : decode cX10_orders 40 = .ok (.invokevirtual 255, 3) := by decide +kernel
theorem dX10_orders_43 : decode cX10_orders 43 = .ok (.aload_n 0, 1) := by decide +kernel
theorem dX10_orders_44 : decode cX10_orders 44 = .ok (.getfield 59, 3) := by decide +kernel
theorem dX10_orders_47 : decode cX10_orders 47 = .ok (.aload_n 0, 1) := by decide +kernel
theorem dX10_orders_48 : decode cX10_orders 48 = .ok (.getfield 35, 3) := by decide +kernel
theorem dX10_orders_51 : decode cX10_orders 51 = .ok (.iload_n 1, 1) := by decide +kernel
theorem dX10_orders_52 : decode cX10_orders 52 = .ok (.invokestatic 104, 3) := by decide +kernel
theorem dX10_orders_55 : decode cX10_orders 55 = .ok (.iaload, 1) := by decide +kernel
theorem dX10_orders_56 : decode cX10_orders 56 = .ok (.ireturn, 1) := by decide +kernel
theorem dX10_safe_0 : decode cX10_safe 0 = .ok (.aload_n 0, 1) := by decide +kernel
theorem dX10_safe_1 : decode cX10_safe 1 = .ok (.aload_n 0, 1) := by decide +kernel
theorem dX10_safe_2 : decode cX10_safe 2 = .ok (.iload_n 1, 1) := by decide +kernel
theorem dX10_safe_3 : decode cX10_safe 3 = .ok (.invokevirtual 226, 3) := by decide +kernel
theorem dX10_safe_6 : decode cX10_safe 6 = .ok (.ifCond .eq 7, 3) := by decide +kernel
theorem dX10_safe_9 : decode cX10_safe 9 = .ok (.iconst 0, 1) := by decide +kernel
theorem dX10_safe_10 : decode cX10_safe 10 = .ok (.goto 4, 3) := by decide +kernel
theorem dX10_safe_13 : decode cX10_safe 13 = .ok (.iconst 1, 1) := by decide +kernel
theorem dX10_safe_14 : decode cX10_safe 14 = .ok (.invokevirtual 146, 3) := by decide +kernel
theorem dX10_safe_17 : decode cX10_safe 17 = .ok (.ifCond .eq 7, 3) := by decide +kernel
theorem dX10_safe_20 : decode cX10_safe 20 = .ok (.iconst 0, 1) := by decide +kernel
theorem dX10_safe_21 : decode cX10_safe 21 = .ok (.goto 12, 3) := by decide +kernel
theorem dX10_safe_24 : decode cX10_safe 24 = .ok (.aload_n 0, 1) := by decide +kernel
theorem dX10_safe_25 : decode cX10_safe 25 = .ok (.aload_n 0, 1) := by decide +kernel
theorem dX10_safe_26 : decode cX10_safe 26 = .ok (.getfield 35, 3) := by decide +kernel
theorem dX10_safe_29 : decode cX10_safe 29 = .ok (.iload_n 1, 1) := by decide +kernel
theorem dX10_safe_30 : decode cX10_safe 30 = .ok (.invokevirtual 243, 3) := by decide +kernel
theorem dX10_safe_33 : decode cX10_safe 33 = .ok (.ireturn, 1) := by decide +kernel
theorem dX10_needed_0 : decode cX10_needed 0 = .ok (.aload_n 0, 1) := by decide +kernel
theorem dX10_needed_1 : decode cX10_needed 1 = .ok (.aload_n 0, 1) := by decide +kernel
theorem dX10_needed_2 : decode cX10_needed 2 = .ok (.iload_n 1, 1) := by decide +kernel
theorem dX10_needed_3 : decode cX10_needed 3 = .ok (.invokevirtual 226, 3) := by decide +kernel
theorem dX10_needed_6 : decode cX10_needed 6 = .ok (.ifCond .eq 7, 3) := by decide +kernel
theorem dX10_needed_9 : decode cX10_needed 9 = .ok (.iconst 0, 1) := by decide +kernel
theorem dX10_needed_10 : decode cX10_needed 10 = .ok (.goto 4, 3) := by decide +kernel
theorem dX10_needed_13 : decode cX10_needed 13 = .ok (.iconst 1, 1) := by decide +kernel
theorem dX10_needed_14 : decode cX10_needed 14 = .ok (.invokevirtual 146, 3) := by decide +kernel
theorem dX10_needed_17 : decode cX10_needed 17 = .ok (.ifCond .eq 5, 3) := by decide +kernel
theorem dX10_needed_20 : decode cX10_needed 20 = .ok (.iconst 0, 1) := by decide +kernel
theorem dX10_needed_21 : decode cX10_needed 21 = .ok (.ireturn, 1) := by decide +kernel
theorem dX10_needed_22 : decode cX10_needed 22 = .ok (.aload_n 0, 1) := by decide +kernel
theorem dX10_needed_23 : decode cX10_needed 23 = .ok (.getfield 35, 3) := by decide +kernel
theorem dX10_needed_26 : decode cX10_needed 26 = .ok (.iload_n 1, 1) := by decide +kernel
theorem dX10_needed_27 : decode cX10_needed 27 = .ok (.invokestatic 104, 3) := by decide +kernel
theorem dX10_needed_30 : decode cX10_needed 30 = .ok (.istore_n 2, 1) := by decide +kernel
theorem dX10_needed_31 : decode cX10_needed 31 = .ok (.aload_n 0, 1) := by decide +kernel
theorem dX10_needed_32 : decode cX10_needed 32 = .ok (.getfield 35, 3) := by decide +kernel
theorem dX10_needed_35 : decode cX10_needed 35 = .ok (.iload_n 1, 1) := by decide +kernel
theorem dX10_needed_36 : decode cX10_needed 36 = .ok (.invokestatic 108, 3) := by decide +kernel
theorem dX10_needed_39 : decode cX10_needed 39 = .ok (.ifCond .eq 5, 3) := by decide +kernel
theorem dX10_needed_42 : decode cX10_needed 42 = .ok (.iconst 0, 1) := by decide +kernel
theorem dX10_needed_43 : decode cX10_needed 43 = .ok (.ireturn, 1) := by decide +kernel
theorem dX10_needed_44 : decode cX10_needed 44 = .ok (.aload_n 0, 1) := by decide +kernel
theorem dX10_needed_45 : decode cX10_needed 45 = .ok (.aload_n 0, 1) := by decide +kernel
theorem dX10_needed_46 : decode cX10_needed 46 = .ok (.getfield 35, 3) := by decide +kernel
theorem dX10_needed_49 : decode cX10_needed 49 = .ok (.bipush (-9), 2) := by decide +kernel
theorem dX10_needed_51 : decode cX10_needed 51 = .ok (.invokevirtual 122, 3) := by decide +kernel
theorem dX10_needed_54 : decode cX10_needed 54 = .ok (.aload_n 0, 1) := by decide +kernel
theorem dX10_needed_55 : decode cX10_needed 55 = .ok (.getfield 50, 3) := by decide +kernel
theorem dX10_needed_58 : decode cX10_needed 58 = .ok (.iload_n 2, 1) := by decide +kernel
theorem dX10_needed_59 : decode cX10_needed 59 = .ok (.baload, 1) := by decide +kernel
theorem dX10_needed_60 : decode cX10_needed 60 = .ok (.ifCond .ne 6, 3) := by decide +kernel
theorem dX10_needed_63 : decode cX10_needed 63 = .ok (.bipush (-9), 2) := by decide +kernel
theorem dX10_needed_65 : decode cX10_needed 65 = .ok (.ireturn, 1) := by decide +kernel
theorem dX10_needed_66 : decode cX10_needed 66 = .ok (.iconst 0, 1) := by decide +kernel
theorem dX10_needed_67 : decode cX10_needed 67 = .ok (.istore_n 3, 1) := by decide +kernel
theorem dX10_needed_68 : decode cX10_needed 68 = .ok (.iconst 0, 1) := by decide +kernel
theorem dX10_needed_69 : decode cX10_needed 69 = .ok (.istore 4, 2) := by decide +kernel
theorem dX10_needed_71 : decode cX10_needed 71 = .ok (.iload 4, 2) := by decide +kernel
theorem dX10_needed_73 : decode cX10_needed 73 = .ok (.aload_n 0, 1) := by decide +kernel
theorem dX10_needed_74 : decode cX10_needed 74 = .ok (.getfield 35, 3) := by decide +kernel
theorem dX10_needed_77 : decode cX10_needed 77 = .ok (.iconst 0, 1) := by decide +kernel
theorem dX10_needed_78 : decode cX10_needed 78 = .ok (.iaload, 1) := by decide +kernel
theorem dX10_needed_79 : decode cX10_needed 79 = .ok (.if_icmp .ge 48, 3) := by decide +kernel
theorem dX10_needed_82 : decode cX10_needed 82 = .ok (.aload_n 0, 1) := by decide +kernel
theorem dX10_needed_83 : decode cX10_needed 83 = .ok (.aload_n 0, 1) := by decide +kernel
theorem dX10_needed_84 : decode cX10_needed 84 = .ok (.getfield 35, 3) := by decide +kernel
theorem dX10_needed_87 : decode cX10_needed 87 = .ok (.iload 4, 2) := by decide +kernel
theorem dX10_needed_89 : decode cX10_needed 89 = .ok (.invokevirtual 122, 3) := by decide +kernel
theorem dX10_needed_92 : decode cX10_needed 92 = .ok (.iload_n 3, 1) := by decide +kernel
theorem dX10_needed_93 : decode cX10_needed 93 = .ok (.iload_n 2, 1) := by decide +kernel
theorem dX10_needed_94 : decode cX10_needed 94 = .ok (.iload 4, 2) := by decide +kernel
theorem dX10_needed_96 : decode cX10_needed 96 = .ok (.invokestatic 65, 3) := by decide +kernel
theorem dX10_needed_99 : decode cX10_needed 99 = .ok (.ifCond .ne 19, 3) := by decide +kernel
theorem dX10_needed_102 : decode cX10_needed 102 = .ok (.aload_n 0, 1) := by decide +kernel
theorem dX10_needed_103 : decode cX10_needed 103 = .ok (.getfield 50, 3) := by decide +kernel
theorem dX10_needed_106 : decode cX10_needed 106 = .ok (.iload_n 2, 1) := by decide +kernel
theorem dX10_needed_107 : decode cX10_needed 107 = .ok (.baload, 1) := by decide +kernel
theorem dX10_needed_108 : decode cX10_needed 108 = .ok (.ifCond .ne 10, 3) := by decide +kernel
theorem dX10_needed_111 : decode cX10_needed 111 = .ok (.iconst 1, 1) := by decide +kernel
theorem dX10_needed_112 : decode cX10_needed 112 = .ok (.iload 4, 2) := by decide +kernel
theorem dX10_needed_114 : decode cX10_needed 114 = .ok (.ishl, 1) := by decide +kernel
theorem dX10_needed_115 : decode cX10_needed 115 = .ok (.goto 4, 3) := by decide +kernel
theorem dX10_needed_118 : decode cX10_needed 118 = .ok (.iconst 0, 1) := by decide +kernel
theorem dX10_needed_119 : decode cX10_needed 119 = .ok (.ior, 1) := by decide +kernel
theorem dX10_needed_120 : decode cX10_needed 120 = .ok (.istore_n 3, 1) := by decide +kernel
theorem dX10_needed_121 : decode cX10_needed 121 = .ok (.iinc 4 1, 3) := by decide +kernel
theorem dX10_needed_124 : decode cX10_needed 124 = .ok (.goto (-53), 3) := by decide +kernel
theorem dX10_needed_127 : decode cX10_needed 127 = .ok (.iload_n 3, 1) := by decide +kernel
theorem dX10_needed_128 : decode cX10_needed 128 = .ok (.ireturn, 1) := by decide +kernel
theorem dX10_deadEnds_0 : decode cX10_deadEnds 0 = .ok (.aload_n 0, 1) := by decide +kernel
theorem dX10_deadEnds_1 : decode cX10_deadEnds 1 = .ok (.iconst 0, 1) := by decide +kernel
theorem dX10_deadEnds_2 : decode cX10_deadEnds 2 = .ok (.putfield 73, 3) := by decide +kernel
theorem dX10_deadEnds_5 : decode cX10_deadEnds 5 = .ok (.aload_n 0, 1) := by decide +kernel
theorem dX10_deadEnds_6 : decode cX10_deadEnds 6 = .ok (.aload_n 0, 1) := by decide +kernel
theorem dX10_deadEnds_7 : decode cX10_deadEnds 7 = .ok (.getfield 35, 3) := by decide +kernel
theorem dX10_deadEnds_10 : decode cX10_deadEnds 10 = .ok (.invokevirtual 262, 3) := by decide +kernel
theorem dX10_deadEnds_13 : decode cX10_deadEnds 13 = .ok (.ireturn, 1) := by decide +kernel
theorem dX10_easeBy_0 : decode cX10_easeBy 0 = .ok (.aload_n 0, 1) := by decide +kernel
theorem dX10_easeBy_1 : decode cX10_easeBy 1 = .ok (.iconst 0, 1) := by decide +kernel
theorem dX10_easeBy_2 : decode cX10_easeBy 2 = .ok (.putfield 73, 3) := by decide +kernel
theorem dX10_easeBy_5 : decode cX10_easeBy 5 = .ok (.aload_n 0, 1) := by decide +kernel
theorem dX10_easeBy_6 : decode cX10_easeBy 6 = .ok (.aload_n 0, 1) := by decide +kernel
theorem dX10_easeBy_7 : decode cX10_easeBy 7 = .ok (.getfield 35, 3) := by decide +kernel
theorem dX10_easeBy_10 : decode cX10_easeBy 10 = .ok (.invokevirtual 262, 3) := by decide +kernel
theorem dX10_easeBy_13 : decode cX10_easeBy 13 = .ok (.ifCond .ne 6, 3) := by decide +kernel
theorem dX10_easeBy_16 : decode cX10_easeBy 16 = .ok (.bipush (-9), 2) := by decide +kernel
theorem dX10_easeBy_18 : decode cX10_easeBy 18 = .ok (.ireturn, 1) := by decide +kernel
theorem dX10_easeBy_19 : decode cX10_easeBy 19 = .ok (.iconst 0, 1) := by decide +kernel
theorem dX10_easeBy_20 : decode cX10_easeBy 20 = .ok (.istore_n 1, 1) := by decide +kernel
theorem dX10_easeBy_21 : decode cX10_easeBy 21 = .ok (.iload_n 1, 1) := by decide +kernel
theorem dX10_easeBy_22 : decode cX10_easeBy 22 = .ok (.aload_n 0, 1) := by decide +kernel
theorem dX10_easeBy_23 : decode cX10_easeBy 23 = .ok (.getfield 35, 3) := by decide +kernel
theorem dX10_easeBy_26 : decode cX10_easeBy 26 = .ok (.iconst 0, 1) := by decide +kernel
theorem dX10_easeBy_27 : decode cX10_easeBy 27 = .ok (.iaload, 1) := by decide +kernel
theorem dX10_easeBy_28 : decode cX10_easeBy 28 = .ok (.if_icmp .ge 34, 3) := by decide +kernel
theorem dX10_easeBy_31 : decode cX10_easeBy 31 = .ok (.aload_n 0, 1) := by decide +kernel
theorem dX10_easeBy_32 : decode cX10_easeBy 32 = .ok (.invokevirtual 265, 3) := by decide +kernel
theorem dX10_easeBy_35 : decode cX10_easeBy 35 = .ok (.aload_n 0, 1) := by decide +kernel
theorem dX10_easeBy_36 : decode cX10_easeBy 36 = .ok (.getfield 38, 3) := by decide +kernel
theorem dX10_easeBy_39 : decode cX10_easeBy 39 = .ok (.iload_n 1, 1) := by decide +kernel
theorem dX10_easeBy_40 : decode cX10_easeBy 40 = .ok (.invokestatic 252, 3) := by decide +kernel
theorem dX10_easeBy_43 : decode cX10_easeBy 43 = .ok (.aload_n 0, 1) := by decide +kernel
theorem dX10_easeBy_44 : decode cX10_easeBy 44 = .ok (.aload_n 0, 1) := by decide +kernel
theorem dX10_easeBy_45 : decode cX10_easeBy 45 = .ok (.getfield 38, 3) := by decide +kernel
theorem dX10_easeBy_48 : decode cX10_easeBy 48 = .ok (.invokevirtual 262, 3) := by decide +kernel
theorem dX10_easeBy_51 : decode cX10_easeBy 51 = .ok (.ifCond .ne 5, 3) := by decide +kernel
theorem dX10_easeBy_54 : decode cX10_easeBy 54 = .ok (.iload_n 1, 1) := by decide +kernel
theorem dX10_easeBy_55 : decode cX10_easeBy 55 = .ok (.ireturn, 1) := by decide +kernel
theorem dX10_easeBy_56 : decode cX10_easeBy 56 = .ok (.iinc 1 1, 3) := by decide +kernel
theorem dX10_easeBy_59 : decode cX10_easeBy 59 = .ok (.goto (-38), 3) := by decide +kernel
theorem dX10_easeBy_62 : decode cX10_easeBy 62 = .ok (.bipush (-9), 2) := by decide +kernel
theorem dX10_easeBy_64 : decode cX10_easeBy 64 = .ok (.ireturn, 1) := by decide +kernel
theorem dX10_does_0 : decode cX10_does 0 = .ok (.iload_n 1, 1) := by decide +kernel
theorem dX10_does_1 : decode cX10_does 1 = .ok (.sipush 1000, 3) := by decide +kernel
theorem dX10_does_4 : decode cX10_does 4 = .ok (.idiv, 1) := by decide +kernel
theorem dX10_does_5 : decode cX10_does 5 = .ok (.istore_n 2, 1) := by decide +kernel
theorem dX10_does_6 : decode cX10_does 6 = .ok (.iload_n 1, 1) := by decide +kernel
theorem dX10_does_7 : decode cX10_does 7 = .ok (.bipush 100, 2) := by decide +kernel
theorem dX10_does_9 : decode cX10_does 9 = .ok (.idiv, 1) := by decide +kernel
theorem dX10_does_10 : decode cX10_does 10 = .ok (.bipush 10, 2) := by decide +kernel
theorem dX10_does_12 : decode cX10_does 12 = .ok (.irem, 1) := by decide +kernel
theorem dX10_does_13 : decode cX10_does 13 = .ok (.istore_n 3, 1) := by decide +kernel
theorem dX10_does_14 : decode cX10_does 14 = .ok (.iload_n 1, 1) := by decide +kernel
theorem dX10_does_15 : decode cX10_does 15 = .ok (.bipush 10, 2) := by decide +kernel
theorem dX10_does_17 : decode cX10_does 17 = .ok (.idiv, 1) := by decide +kernel
theorem dX10_does_18 : decode cX10_does 18 = .ok (.bipush 10, 2) := by decide +kernel
theorem dX10_does_20 : decode cX10_does 20 = .ok (.irem, 1) := by decide +kernel
theorem dX10_does_21 : decode cX10_does 21 = .ok (.istore 4, 2) := by decide +kernel
theorem dX10_does_23 : decode cX10_does 23 = .ok (.iload_n 1, 1) := by decide +kernel
theorem dX10_does_24 : decode cX10_does 24 = .ok (.bipush 10, 2) := by decide +kernel
theorem dX10_does_26 : decode cX10_does 26 = .ok (.irem, 1) := by decide +kernel
theorem dX10_does_27 : decode cX10_does 27 = .ok (.istore 5, 2) := by decide +kernel
theorem dX10_does_29 : decode cX10_does 29 = .ok (.iload_n 3, 1) := by decide +kernel
theorem dX10_does_30 : decode cX10_does 30 = .ok (.aload_n 0, 1) := by decide +kernel
theorem dX10_does_31 : decode cX10_does 31 = .ok (.getfield 38, 3) := by decide +kernel
theorem dX10_does_34 : decode cX10_does 34 = .ok (.iconst 1, 1) := by decide +kernel
theorem dX10_does_35 : decode cX10_does 35 = .ok (.iaload, 1) := by decide +kernel
theorem dX10_does_36 : decode cX10_does 36 = .ok (.if_icmp .ge 7, 3) := by decide +kernel
theorem dX10_does_39 : decode cX10_does 39 = .ok (.iconst 1, 1) := by decide +kernel
theorem dX10_does_40 : decode cX10_does 40 = .ok (.goto 4, 3) := by decide +kernel
theorem dX10_does_43 : decode cX10_does 43 = .ok (.iconst 0, 1) := by decide +kernel
theorem dX10_does_44 : decode cX10_does 44 = .ok (.istore 6, 2) := by decide +kernel
theorem dX10_does_46 : decode cX10_does 46 = .ok (.iload_n 3, 1) := by decide +kernel
theorem dX10_does_47 : decode cX10_does 47 = .ok (.aload_n 0, 1) := by decide +kernel
theorem dX10_does_48 : decode cX10_does 48 = .ok (.getfield 38, 3) := by decide +kernel
theorem dX10_does_51 : decode cX10_does 51 = .ok (.iconst 0, 1) := by decide +kernel
theorem dX10_does_52 : decode cX10_does 52 = .ok (.iaload, 1) := by decide +kernel
theorem dX10_does_53 : decode cX10_does 53 = .ok (.if_icmp .ge 7, 3) := by decide +kernel
theorem dX10_does_56 : decode cX10_does 56 = .ok (.iconst 1, 1) := by decide +kernel
theorem dX10_does_57 : decode cX10_does 57 = .ok (.goto 4, 3) := by decide +kernel
theorem dX10_does_60 : decode cX10_does 60 = .ok (.iconst 0, 1) := by decide +kernel
theorem dX10_does_61 : decode cX10_does 61 = .ok (.istore 7, 2) := by decide +kernel
theorem dX10_does_63 : decode cX10_does 63 = .ok (.iload 6, 2) := by decide +kernel
theorem dX10_does_65 : decode cX10_does 65 = .ok (.ifCond .eq 23, 3) := by decide +kernel
theorem dX10_does_68 : decode cX10_does 68 = .ok (.iload 4, 2) := by decide +kernel
theorem dX10_does_70 : decode cX10_does 70 = .ok (.aload_n 0, 1) := by decide +kernel
theorem dX10_does_71 : decode cX10_does 71 = .ok (.getfield 38, 3) := by decide +kernel
theorem dX10_does_74 : decode cX10_does 74 = .ok (.iconst 0, 1) := by decide +kernel
theorem dX10_does_75 : decode cX10_does 75 = .ok (.iaload, 1) := by decide +kernel
theorem dX10_does_76 : decode cX10_does 76 = .ok (.if_icmp .ge 12, 3) := by decide +kernel
theorem dX10_does_79 : decode cX10_does 79 = .ok (.iload 5, 2) := by decide +kernel
theorem dX10_does_81 : decode cX10_does 81 = .ok (.ifCond .ne 7, 3) := by decide +kernel
theorem dX10_does_84 : decode cX10_does 84 = .ok (.iconst 1, 1) := by decide +kernel
theorem dX10_does_85 : decode cX10_does 85 = .ok (.goto 4, 3) := by decide +kernel
theorem dX10_does_88 : decode cX10_does 88 = .ok (.iconst 0, 1) := by decide +kernel
theorem dX10_does_89 : decode cX10_does 89 = .ok (.istore 8, 2) := by decide +kernel
theorem dX10_does_91 : decode cX10_does 91 = .ok (.iload 4, 2) := by decide +kernel
theorem dX10_does_93 : decode cX10_does 93 = .ok (.ifCond .ne 12, 3) := by decide +kernel
theorem dX10_does_96 : decode cX10_does 96 = .ok (.iload 5, 2) := by decide +kernel
theorem dX10_does_98 : decode cX10_does 98 = .ok (.ifCond .ne 7, 3) := by decide +kernel
theorem dX10_does_101 : decode cX10_does 101 = .ok (.iconst 1, 1) := by decide +kernel
theorem dX10_does_102 : decode cX10_does 102 = .ok (.goto 4, 3) := by decide +kernel
theorem dX10_does_105 : decode cX10_does 105 = .ok (.iconst 0, 1) := by decide +kernel
theorem dX10_does_106 : decode cX10_does 106 = .ok (.istore 9, 2) := by decide +kernel
theorem dX10_does_108 : decode cX10_does 108 = .ok (.iload_n 2, 1) := by decide +kernel
theorem dX10_does_109 : decode cX10_does 109 = .ok (.tableswitch 323 1 9 #[51, 90, 130, 153, 175, 203, 235, 270, 292], 51) := by decide +kernel
theorem dX10_does_160 : decode cX10_does 160 = .ok (.iload 8, 2) := by decide +kernel
theorem dX10_does_162 : decode cX10_does 162 = .ok (.ifCond .eq 23, 3) := by decide +kernel
theorem dX10_does_165 : decode cX10_does 165 = .ok (.aload_n 0, 1) := by decide +kernel
theorem dX10_does_166 : decode cX10_does 166 = .ok (.getfield 38, 3) := by decide +kernel
theorem dX10_does_169 : decode cX10_does 169 = .ok (.aload_n 0, 1) := by decide +kernel
theorem dX10_does_170 : decode cX10_does 170 = .ok (.getfield 38, 3) := by decide +kernel
theorem dX10_does_173 : decode cX10_does 173 = .ok (.iload_n 3, 1) := by decide +kernel
theorem dX10_does_174 : decode cX10_does 174 = .ok (.invokestatic 104, 3) := by decide +kernel
theorem dX10_does_177 : decode cX10_does 177 = .ok (.iload 4, 2) := by decide +kernel
theorem dX10_does_179 : decode cX10_does 179 = .ok (.invokestatic 98, 3) := by decide +kernel
theorem dX10_does_182 : decode cX10_does 182 = .ok (.ifCond .ne 5, 3) := by decide +kernel
theorem dX10_does_185 : decode cX10_does 185 = .ok (.iconst 0, 1) := by decide +kernel
theorem dX10_does_186 : decode cX10_does 186 = .ok (.ireturn, 1) := by decide +kernel
theorem dX10_does_187 : decode cX10_does 187 = .ok (.aload_n 0, 1) := by decide +kernel
theorem dX10_does_188 : decode cX10_does 188 = .ok (.getfield 38, 3) := by decide +kernel
theorem dX10_does_191 : decode cX10_does 191 = .ok (.iload_n 3, 1) := by decide +kernel
theorem dX10_does_192 : decode cX10_does 192 = .ok (.iload 4, 2) := by decide +kernel
theorem dX10_does_194 : decode cX10_does 194 = .ok (.invokestatic 239, 3) := by decide +kernel
theorem dX10_does_197 : decode cX10_does 197 = .ok (.iconst 1, 1) := by decide +kernel
theorem dX10_does_198 : decode cX10_does 198 = .ok (.ireturn, 1) := by decide +kernel
theorem dX10_does_199 : decode cX10_does 199 = .ok (.iload 6, 2) := by decide +kernel
theorem dX10_does_201 : decode cX10_does 201 = .ok (.ifCond .eq 20, 3) := by decide +kernel
theorem dX10_does_204 : decode cX10_does 204 = .ok (.iload 9, 2) := by decide +kernel
theorem dX10_does_206 : decode cX10_does 206 = .ok (.ifCond .eq 15, 3) := by decide +kernel
theorem dX10_does_209 : decode cX10_does 209 = .ok (.aload_n 0, 1) := by decide +kernel
theorem dX10_does_210 : decode cX10_does 210 = .ok (.aload_n 0, 1) := by decide +kernel
theorem dX10_does_211 : decode cX10_does 211 = .ok (.getfield 38, 3) := by decide +kernel
theorem dX10_does_214 : decode cX10_does 214 = .ok (.iload_n 3, 1) := by decide +kernel
theorem dX10_does_215 : decode cX10_does 215 = .ok (.invokevirtual 243, 3) := by decide +kernel
theorem dX10_does_218 : decode cX10_does 218 = .ok (.ifCond .ne 5, 3) := by decide +kernel
theorem dX10_does_221 : decode cX10_does 221 = .ok (.iconst 0, 1) := by decide +kernel
theorem dX10_does_222 : decode cX10_does 222 = .ok (.ireturn, 1) := by decide +kernel
theorem dX10_does_223 : decode cX10_does 223 = .ok (.aload_n 0, 1) := by decide +kernel
theorem dX10_does_224 : decode cX10_does 224 = .ok (.getfield 38, 3) := by decide +kernel
theorem dX10_does_227 : decode cX10_does 227 = .ok (.iload_n 3, 1) := by decide +kernel
theorem dX10_does_228 : decode cX10_does 228 = .ok (.iconst 2, 1) := by decide +kernel
theorem dX10_does_229 : decode cX10_does 229 = .ok (.invokestatic 101, 3) := by decide +kernel
theorem dX10_does_232 : decode cX10_does 232 = .ok (.dup2, 1) := by decide +kernel
theorem dX10_does_233 : decode cX10_does 233 = .ok (.iaload, 1) := by decide +kernel
theorem dX10_does_234 : decode cX10_does 234 = .ok (.iconst 1, 1) := by decide +kernel
theorem dX10_does_235 : decode cX10_does 235 = .ok (.iadd, 1) := by decide +kernel
theorem dX10_does_236 : decode cX10_does 236 = .ok (.iastore, 1) := by decide +kernel
theorem dX10_does_237 : decode cX10_does 237 = .ok (.iconst 1, 1) := by decide +kernel
theorem dX10_does_238 : decode cX10_does 238 = .ok (.ireturn, 1) := by decide +kernel
theorem dX10_does_239 : decode cX10_does 239 = .ok (.iload_n 1, 1) := by decide +kernel
theorem dX10_does_240 : decode cX10_does 240 = .ok (.sipush 3000, 3) := by decide +kernel
theorem dX10_does_243 : decode cX10_does 243 = .ok (.if_icmp .ne 17, 3) := by decide +kernel
theorem dX10_does_246 : decode cX10_does 246 = .ok (.aload_n 0, 1) := by decide +kernel
theorem dX10_does_247 : decode cX10_does 247 = .ok (.getfield 38, 3) := by decide +kernel
theorem dX10_does_250 : decode cX10_does 250 = .ok (.invokestatic 235, 3) := by decide +kernel
theorem dX10_does_253 : decode cX10_does 253 = .ok (.ifCond .eq 7, 3) := by decide +kernel
theorem dX10_does_256 : decode cX10_does 256 = .ok (.iconst 1, 1) := by decide +kernel
theorem dX10_does_257 : decode cX10_does 257 = .ok (.goto 4, 3) := by decide +kernel
theorem dX10_does_260 : decode cX10_does 260 = .ok (.iconst 0, 1) := by decide +kernel
theorem dX10_does_261 : decode cX10_does 261 = .ok (.ireturn, 1) := by decide +kernel
theorem dX10_does_262 : decode cX10_does 262 = .ok (.iload 6, 2) := by decide +kernel
theorem dX10_does_264 : decode cX10_does 264 = .ok (.ifCond .eq 8, 3) := by decide +kernel
theorem dX10_does_267 : decode cX10_does 267 = .ok (.iload 9, 2) := by decide +kernel
theorem dX10_does_269 : decode cX10_does 269 = .ok (.ifCond .ne 5, 3) := by decide +kernel
theorem dX10_does_272 : decode cX10_does 272 = .ok (.iconst 0, 1) := by decide +kernel
theorem dX10_does_273 : decode cX10_does 273 = .ok (.ireturn, 1) := by decide +kernel
theorem dX10_does_274 : decode cX10_does 274 = .ok (.aload_n 0, 1) := by decide +kernel
theorem dX10_does_275 : decode cX10_does 275 = .ok (.getfield 38, 3) := by decide +kernel
theorem dX10_does_278 : decode cX10_does 278 = .ok (.iload_n 3, 1) := by decide +kernel
theorem dX10_does_279 : decode cX10_does 279 = .ok (.invokestatic 249, 3) := by decide +kernel
theorem dX10_does_282 : decode cX10_does 282 = .ok (.iconst 1, 1) := by decide +kernel
theorem dX10_does_283 : decode cX10_does 283 = .ok (.ireturn, 1) := by decide +kernel
theorem dX10_does_284 : decode cX10_does 284 = .ok (.iload 8, 2) := by decide +kernel
theorem dX10_does_286 : decode cX10_does 286 = .ok (.ifCond .eq 24, 3) := by decide +kernel
theorem dX10_does_289 : decode cX10_does 289 = .ok (.aload_n 0, 1) := by decide +kernel
theorem dX10_does_290 : decode cX10_does 290 = .ok (.aload_n 0, 1) := by decide +kernel
theorem dX10_does_291 : decode cX10_does 291 = .ok (.getfield 38, 3) := by decide +kernel
theorem dX10_does_294 : decode cX10_does 294 = .ok (.iload_n 3, 1) := by decide +kernel
theorem dX10_does_295 : decode cX10_does 295 = .ok (.invokevirtual 243, 3) := by decide +kernel
theorem dX10_does_298 : decode cX10_does 298 = .ok (.iload 4, 2) := by decide +kernel
theorem dX10_does_300 : decode cX10_does 300 = .ok (.invokestatic 65, 3) := by decide +kernel
theorem dX10_does_303 : decode cX10_does 303 = .ok (.ifCond .eq 7, 3) := by decide +kernel
theorem dX10_does_306 : decode cX10_does 306 = .ok (.iconst 1, 1) := by decide +kernel
theorem dX10_does_307 : decode cX10_does 307 = .ok (.goto 4, 3) := by decide +kernel
theorem dX10_does_310 : decode cX10_does 310 = .ok (.iconst 0, 1) := by decide +kernel
theorem dX10_does_311 : decode cX10_does 311 = .ok (.ireturn, 1) := by decide +kernel
theorem dX10_does_312 : decode cX10_does 312 = .ok (.iload 6, 2) := by decide +kernel
theorem dX10_does_314 : decode cX10_does 314 = .ok (.ifCond .eq 28, 3) := by decide +kernel
theorem dX10_does_317 : decode cX10_does 317 = .ok (.aload_n 0, 1) := by decide +kernel
theorem dX10_does_318 : decode cX10_does 318 = .ok (.getfield 38, 3) := by decide +kernel
theorem dX10_does_321 : decode cX10_does 321 = .ok (.iload_n 3, 1) := by decide +kernel
theorem dX10_does_322 : decode cX10_does 322 = .ok (.iconst 1, 1) := by decide +kernel
theorem dX10_does_323 : decode cX10_does 323 = .ok (.invokestatic 101, 3) := by decide +kernel
theorem dX10_does_326 : decode cX10_does 326 = .ok (.iaload, 1) := by decide +kernel
theorem dX10_does_327 : decode cX10_does 327 = .ok (.bipush 10, 2) := by decide +kernel
theorem dX10_does_329 : decode cX10_does 329 = .ok (.iload 4, 2) := by decide +kernel
theorem dX10_does_331 : decode cX10_does 331 = .ok (.imul, 1) := by decide +kernel
theorem dX10_does_332 : decode cX10_does 332 = .ok (.iload 5, 2) := by decide +kernel
theorem dX10_does_334 : decode cX10_does 334 = .ok (.iadd, 1) := by decide +kernel
theorem dX10_does_335 : decode cX10_does 335 = .ok (.if_icmp .gt 7, 3) := by decide +kernel
theorem dX10_does_338 : decode cX10_does 338 = .ok (.iconst 1, 1) := by decide +kernel
theorem dX10_does_339 : decode cX10_does 339 = .ok (.goto 4, 3) := by decide +kernel
theorem dX10_does_342 : decode cX10_does 342 = .ok (.iconst 0, 1) := by decide +kernel
theorem dX10_does_343 : decode cX10_does 343 = .ok (.ireturn, 1) := by decide +kernel
theorem dX10_does_344 : decode cX10_does 344 = .ok (.iload 7, 2) := by decide +kernel
theorem dX10_does_346 : decode cX10_does 346 = .ok (.ifCond .ne 5, 3) := by decide +kernel
theorem dX10_does_349 : decode cX10_does 349 = .ok (.iconst 0, 1) := by decide +kernel
theorem dX10_does_350 : decode cX10_does 350 = .ok (.ireturn, 1) := by decide +kernel
theorem dX10_does_351 : decode cX10_does 351 = .ok (.aload_n 0, 1) := by decide +kernel
theorem dX10_does_352 : decode cX10_does 352 = .ok (.getfield 38, 3) := by decide +kernel
theorem dX10_does_355 : decode cX10_does 355 = .ok (.iconst 2, 1) := by decide +kernel
theorem dX10_does_356 : decode cX10_does 356 = .ok (.iconst 2, 1) := by decide +kernel
theorem dX10_does_357 : decode cX10_does 357 = .ok (.iload_n 3, 1) := by decide +kernel
theorem dX10_does_358 : decode cX10_does 358 = .ok (.imul, 1) := by decide +kernel
theorem dX10_does_359 : decode cX10_does 359 = .ok (.iadd, 1) := by decide +kernel
theorem dX10_does_360 : decode cX10_does 360 = .ok (.iload 4, 2) := by decide +kernel
theorem dX10_does_362 : decode cX10_does 362 = .ok (.iastore, 1) := by decide +kernel
theorem dX10_does_363 : decode cX10_does 363 = .ok (.aload_n 0, 1) := by decide +kernel
theorem dX10_does_364 : decode cX10_does 364 = .ok (.getfield 38, 3) := by decide +kernel
theorem dX10_does_367 : decode cX10_does 367 = .ok (.iconst 2, 1) := by decide +kernel
theorem dX10_does_368 : decode cX10_does 368 = .ok (.iconst 2, 1) := by decide +kernel
theorem dX10_does_369 : decode cX10_does 369 = .ok (.iload_n 3, 1) := by decide +kernel
theorem dX10_does_370 : decode cX10_does 370 = .ok (.imul, 1) := by decide +kernel
theorem dX10_does_371 : decode cX10_does 371 = .ok (.iadd, 1) := by decide +kernel
theorem dX10_does_372 : decode cX10_does 372 = .ok (.iconst 1, 1) := by decide +kernel
theorem dX10_does_373 : decode cX10_does 373 = .ok (.iadd, 1) := by decide +kernel
theorem dX10_does_374 : decode cX10_does 374 = .ok (.iload 5, 2) := by decide +kernel
theorem dX10_does_376 : decode cX10_does 376 = .ok (.iastore, 1) := by decide +kernel
theorem dX10_does_377 : decode cX10_does 377 = .ok (.iconst 1, 1) := by decide +kernel
theorem dX10_does_378 : decode cX10_does 378 = .ok (.ireturn, 1) := by decide +kernel
theorem dX10_does_379 : decode cX10_does 379 = .ok (.iload 7, 2) := by decide +kernel
theorem dX10_does_381 : decode cX10_does 381 = .ok (.ifCond .eq 8, 3) := by decide +kernel
theorem dX10_does_384 : decode cX10_does 384 = .ok (.iload 9, 2) := by decide +kernel
theorem dX10_does_386 : decode cX10_does 386 = .ok (.ifCond .ne 5, 3) := by decide +kernel
theorem dX10_does_389 : decode cX10_does 389 = .ok (.iconst 0, 1) := by decide +kernel
theorem dX10_does_390 : decode cX10_does 390 = .ok (.ireturn, 1) := by decide +kernel
theorem dX10_does_391 : decode cX10_does 391 = .ok (.aload_n 0, 1) := by decide +kernel
theorem dX10_does_392 : decode cX10_does 392 = .ok (.getfield 38, 3) := by decide +kernel
theorem dX10_does_395 : decode cX10_does 395 = .ok (.iload_n 3, 1) := by decide +kernel
theorem dX10_does_396 : decode cX10_does 396 = .ok (.invokestatic 252, 3) := by decide +kernel
theorem dX10_does_399 : decode cX10_does 399 = .ok (.iconst 1, 1) := by decide +kernel
theorem dX10_does_400 : decode cX10_does 400 = .ok (.ireturn, 1) := by decide +kernel
theorem dX10_does_401 : decode cX10_does 401 = .ok (.iload 6, 2) := by decide +kernel
theorem dX10_does_403 : decode cX10_does 403 = .ok (.ifCond .eq 27, 3) := by decide +kernel
theorem dX10_does_406 : decode cX10_does 406 = .ok (.iload 5, 2) := by decide +kernel
theorem dX10_does_408 : decode cX10_does 408 = .ok (.ifCond .ne 22, 3) := by decide +kernel
theorem dX10_does_411 : decode cX10_does 411 = .ok (.aload_n 0, 1) := by decide +kernel
theorem dX10_does_412 : decode cX10_does 412 = .ok (.getfield 38, 3) := by decide +kernel
theorem dX10_does_415 : decode cX10_does 415 = .ok (.iload_n 3, 1) := by decide +kernel
theorem dX10_does_416 : decode cX10_does 416 = .ok (.iconst 0, 1) := by decide +kernel
theorem dX10_does_417 : decode cX10_does 417 = .ok (.invokestatic 101, 3) := by decide +kernel
theorem dX10_does_420 : decode cX10_does 420 = .ok (.iaload, 1) := by decide +kernel
theorem dX10_does_421 : decode cX10_does 421 = .ok (.iload 4, 2) := by decide +kernel
theorem dX10_does_423 : decode cX10_does 423 = .ok (.if_icmp .lt 7, 3) := by decide +kernel
theorem dX10_does_426 : decode cX10_does 426 = .ok (.iconst 1, 1) := by decide +kernel
theorem dX10_does_427 : decode cX10_does 427 = .ok (.goto 4, 3) := by decide +kernel
theorem dX10_does_430 : decode cX10_does 430 = .ok (.iconst 0, 1) := by decide +kernel
theorem dX10_does_431 : decode cX10_does 431 = .ok (.ireturn, 1) := by decide +kernel
theorem dX10_does_432 : decode cX10_does 432 = .ok (.iconst 0, 1) := by decide +kernel
theorem dX10_does_433 : decode cX10_does 433 = .ok (.ireturn, 1) := by decide +kernel
theorem dX10_runScript_0 : decode cX10_runScript 0 = .ok (.iload_n 1, 1) := by decide +kernel
theorem dX10_runScript_1 : decode cX10_runScript 1 = .ok (.i2l, 1) := by decide +kernel
theorem dX10_runScript_2 : decode cX10_runScript 2 = .ok (.lconst 1, 1) := by decide +kernel
theorem dX10_runScript_3 : decode cX10_runScript 3 = .ok (.ldc2_w 268, 3) := by decide +kernel
theorem dX10_runScript_6 : decode cX10_runScript 6 = .ok (.invokestatic 139, 3) := by decide +kernel
theorem dX10_runScript_9 : decode cX10_runScript 9 = .ok (.istore 4, 2) := by decide +kernel
theorem dX10_runScript_11 : decode cX10_runScript 11 = .ok (.aload_n 0, 1) := by decide +kernel
theorem dX10_runScript_12 : decode cX10_runScript 12 = .ok (.iload 4, 2) := by decide +kernel
theorem dX10_runScript_14 : decode cX10_runScript 14 = .ok (.ifCond .eq 32, 3) := by decide +kernel
theorem dX10_runScript_17 : decode cX10_runScript 17 = .ok (.lload_n 2, 1) := by decide +kernel
theorem dX10_runScript_18 : decode cX10_runScript 18 = .ok (.lconst 0, 1) := by decide +kernel
theorem dX10_runScript_19 : decode cX10_runScript 19 = .ok (.iload 4, 2) := by decide +kernel
theorem dX10_runScript_21 : decode cX10_runScript 21 = .ok (.ifCond .eq 9, 3) := by decide +kernel
theorem dX10_runScript_24 : decode cX10_runScript 24 = .ok (.iconst 4, 1) := by decide +kernel
theorem dX10_runScript_25 : decode cX10_runScript 25 = .ok (.iload_n 1, 1) := by decide +kernel
theorem dX10_runScript_26 : decode cX10_runScript 26 = .ok (.imul, 1) := by decide +kernel
theorem dX10_runScript_27 : decode cX10_runScript 27 = .ok (.goto 4, 3) := by decide +kernel
theorem dX10_runScript_30 : decode cX10_runScript 30 = .ok (.iconst 0, 1) := by decide +kernel
theorem dX10_runScript_31 : decode cX10_runScript 31 = .ok (.invokestatic 270, 3) := by decide +kernel
theorem dX10_runScript_34 : decode cX10_runScript 34 = .ok (.lconst 1, 1) := by decide +kernel
theorem dX10_runScript_35 : decode cX10_runScript 35 = .ok (.lsub, 1) := by decide +kernel
theorem dX10_runScript_36 : decode cX10_runScript 36 = .ok (.invokestatic 139, 3) := by decide +kernel
theorem dX10_runScript_39 : decode cX10_runScript 39 = .ok (.ifCond .eq 7, 3) := by decide +kernel
theorem dX10_runScript_42 : decode cX10_runScript 42 = .ok (.iconst 0, 1) := by decide +kernel
theorem dX10_runScript_43 : decode cX10_runScript 43 = .ok (.goto 4, 3) := by decide +kernel
theorem dX10_runScript_46 : decode cX10_runScript 46 = .ok (.iconst 1, 1) := by decide +kernel
theorem dX10_runScript_47 : decode cX10_runScript 47 = .ok (.invokevirtual 146, 3) := by decide +kernel
theorem dX10_runScript_50 : decode cX10_runScript 50 = .ok (.ifCond .eq 5, 3) := by decide +kernel
theorem dX10_runScript_53 : decode cX10_runScript 53 = .ok (.iconst 0, 1) := by decide +kernel
theorem dX10_runScript_54 : decode cX10_runScript 54 = .ok (.ireturn, 1) := by decide +kernel
theorem dX10_runScript_55 : decode cX10_runScript 55 = .ok (.aload_n 0, 1) := by decide +kernel
theorem dX10_runScript_56 : decode cX10_runScript 56 = .ok (.invokevirtual 265, 3) := by decide +kernel
theorem dX10_runScript_59 : decode cX10_runScript 59 = .ok (.iconst 0, 1) := by decide +kernel
theorem dX10_runScript_60 : decode cX10_runScript 60 = .ok (.istore 5, 2) := by decide +kernel
theorem dX10_runScript_62 : decode cX10_runScript 62 = .ok (.iload 5, 2) := by decide +kernel
theorem dX10_runScript_64 : decode cX10_runScript 64 = .ok (.iload_n 1, 1) := by decide +kernel
theorem dX10_runScript_65 : decode cX10_runScript 65 = .ok (.if_icmp .ge 37, 3) := by decide +kernel
theorem dX10_runScript_68 : decode cX10_runScript 68 = .ok (.aload_n 0, 1) := by decide +kernel
theorem dX10_runScript_69 : decode cX10_runScript 69 = .ok (.lload_n 2, 1) := by decide +kernel
theorem dX10_runScript_70 : decode cX10_runScript 70 = .ok (.iconst 4, 1) := by decide +kernel
theorem dX10_runScript_71 : decode cX10_runScript 71 = .ok (.iload_n 1, 1) := by decide +kernel
theorem dX10_runScript_72 : decode cX10_runScript 72 = .ok (.iconst 1, 1) := by decide +kernel
theorem dX10_runScript_73 : decode cX10_runScript 73 = .ok (.isub, 1) := by decide +kernel
theorem dX10_runScript_74 : decode cX10_runScript 74 = .ok (.iload 5, 2) := by decide +kernel
theorem dX10_runScript_76 : decode cX10_runScript 76 = .ok (.isub, 1) := by decide +kernel
theorem dX10_runScript_77 : decode cX10_runScript 77 = .ok (.imul, 1) := by decide +kernel
theorem dX10_runScript_78 : decode cX10_runScript 78 = .ok (.invokestatic 270, 3) := by decide +kernel
theorem dX10_runScript_81 : decode cX10_runScript 81 = .ok (.ldiv, 1) := by decide +kernel
theorem dX10_runScript_82 : decode cX10_runScript 82 = .ok (.ldc2_w 274, 3) := by decide +kernel
theorem dX10_runScript_85 : decode cX10_runScript 85 = .ok (.lrem, 1) := by decide +kernel
theorem dX10_runScript_86 : decode cX10_runScript 86 = .ok (.l2i, 1) := by decide +kernel
theorem dX10_runScript_87 : decode cX10_runScript 87 = .ok (.invokevirtual 276, 3) := by decide +kernel
theorem dX10_runScript_90 : decode cX10_runScript 90 = .ok (.ifCond .ne 6, 3) := by decide +kernel
theorem dX10_runScript_93 : decode cX10_runScript 93 = .ok (.iload 5, 2) := by decide +kernel
theorem dX10_runScript_95 : decode cX10_runScript 95 = .ok (.ireturn, 1) := by decide +kernel
theorem dX10_runScript_96 : decode cX10_runScript 96 = .ok (.iinc 5 1, 3) := by decide +kernel
theorem dX10_runScript_99 : decode cX10_runScript 99 = .ok (.goto (-37), 3) := by decide +kernel
theorem dX10_runScript_102 : decode cX10_runScript 102 = .ok (.bipush (-9), 2) := by decide +kernel
theorem dX10_runScript_104 : decode cX10_runScript 104 = .ok (.ireturn, 1) := by decide +kernel
theorem dX10_nth_0 : decode cX10_nth 0 = .ok (.iload_n 1, 1) := by decide +kernel
theorem dX10_nth_1 : decode cX10_nth 1 = .ok (.istore_n 2, 1) := by decide +kernel
theorem dX10_nth_2 : decode cX10_nth 2 = .ok (.iconst 0, 1) := by decide +kernel
theorem dX10_nth_3 : decode cX10_nth 3 = .ok (.istore_n 3, 1) := by decide +kernel
theorem dX10_nth_4 : decode cX10_nth 4 = .ok (.iload_n 0, 1) := by decide +kernel
theorem dX10_nth_5 : decode cX10_nth 5 = .ok (.iload_n 3, 1) := by decide +kernel
theorem dX10_nth_6 : decode cX10_nth 6 = .ok (.invokestatic 65, 3) := by decide +kernel
theorem dX10_nth_9 : decode cX10_nth 9 = .ok (.ifCond .eq 7, 3) := by decide +kernel
theorem dX10_nth_12 : decode cX10_nth 12 = .ok (.iload_n 2, 1) := by decide +kernel
theorem dX10_nth_13 : decode cX10_nth 13 = .ok (.ifCond .le 25, 3) := by decide +kernel
theorem dX10_nth_16 : decode cX10_nth 16 = .ok (.iload_n 2, 1) := by decide +kernel
theorem dX10_nth_17 : decode cX10_nth 17 = .ok (.iload_n 0, 1) := by decide +kernel
theorem dX10_nth_18 : decode cX10_nth 18 = .ok (.iload_n 3, 1) := by decide +kernel
theorem dX10_nth_19 : decode cX10_nth 19 = .ok (.invokestatic 65, 3) := by decide +kernel
theorem dX10_nth_22 : decode cX10_nth 22 = .ok (.ifCond .eq 7, 3) := by decide +kernel
theorem dX10_nth_25 : decode cX10_nth 25 = .ok (.iconst 1, 1) := by decide +kernel
theorem dX10_nth_26 : decode cX10_nth 26 = .ok (.goto 4, 3) := by decide +kernel
theorem dX10_nth_29 : decode cX10_nth 29 = .ok (.iconst 0, 1) := by decide +kernel
theorem dX10_nth_30 : decode cX10_nth 30 = .ok (.isub, 1) := by decide +kernel
theorem dX10_nth_31 : decode cX10_nth 31 = .ok (.istore_n 2, 1) := by decide +kernel
theorem dX10_nth_32 : decode cX10_nth 32 = .ok (.iinc 3 1, 3) := by decide +kernel
theorem dX10_nth_35 : decode cX10_nth 35 = .ok (.goto (-31), 3) := by decide +kernel
theorem dX10_nth_38 : decode cX10_nth 38 = .ok (.iload_n 3, 1) := by decide +kernel
theorem dX10_nth_39 : decode cX10_nth 39 = .ok (.ireturn, 1) := by decide +kernel
theorem dX10_simulate_0 : decode cX10_simulate 0 = .ok (.aload_n 0, 1) := by decide +kernel
theorem dX10_simulate_1 : decode cX10_simulate 1 = .ok (.iload_n 3, 1) := by decide +kernel
theorem dX10_simulate_2 : decode cX10_simulate 2 = .ok (.i2l, 1) := by decide +kernel
theorem dX10_simulate_3 : decode cX10_simulate 3 = .ok (.lconst 1, 1) := by decide +kernel
theorem dX10_simulate_4 : decode cX10_simulate 4 = .ok (.ldc2_w 279, 3) := by decide +kernel
theorem dX10_simulate_7 : decode cX10_simulate 7 = .ok (.invokestatic 139, 3) := by decide +kernel
theorem dX10_simulate_10 : decode cX10_simulate 10 = .ok (.ifCond .eq 7, 3) := by decide +kernel
theorem dX10_simulate_13 : decode cX10_simulate 13 = .ok (.iconst 0, 1) := by decide +kernel
theorem dX10_simulate_14 : decode cX10_simulate 14 = .ok (.goto 4, 3) := by decide +kernel
theorem dX10_simulate_17 : decode cX10_simulate 17 = .ok (.iconst 1, 1) := by decide +kernel
theorem dX10_simulate_18 : decode cX10_simulate 18 = .ok (.invokevirtual 146, 3) := by decide +kernel
theorem dX10_simulate_21 : decode cX10_simulate 21 = .ok (.ifCond .eq 5, 3) := by decide +kernel
theorem dX10_simulate_24 : decode cX10_simulate 24 = .ok (.iconst 0, 1) := by decide +kernel
theorem dX10_simulate_25 : decode cX10_simulate 25 = .ok (.ireturn, 1) := by decide +kernel
theorem dX10_simulate_26 : decode cX10_simulate 26 = .ok (.aload_n 0, 1) := by decide +kernel
theorem dX10_simulate_27 : decode cX10_simulate 27 = .ok (.invokevirtual 265, 3) := by decide +kernel
theorem dX10_simulate_30 : decode cX10_simulate 30 = .ok (.lload_n 1, 1) := by decide +kernel
theorem dX10_simulate_31 : decode cX10_simulate 31 = .ok (.lstore 4, 2) := by decide +kernel
theorem dX10_simulate_33 : decode cX10_simulate 33 = .ok (.iconst 0, 1) := by decide +kernel
theorem dX10_simulate_34 : decode cX10_simulate 34 = .ok (.istore 6, 2) := by decide +kernel
theorem dX10_simulate_36 : decode cX10_simulate 36 = .ok (.iconst 0, 1) := by decide +kernel
theorem dX10_simulate_37 : decode cX10_simulate 37 = .ok (.istore 7, 2) := by decide +kernel
theorem dX10_simulate_39 : decode cX10_simulate 39 = .ok (.iconst 0, 1) := by decide +kernel
theorem dX10_simulate_40 : decode cX10_simulate 40 = .ok (.istore 8, 2) := by decide +kernel
theorem dX10_simulate_42 : decode cX10_simulate 42 = .ok (.iload 8, 2) := by decide +kernel
theorem dX10_simulate_44 : decode cX10_simulate 44 = .ok (.iload_n 3, 1) := by decide +kernel
theorem dX10_simulate_45 : decode cX10_simulate 45 = .ok (.if_icmp .ge 144, 3) := by decide +kernel
theorem dX10_simulate_48 : decode cX10_simulate 48 = .ok (.aload_n 0, 1) := by decide +kernel
theorem dX10_simulate_49 : decode cX10_simulate 49 = .ok (.getfield 38, 3) := by decide +kernel
theorem dX10_simulate_52 : decode cX10_simulate 52 = .ok (.iconst 0, 1) := by decide +kernel
theorem dX10_simulate_53 : decode cX10_simulate 53 = .ok (.invokestatic 229, 3) := by decide +kernel
theorem dX10_simulate_56 : decode cX10_simulate 56 = .ok (.aload_n 0, 1) := by decide +kernel
theorem dX10_simulate_57 : decode cX10_simulate 57 = .ok (.getfield 38, 3) := by decide +kernel
theorem dX10_simulate_60 : decode cX10_simulate 60 = .ok (.iconst 0, 1) := by decide +kernel
theorem dX10_simulate_61 : decode cX10_simulate 61 = .ok (.invokestatic 119, 3) := by decide +kernel
theorem dX10_simulate_64 : decode cX10_simulate 64 = .ok (.istore 9, 2) := by decide +kernel
theorem dX10_simulate_66 : decode cX10_simulate 66 = .ok (.iload 9, 2) := by decide +kernel
theorem dX10_simulate_68 : decode cX10_simulate 68 = .ok (.ifCond .eq 64, 3) := by decide +kernel
theorem dX10_simulate_71 : decode cX10_simulate 71 = .ok (.lload 4, 2) := by decide +kernel
theorem dX10_simulate_73 : decode cX10_simulate 73 = .ok (.ldc2_w 281, 3) := by decide +kernel
theorem dX10_simulate_76 : decode cX10_simulate 76 = .ok (.lmul, 1) := by decide +kernel
theorem dX10_simulate_77 : decode cX10_simulate 77 = .ok (.ldc2_w 283, 3) := by decide +kernel
theorem dX10_simulate_80 : decode cX10_simulate 80 = .ok (.ladd, 1) := by decide +kernel
theorem dX10_simulate_81 : decode cX10_simulate 81 = .ok (.lstore 4, 2) := by decide +kernel
theorem dX10_simulate_83 : decode cX10_simulate 83 = .ok (.lload 4, 2) := by decide +kernel
theorem dX10_simulate_85 : decode cX10_simulate 85 = .ok (.bipush 33, 2) := by decide +kernel
theorem dX10_simulate_87 : decode cX10_simulate 87 = .ok (.lushr, 1) := by decide +kernel
theorem dX10_simulate_88 : decode cX10_simulate 88 = .ok (.l2i, 1) := by decide +kernel
theorem dX10_simulate_89 : decode cX10_simulate 89 = .ok (.istore 10, 2) := by decide +kernel
theorem dX10_simulate_91 : decode cX10_simulate 91 = .ok (.aload_n 0, 1) := by decide +kernel
theorem dX10_simulate_92 : decode cX10_simulate 92 = .ok (.getfield 38, 3) := by decide +kernel
theorem dX10_simulate_95 : decode cX10_simulate 95 = .ok (.iconst 0, 1) := by decide +kernel
theorem dX10_simulate_96 : decode cX10_simulate 96 = .ok (.iload 9, 2) := by decide +kernel
theorem dX10_simulate_98 : decode cX10_simulate 98 = .ok (.iload 10, 2) := by decide +kernel
theorem dX10_simulate_100 : decode cX10_simulate 100 = .ok (.iload 9, 2) := by decide +kernel
theorem dX10_simulate_102 : decode cX10_simulate 102 = .ok (.invokestatic 214, 3) := by decide +kernel
theorem dX10_simulate_105 : decode cX10_simulate 105 = .ok (.irem, 1) := by decide +kernel
theorem dX10_simulate_106 : decode cX10_simulate 106 = .ok (.invokestatic 285, 3) := by decide +kernel
theorem dX10_simulate_109 : decode cX10_simulate 109 = .ok (.invokestatic 239, 3) := by decide +kernel
theorem dX10_simulate_112 : decode cX10_simulate 112 = .ok (.aload_n 0, 1) := by decide +kernel
theorem dX10_simulate_113 : decode cX10_simulate 113 = .ok (.getfield 38, 3) := by decide +kernel
theorem dX10_simulate_116 : decode cX10_simulate 116 = .ok (.aload_n 0, 1) := by decide +kernel
theorem dX10_simulate_117 : decode cX10_simulate 117 = .ok (.getfield 38, 3) := by decide +kernel
theorem dX10_simulate_120 : decode cX10_simulate 120 = .ok (.iconst 0, 1) := by decide +kernel
theorem dX10_simulate_121 : decode cX10_simulate 121 = .ok (.invokestatic 104, 3) := by decide +kernel
theorem dX10_simulate_124 : decode cX10_simulate 124 = .ok (.invokestatic 119, 3) := by decide +kernel
theorem dX10_simulate_127 : decode cX10_simulate 127 = .ok (.istore 9, 2) := by decide +kernel
theorem dX10_simulate_129 : decode cX10_simulate 129 = .ok (.goto (-63), 3) := by decide +kernel
theorem dX10_simulate_132 : decode cX10_simulate 132 = .ok (.iload 6, 2) := by decide +kernel
theorem dX10_simulate_134 : decode cX10_simulate 134 = .ok (.aload_n 0, 1) := by decide +kernel
theorem dX10_simulate_135 : decode cX10_simulate 135 = .ok (.getfield 38, 3) := by decide +kernel
theorem dX10_simulate_138 : decode cX10_simulate 138 = .ok (.iconst 0, 1) := by decide +kernel
theorem dX10_simulate_139 : decode cX10_simulate 139 = .ok (.invokestatic 108, 3) := by decide +kernel
theorem dX10_simulate_142 : decode cX10_simulate 142 = .ok (.ifCond .eq 7, 3) := by decide +kernel
theorem dX10_simulate_145 : decode cX10_simulate 145 = .ok (.iconst 1, 1) := by decide +kernel
theorem dX10_simulate_146 : decode cX10_simulate 146 = .ok (.goto 4, 3) := by decide +kernel
theorem dX10_simulate_149 : decode cX10_simulate 149 = .ok (.iconst 0, 1) := by decide +kernel
theorem dX10_simulate_150 : decode cX10_simulate 150 = .ok (.iadd, 1) := by decide +kernel
theorem dX10_simulate_151 : decode cX10_simulate 151 = .ok (.istore 6, 2) := by decide +kernel
theorem dX10_simulate_153 : decode cX10_simulate 153 = .ok (.iload 7, 2) := by decide +kernel
theorem dX10_simulate_155 : decode cX10_simulate 155 = .ok (.aload_n 0, 1) := by decide +kernel
theorem dX10_simulate_156 : decode cX10_simulate 156 = .ok (.getfield 38, 3) := by decide +kernel
theorem dX10_simulate_159 : decode cX10_simulate 159 = .ok (.iconst 0, 1) := by decide +kernel
theorem dX10_simulate_160 : decode cX10_simulate 160 = .ok (.invokestatic 108, 3) := by decide +kernel
theorem dX10_simulate_163 : decode cX10_simulate 163 = .ok (.ifCond .eq 16, 3) := by decide +kernel
theorem dX10_simulate_166 : decode cX10_simulate 166 = .ok (.aload_n 0, 1) := by decide +kernel
theorem dX10_simulate_167 : decode cX10_simulate 167 = .ok (.getfield 38, 3) := by decide +kernel
theorem dX10_simulate_170 : decode cX10_simulate 170 = .ok (.iconst 0, 1) := by decide +kernel
theorem dX10_simulate_171 : decode cX10_simulate 171 = .ok (.iconst 1, 1) := by decide +kernel
theorem dX10_simulate_172 : decode cX10_simulate 172 = .ok (.invokestatic 101, 3) := by decide +kernel
theorem dX10_simulate_175 : decode cX10_simulate 175 = .ok (.iaload, 1) := by decide +kernel
theorem dX10_simulate_176 : decode cX10_simulate 176 = .ok (.goto 4, 3) := by decide +kernel
theorem dX10_simulate_179 : decode cX10_simulate 179 = .ok (.iconst 0, 1) := by decide +kernel
theorem dX10_simulate_180 : decode cX10_simulate 180 = .ok (.iadd, 1) := by decide +kernel
theorem dX10_simulate_181 : decode cX10_simulate 181 = .ok (.istore 7, 2) := by decide +kernel
theorem dX10_simulate_183 : decode cX10_simulate 183 = .ok (.iinc 8 1, 3) := by decide +kernel
theorem dX10_simulate_186 : decode cX10_simulate 186 = .ok (.goto (-144), 3) := by decide +kernel
theorem dX10_simulate_189 : decode cX10_simulate 189 = .ok (.ldc_w 288, 3) := by decide +kernel
theorem dX10_simulate_192 : decode cX10_simulate 192 = .ok (.iload 6, 2) := by decide +kernel
theorem dX10_simulate_194 : decode cX10_simulate 194 = .ok (.imul, 1) := by decide +kernel
theorem dX10_simulate_195 : decode cX10_simulate 195 = .ok (.iload 7, 2) := by decide +kernel
theorem dX10_simulate_197 : decode cX10_simulate 197 = .ok (.ldc_w 289, 3) := by decide +kernel
theorem dX10_simulate_200 : decode cX10_simulate 200 = .ok (.if_icmp .le 9, 3) := by decide +kernel
theorem dX10_simulate_203 : decode cX10_simulate 203 = .ok (.ldc_w 289, 3) := by decide +kernel
theorem dX10_simulate_206 : decode cX10_simulate 206 = .ok (.goto 5, 3) := by decide +kernel
theorem dX10_simulate_209 : decode cX10_simulate 209 = .ok (.iload 7, 2) := by decide +kernel
theorem dX10_simulate_211 : decode cX10_simulate 211 = .ok (.iadd, 1) := by decide +kernel
theorem dX10_simulate_212 : decode cX10_simulate 212 = .ok (.ireturn, 1) := by decide +kernel
theorem dX10_save_0 : decode cX10_save 0 = .ok (.aload_n 0, 1) := by decide +kernel
theorem dX10_save_1 : decode cX10_save 1 = .ok (.iload_n 1, 1) := by decide +kernel
theorem dX10_save_2 : decode cX10_save 2 = .ok (.i2l, 1) := by decide +kernel
theorem dX10_save_3 : decode cX10_save 3 = .ok (.lconst 0, 1) := by decide +kernel
theorem dX10_save_4 : decode cX10_save 4 = .ok (.lconst 1, 1) := by decide +kernel
theorem dX10_save_5 : decode cX10_save 5 = .ok (.invokestatic 139, 3) := by decide +kernel
theorem dX10_save_8 : decode cX10_save 8 = .ok (.ifCond .eq 7, 3) := by decide +kernel
theorem dX10_save_11 : decode cX10_save 11 = .ok (.iconst 0, 1) := by decide +kernel
theorem dX10_save_12 : decode cX10_save 12 = .ok (.goto 4, 3) := by decide +kernel
theorem dX10_save_15 : decode cX10_save 15 = .ok (.iconst 1, 1) := by decide +kernel
theorem dX10_save_16 : decode cX10_save 16 = .ok (.invokevirtual 146, 3) := by decide +kernel
theorem dX10_save_19 : decode cX10_save 19 = .ok (.ifCond .eq 5, 3) := by decide +kernel
theorem dX10_save_22 : decode cX10_save 22 = .ok (.iconst 0, 1) := by decide +kernel
theorem dX10_save_23 : decode cX10_save 23 = .ok (.ireturn, 1) := by decide +kernel
theorem dX10_save_24 : decode cX10_save 24 = .ok (.aload_n 0, 1) := by decide +kernel
theorem dX10_save_25 : decode cX10_save 25 = .ok (.getfield 35, 3) := by decide +kernel
theorem dX10_save_28 : decode cX10_save 28 = .ok (.iconst 0, 1) := by decide +kernel
theorem dX10_save_29 : decode cX10_save 29 = .ok (.aload_n 0, 1) := by decide +kernel
theorem dX10_save_30 : decode cX10_save 30 = .ok (.getfield 44, 3) := by decide +kernel
theorem dX10_save_33 : decode cX10_save 33 = .ok (.sipush 394, 3) := by decide +kernel
theorem dX10_save_36 : decode cX10_save 36 = .ok (.iload_n 1, 1) := by decide +kernel
theorem dX10_save_37 : decode cX10_save 37 = .ok (.imul, 1) := by decide +kernel
theorem dX10_save_38 : decode cX10_save 38 = .ok (.sipush 394, 3) := by decide +kernel
theorem dX10_save_41 : decode cX10_save 41 = .ok (.invokestatic 82, 3) := by decide +kernel
theorem dX10_save_44 : decode cX10_save 44 = .ok (.aload_n 0, 1) := by decide +kernel
theorem dX10_save_45 : decode cX10_save 45 = .ok (.getfield 47, 3) := by decide +kernel
theorem dX10_save_48 : decode cX10_save 48 = .ok (.iload_n 1, 1) := by decide +kernel
theorem dX10_save_49 : decode cX10_save 49 = .ok (.iconst 1, 1) := by decide +kernel
theorem dX10_save_50 : decode cX10_save 50 = .ok (.bastore, 1) := by decide +kernel
theorem dX10_save_51 : decode cX10_save 51 = .ok (.aload_n 0, 1) := by decide +kernel
theorem dX10_save_52 : decode cX10_save 52 = .ok (.getfield 35, 3) := by decide +kernel
theorem dX10_save_55 : decode cX10_save 55 = .ok (.iconst 1, 1) := by decide +kernel
theorem dX10_save_56 : decode cX10_save 56 = .ok (.iaload, 1) := by decide +kernel
theorem dX10_save_57 : decode cX10_save 57 = .ok (.ireturn, 1) := by decide +kernel
theorem dX10_restore_0 : decode cX10_restore 0 = .ok (.aload_n 0, 1) := by decide +kernel
theorem dX10_restore_1 : decode cX10_restore 1 = .ok (.iload_n 1, 1) := by decide +kernel
theorem dX10_restore_2 : decode cX10_restore 2 = .ok (.i2l, 1) := by decide +kernel
theorem dX10_restore_3 : decode cX10_restore 3 = .ok (.lconst 0, 1) := by decide +kernel
theorem dX10_restore_4 : decode cX10_restore 4 = .ok (.lconst 1, 1) := by decide +kernel
theorem dX10_restore_5 : decode cX10_restore 5 = .ok (.invokestatic 139, 3) := by decide +kernel
theorem dX10_restore_8 : decode cX10_restore 8 = .ok (.ifCond .ne 7, 3) := by decide +kernel
theorem dX10_restore_11 : decode cX10_restore 11 = .ok (.iconst 1, 1) := by decide +kernel
theorem dX10_restore_12 : decode cX10_restore 12 = .ok (.goto 17, 3) := by decide +kernel
theorem dX10_restore_15 : decode cX10_restore 15 = .ok (.aload_n 0, 1) := by decide +kernel
theorem dX10_restore_16 : decode cX10_restore 16 = .ok (.getfield 47, 3) := by decide +kernel
theorem dX10_restore_19 : decode cX10_restore 19 = .ok (.iload_n 1, 1) := by decide +kernel
theorem dX10_restore_20 : decode cX10_restore 20 = .ok (.baload, 1) := by decide +kernel
theorem dX10_restore_21 : decode cX10_restore 21 = .ok (.ifCond .eq 7, 3) := by decide +kernel
theorem dX10_restore_24 : decode cX10_restore 24 = .ok (.iconst 0, 1) := by decide +kernel
theorem dX10_restore_25 : decode cX10_restore 25 = .ok (.goto 4, 3) := by decide +kernel
theorem dX10_restore_28 : decode cX10_restore 28 = .ok (.iconst 2, 1) := by decide +kernel
theorem dX10_restore_29 : decode cX10_restore 29 = .ok (.invokevirtual 146, 3) := by decide +kernel
theorem dX10_restore_32 : decode cX10_restore 32 = .ok (.ifCond .eq 5, 3) := by decide +kernel
theorem dX10_restore_35 : decode cX10_restore 35 = .ok (.iconst 0, 1) := by decide +kernel
theorem dX10_restore_36 : decode cX10_restore 36 = .ok (.ireturn, 1) := by decide +kernel
theorem dX10_restore_37 : decode cX10_restore 37 = .ok (.aload_n 0, 1) := by decide +kernel
theorem dX10_restore_38 : decode cX10_restore 38 = .ok (.getfield 44, 3) := by decide +kernel
theorem dX10_restore_41 : decode cX10_restore 41 = .ok (.sipush 394, 3) := by decide +kernel
theorem dX10_restore_44 : decode cX10_restore 44 = .ok (.iload_n 1, 1) := by decide +kernel
theorem dX10_restore_45 : decode cX10_restore 45 = .ok (.imul, 1) := by decide +kernel
theorem dX10_restore_46 : decode cX10_restore 46 = .ok (.aload_n 0, 1) := by decide +kernel
theorem dX10_restore_47 : decode cX10_restore 47 = .ok (.getfield 35, 3) := by decide +kernel
theorem dX10_restore_50 : decode cX10_restore 50 = .ok (.iconst 0, 1) := by decide +kernel
theorem dX10_restore_51 : decode cX10_restore 51 = .ok (.sipush 394, 3) := by decide +kernel
theorem dX10_restore_54 : decode cX10_restore 54 = .ok (.invokestatic 82, 3) := by decide +kernel
theorem dX10_restore_57 : decode cX10_restore 57 = .ok (.aload_n 0, 1) := by decide +kernel
theorem dX10_restore_58 : decode cX10_restore 58 = .ok (.iconst 0, 1) := by decide +kernel
theorem dX10_restore_59 : decode cX10_restore 59 = .ok (.putfield 79, 3) := by decide +kernel
theorem dX10_restore_62 : decode cX10_restore 62 = .ok (.aload_n 0, 1) := by decide +kernel
theorem dX10_restore_63 : decode cX10_restore 63 = .ok (.getfield 35, 3) := by decide +kernel
theorem dX10_restore_66 : decode cX10_restore 66 = .ok (.iconst 1, 1) := by decide +kernel
theorem dX10_restore_67 : decode cX10_restore 67 = .ok (.iaload, 1) := by decide +kernel
theorem dX10_restore_68 : decode cX10_restore 68 = .ok (.ireturn, 1) := by decide +kernel
