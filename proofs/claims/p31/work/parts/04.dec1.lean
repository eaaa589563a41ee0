theorem dX3_init_0 : decode cX3_init 0 = .ok (.aload_n 0, 1) := by decide +kernel
theorem dX3_init_1 : decode cX3_init 1 = .ok (.invokespecial 3, 3) := by decide +kernel
theorem dX3_init_4 : decode cX3_init 4 = .ok (.aload_n 0, 1) := by decide +kernel
theorem dX3_init_5 : decode cX3_init 5 = .ok (.aload_n 1, 1) := by decide +kernel
theorem dX3_init_6 : decode cX3_init 6 = .ok (.putfield 9, 3) := by decide +kernel
theorem dX3_init_9 : decode cX3_init 9 = .ok (.aload_n 0, 1) := by decide +kernel
theorem dX3_init_10 : decode cX3_init 10 = .ok (.aload_n 2, 1) := by decide +kernel
theorem dX3_init_11 : decode cX3_init 11 = .ok (.putfield 15, 3) := by decide +kernel
theorem dX3_init_14 : decode cX3_init 14 = .ok (.aload_n 0, 1) := by decide +kernel
theorem dX3_init_15 : decode cX3_init 15 = .ok (.new 19, 3) := by decide +kernel
theorem dX3_init_18 : decode cX3_init 18 = .ok (.dup, 1) := by decide +kernel
theorem dX3_init_19 : decode cX3_init 19 = .ok (.aload_n 1, 1) := by decide +kernel
theorem dX3_init_20 : decode cX3_init 20 = .ok (.invokespecial 21, 3) := by decide +kernel
theorem dX3_init_23 : decode cX3_init 23 = .ok (.putfield 24, 3) := by decide +kernel
theorem dX3_init_26 : decode cX3_init 26 = .ok (.return_, 1) := by decide +kernel
theorem dX3_pastEnd_0 : decode cX3_pastEnd 0 = .ok (.lconst 1, 1) := by decide +kernel
theorem dX3_pastEnd_1 : decode cX3_pastEnd 1 = .ok (.lstore_n 1, 1) := by decide +kernel
theorem dX3_pastEnd_2 : decode cX3_pastEnd 2 = .ok (.iconst 0, 1) := by decide +kernel
theorem dX3_pastEnd_3 : decode cX3_pastEnd 3 = .ok (.istore_n 3, 1) := by decide +kernel
theorem dX3_pastEnd_4 : decode cX3_pastEnd 4 = .ok (.iload_n 3, 1) := by decide +kernel
theorem dX3_pastEnd_5 : decode cX3_pastEnd 5 = .ok (.iload_n 0, 1) := by decide +kernel
theorem dX3_pastEnd_6 : decode cX3_pastEnd 6 = .ok (.if_icmp .ge 20, 3) := by decide +kernel
theorem dX3_pastEnd_9 : decode cX3_pastEnd 9 = .ok (.iload_n 3, 1) := by decide +kernel
theorem dX3_pastEnd_10 : decode cX3_pastEnd 10 = .ok (.iconst 4, 1) := by decide +kernel
theorem dX3_pastEnd_11 : decode cX3_pastEnd 11 = .ok (.if_icmp .ge 15, 3) := by decide +kernel
theorem dX3_pastEnd_14 : decode cX3_pastEnd 14 = .ok (.lload_n 1, 1) := by decide +kernel
theorem dX3_pastEnd_15 : decode cX3_pastEnd 15 = .ok (.ldc2_w 28, 3) := by decide +kernel
theorem dX3_pastEnd_18 : decode cX3_pastEnd 18 = .ok (.lmul, 1) := by decide +kernel
theorem dX3_pastEnd_19 : decode cX3_pastEnd 19 = .ok (.lstore_n 1, 1) := by decide +kernel
theorem dX3_pastEnd_20 : decode cX3_pastEnd 20 = .ok (.iinc 3 1, 3) := by decide +kernel
theorem dX3_pastEnd_23 : decode cX3_pastEnd 23 = .ok (.goto (-19), 3) := by decide +kernel
theorem dX3_pastEnd_26 : decode cX3_pastEnd 26 = .ok (.lload_n 1, 1) := by decide +kernel
theorem dX3_pastEnd_27 : decode cX3_pastEnd 27 = .ok (.lreturn, 1) := by decide +kernel
theorem dX3_groupAt_0 : decode cX3_groupAt 0 = .ok (.lload_n 2, 1) := by decide +kernel
theorem dX3_groupAt_1 : decode cX3_groupAt 1 = .ok (.lstore 4, 2) := by decide +kernel
theorem dX3_groupAt_3 : decode cX3_groupAt 3 = .ok (.iload_n 1, 1) := by decide +kernel
theorem dX3_groupAt_4 : decode cX3_groupAt 4 = .ok (.iconst 1, 1) := by decide +kernel
theorem dX3_groupAt_5 : decode cX3_groupAt 5 = .ok (.isub, 1) := by decide +kernel
theorem dX3_groupAt_6 : decode cX3_groupAt 6 = .ok (.istore 6, 2) := by decide +kernel
theorem dX3_groupAt_8 : decode cX3_groupAt 8 = .ok (.iload 6, 2) := by decide +kernel
theorem dX3_groupAt_10 : decode cX3_groupAt 10 = .ok (.iload_n 0, 1) := by decide +kernel
theorem dX3_groupAt_11 : decode cX3_groupAt 11 = .ok (.if_icmp .le 17, 3) := by decide +kernel
theorem dX3_groupAt_14 : decode cX3_groupAt 14 = .ok (.lload 4, 2) := by decide +kernel
theorem dX3_groupAt_16 : decode cX3_groupAt 16 = .ok (.ldc2_w 28, 3) := by decide +kernel
theorem dX3_groupAt_19 : decode cX3_groupAt 19 = .ok (.ldiv, 1) := by decide +kernel
theorem dX3_groupAt_20 : decode cX3_groupAt 20 = .ok (.lstore 4, 2) := by decide +kernel
theorem dX3_groupAt_22 : decode cX3_groupAt 22 = .ok (.iinc 6 (-1), 3) := by decide +kernel
theorem dX3_groupAt_25 : decode cX3_groupAt 25 = .ok (.goto (-17), 3) := by decide +kernel
theorem dX3_groupAt_28 : decode cX3_groupAt 28 = .ok (.lload 4, 2) := by decide +kernel
theorem dX3_groupAt_30 : decode cX3_groupAt 30 = .ok (.ldc2_w 28, 3) := by decide +kernel
theorem dX3_groupAt_33 : decode cX3_groupAt 33 = .ok (.lrem, 1) := by decide +kernel
theorem dX3_groupAt_34 : decode cX3_groupAt 34 = .ok (.l2i, 1) := by decide +kernel
theorem dX3_groupAt_35 : decode cX3_groupAt 35 = .ok (.ireturn, 1) := by decide +kernel
theorem dX3_begin_0 : decode cX3_begin 0 = .ok (.aload_n 0, 1) := by decide +kernel
theorem dX3_begin_1 : decode cX3_begin 1 = .ok (.getfield 24, 3) := by decide +kernel
theorem dX3_begin_4 : decode cX3_begin 4 = .ok (.aload_n 1, 1) := by decide +kernel
theorem dX3_begin_5 : decode cX3_begin 5 = .ok (.invokevirtual 30, 3) := by decide +kernel
theorem dX3_begin_8 : decode cX3_begin 8 = .ok (.return_, 1) := by decide +kernel
theorem dX3_succeeds_0 : decode cX3_succeeds 0 = .ok (.iload_n 1, 1) := by decide +kernel
theorem dX3_succeeds_1 : decode cX3_succeeds 1 = .ok (.bipush 100, 2) := by decide +kernel
theorem dX3_succeeds_3 : decode cX3_succeeds 3 = .ok (.idiv, 1) := by decide +kernel
theorem dX3_succeeds_4 : decode cX3_succeeds 4 = .ok (.bipush 10, 2) := by decide +kernel
theorem dX3_succeeds_6 : decode cX3_succeeds 6 = .ok (.irem, 1) := by decide +kernel
theorem dX3_succeeds_7 : decode cX3_succeeds 7 = .ok (.istore_n 2, 1) := by decide +kernel
theorem dX3_succeeds_8 : decode cX3_succeeds 8 = .ok (.iload_n 1, 1) := by decide +kernel
theorem dX3_succeeds_9 : decode cX3_succeeds 9 = .ok (.bipush 10, 2) := by decide +kernel
theorem dX3_succeeds_11 : decode cX3_succeeds 11 = .ok (.idiv, 1) := by decide +kernel
theorem dX3_succeeds_12 : decode cX3_succeeds 12 = .ok (.bipush 10, 2) := by decide +kernel
theorem dX3_succeeds_14 : decode cX3_succeeds 14 = .ok (.irem, 1) := by decide +kernel
theorem dX3_succeeds_15 : decode cX3_succeeds 15 = .ok (.istore_n 3, 1) := by decide +kernel
theorem dX3_succeeds_16 : decode cX3_succeeds 16 = .ok (.iload_n 1, 1) := by decide +kernel
theorem dX3_succeeds_17 : decode cX3_succeeds 17 = .ok (.bipush 10, 2) := by decide +kernel
theorem dX3_succeeds_19 : decode cX3_succeeds 19 = .ok (.irem, 1) := by decide +kernel
theorem dX3_succeeds_20 : decode cX3_succeeds 20 = .ok (.istore 4, 2) := by decide +kernel
theorem dX3_succeeds_22 : decode cX3_succeeds 22 = .ok (.iload_n 1, 1) := by decide +kernel
theorem dX3_succeeds_23 : decode cX3_succeeds 23 = .ok (.sipush 1000, 3) := by decide +kernel
theorem dX3_succeeds_26 : decode cX3_succeeds 26 = .ok (.idiv, 1) := by decide +kernel
theorem dX3_succeeds_27 : decode cX3_succeeds 27 = .ok (.tableswitch 262 1 9 #[49, 69, 92, 118, 141, 161, 196, 205, 228], 49) := by decide +kernel
theorem dX3_succeeds_76 : decode cX3_succeeds 76 = .ok (.iload 4, 2) := by decide +kernel
theorem dX3_succeeds_78 : decode cX3_succeeds 78 = .ok (.ifCond .ne 16, 3) := by decide +kernel
theorem dX3_succeeds_81 : decode cX3_succeeds 81 = .ok (.aload_n 0, 1) := by decide +kernel
theorem dX3_succeeds_82 : decode cX3_succeeds 82 = .ok (.iload_n 2, 1) := by decide +kernel
theorem dX3_succeeds_83 : decode cX3_succeeds 83 = .ok (.iload_n 3, 1) := by decide +kernel
theorem dX3_succeeds_84 : decode cX3_succeeds 84 = .ok (.invokevirtual 34, 3) := by decide +kernel
theorem dX3_succeeds_87 : decode cX3_succeeds 87 = .ok (.ifCond .eq 7, 3) := by decide +kernel
theorem dX3_succeeds_90 : decode cX3_succeeds 90 = .ok (.iconst 1, 1) := by decide +kernel
theorem dX3_succeeds_91 : decode cX3_succeeds 91 = .ok (.goto 4, 3) := by decide +kernel
theorem dX3_succeeds_94 : decode cX3_succeeds 94 = .ok (.iconst 0, 1) := by decide +kernel
theorem dX3_succeeds_95 : decode cX3_succeeds 95 = .ok (.ireturn, 1) := by decide +kernel
theorem dX3_succeeds_96 : decode cX3_succeeds 96 = .ok (.iload_n 3, 1) := by decide +kernel
theorem dX3_succeeds_97 : decode cX3_succeeds 97 = .ok (.ifCond .ne 20, 3) := by decide +kernel
theorem dX3_succeeds_100 : decode cX3_succeeds 100 = .ok (.iload 4, 2) := by decide +kernel
theorem dX3_succeeds_102 : decode cX3_succeeds 102 = .ok (.ifCond .ne 15, 3) := by decide +kernel
theorem dX3_succeeds_105 : decode cX3_succeeds 105 = .ok (.aload_n 0, 1) := by decide +kernel
theorem dX3_succeeds_106 : decode cX3_succeeds 106 = .ok (.iload_n 2, 1) := by decide +kernel
theorem dX3_succeeds_107 : decode cX3_succeeds 107 = .ok (.invokevirtual 38, 3) := by decide +kernel
theorem dX3_succeeds_110 : decode cX3_succeeds 110 = .ok (.ifCond .eq 7, 3) := by decide +kernel
theorem dX3_succeeds_113 : decode cX3_succeeds 113 = .ok (.iconst 1, 1) := by decide +kernel
theorem dX3_succeeds_114 : decode cX3_succeeds 114 = .ok (.goto 4, 3) := by decide +kernel
theorem dX3_succeeds_117 : decode cX3_succeeds 117 = .ok (.iconst 0, 1) := by decide +kernel
theorem dX3_succeeds_118 : decode cX3_succeeds 118 = .ok (.ireturn, 1) := by decide +kernel
theorem dX3_succeeds_119 : decode cX3_succeeds 119 = .ok (.iload_n 2, 1) := by decide +kernel
theorem dX3_succeeds_120 : decode cX3_succeeds 120 = .ok (.ifCond .ne 23, 3) := by decide +kernel
theorem dX3_succeeds_123 : decode cX3_succeeds 123 = .ok (.iload_n 3, 1) := by decide +kernel
theorem dX3_succeeds_124 : decode cX3_succeeds 124 = .ok (.ifCond .ne 19, 3) := by decide +kernel
theorem dX3_succeeds_127 : decode cX3_succeeds 127 = .ok (.iload 4, 2) := by decide +kernel
theorem dX3_succeeds_129 : decode cX3_succeeds 129 = .ok (.ifCond .ne 14, 3) := by decide +kernel
theorem dX3_succeeds_132 : decode cX3_succeeds 132 = .ok (.aload_n 0, 1) := by decide +kernel
theorem dX3_succeeds_133 : decode cX3_succeeds 133 = .ok (.invokevirtual 42, 3) := by decide +kernel
theorem dX3_succeeds_136 : decode cX3_succeeds 136 = .ok (.ifCond .eq 7, 3) := by decide +kernel
theorem dX3_succeeds_139 : decode cX3_succeeds 139 = .ok (.iconst 1, 1) := by decide +kernel
theorem dX3_succeeds_140 : decode cX3_succeeds 140 = .ok (.goto 4, 3) := by decide +kernel
theorem dX3_succeeds_143 : decode cX3_succeeds 143 = .ok (.iconst 0, 1) := by decide +kernel
theorem dX3_succeeds_144 : decode cX3_succeeds 144 = .ok (.ireturn, 1) := by decide +kernel
theorem dX3_succeeds_145 : decode cX3_succeeds 145 = .ok (.iload_n 3, 1) := by decide +kernel
theorem dX3_succeeds_146 : decode cX3_succeeds 146 = .ok (.ifCond .ne 20, 3) := by decide +kernel
theorem dX3_succeeds_149 : decode cX3_succeeds 149 = .ok (.iload 4, 2) := by decide +kernel
theorem dX3_succeeds_151 : decode cX3_succeeds 151 = .ok (.ifCond .ne 15, 3) := by decide +kernel
theorem dX3_succeeds_154 : decode cX3_succeeds 154 = .ok (.aload_n 0, 1) := by decide +kernel
theorem dX3_succeeds_155 : decode cX3_succeeds 155 = .ok (.iload_n 2, 1) := by decide +kernel
theorem dX3_succeeds_156 : decode cX3_succeeds 156 = .ok (.invokevirtual 46, 3) := by decide +kernel
theorem dX3_succeeds_159 : decode cX3_succeeds 159 = .ok (.ifCond .eq 7, 3) := by decide +kernel
theorem dX3_succeeds_162 : decode cX3_succeeds 162 = .ok (.iconst 1, 1) := by decide +kernel
theorem dX3_succeeds_163 : decode cX3_succeeds 163 = .ok (.goto 4, 3) := by decide +kernel
theorem dX3_succeeds_166 : decode cX3_succeeds 166 = .ok (.iconst 0, 1) := by decide +kernel
theorem dX3_succeeds_167 : decode cX3_succeeds 167 = .ok (.ireturn, 1) := by decide +kernel
theorem dX3_succeeds_168 : decode cX3_succeeds 168 = .ok (.iload 4, 2) := by decide +kernel
theorem dX3_succeeds_170 : decode cX3_succeeds 170 = .ok (.ifCond .ne 16, 3) := by decide +kernel
theorem dX3_succeeds_173 : decode cX3_succeeds 173 = .ok (.aload_n 0, 1) := by decide +kernel
theorem dX3_succeeds_174 : decode cX3_succeeds 174 = .ok (.iload_n 2, 1) := by decide +kernel
theorem dX3_succeeds_175 : decode cX3_succeeds 175 = .ok (.iload_n 3, 1) := by decide +kernel
theorem dX3_succeeds_176 : decode cX3_succeeds 176 = .ok (.invokevirtual 49, 3) := by decide +kernel
theorem dX3_succeeds_179 : decode cX3_succeeds 179 = .ok (.ifCond .eq 7, 3) := by decide +kernel
theorem dX3_succeeds_182 : decode cX3_succeeds 182 = .ok (.iconst 1, 1) := by decide +kernel
theorem dX3_succeeds_183 : decode cX3_succeeds 183 = .ok (.goto 4, 3) := by decide +kernel
theorem dX3_succeeds_186 : decode cX3_succeeds 186 = .ok (.iconst 0, 1) := by decide +kernel
theorem dX3_succeeds_187 : decode cX3_succeeds 187 = .ok (.ireturn, 1) := by decide +kernel
theorem dX3_succeeds_188 : decode cX3_succeeds 188 = .ok (.aload_n 0, 1) := by decide +kernel
theorem dX3_succeeds_189 : decode cX3_succeeds 189 = .ok (.getfield 24, 3) := by decide +kernel
theorem dX3_succeeds_192 : decode cX3_succeeds 192 = .ok (.iload_n 2, 1) := by decide +kernel
theorem dX3_succeeds_193 : decode cX3_succeeds 193 = .ok (.invokevirtual 52, 3) := by decide +kernel
theorem dX3_succeeds_196 : decode cX3_succeeds 196 = .ok (.ifCond .eq 25, 3) := by decide +kernel
theorem dX3_succeeds_199 : decode cX3_succeeds 199 = .ok (.aload_n 0, 1) := by decide +kernel
theorem dX3_succeeds_200 : decode cX3_succeeds 200 = .ok (.getfield 24, 3) := by decide +kernel
theorem dX3_succeeds_203 : decode cX3_succeeds 203 = .ok (.iload_n 2, 1) := by decide +kernel
theorem dX3_succeeds_204 : decode cX3_succeeds 204 = .ok (.invokevirtual 55, 3) := by decide +kernel
theorem dX3_succeeds_207 : decode cX3_succeeds 207 = .ok (.bipush 10, 2) := by decide +kernel
theorem dX3_succeeds_209 : decode cX3_succeeds 209 = .ok (.iload_n 3, 1) := by decide +kernel
theorem dX3_succeeds_210 : decode cX3_succeeds 210 = .ok (.imul, 1) := by decide +kernel
theorem dX3_succeeds_211 : decode cX3_succeeds 211 = .ok (.iload 4, 2) := by decide +kernel
theorem dX3_succeeds_213 : decode cX3_succeeds 213 = .ok (.iadd, 1) := by decide +kernel
theorem dX3_succeeds_214 : decode cX3_succeeds 214 = .ok (.if_icmp .gt 7, 3) := by decide +kernel
theorem dX3_succeeds_217 : decode cX3_succeeds 217 = .ok (.iconst 1, 1) := by decide +kernel
theorem dX3_succeeds_218 : decode cX3_succeeds 218 = .ok (.goto 4, 3) := by decide +kernel
theorem dX3_succeeds_221 : decode cX3_succeeds 221 = .ok (.iconst 0, 1) := by decide +kernel
theorem dX3_succeeds_222 : decode cX3_succeeds 222 = .ok (.ireturn, 1) := by decide +kernel
theorem dX3_succeeds_223 : decode cX3_succeeds 223 = .ok (.aload_n 0, 1) := by decide +kernel
theorem dX3_succeeds_224 : decode cX3_succeeds 224 = .ok (.iload_n 2, 1) := by decide +kernel
theorem dX3_succeeds_225 : decode cX3_succeeds 225 = .ok (.iload_n 3, 1) := by decide +kernel
theorem dX3_succeeds_226 : decode cX3_succeeds 226 = .ok (.iload 4, 2) := by decide +kernel
theorem dX3_succeeds_228 : decode cX3_succeeds 228 = .ok (.invokevirtual 59, 3) := by decide +kernel
theorem dX3_succeeds_231 : decode cX3_succeeds 231 = .ok (.ireturn, 1) := by decide +kernel
theorem dX3_succeeds_232 : decode cX3_succeeds 232 = .ok (.iload_n 3, 1) := by decide +kernel
theorem dX3_succeeds_233 : decode cX3_succeeds 233 = .ok (.ifCond .ne 20, 3) := by decide +kernel
theorem dX3_succeeds_236 : decode cX3_succeeds 236 = .ok (.iload 4, 2) := by decide +kernel
theorem dX3_succeeds_238 : decode cX3_succeeds 238 = .ok (.ifCond .ne 15, 3) := by decide +kernel
theorem dX3_succeeds_241 : decode cX3_succeeds 241 = .ok (.aload_n 0, 1) := by decide +kernel
theorem dX3_succeeds_242 : decode cX3_succeeds 242 = .ok (.iload_n 2, 1) := by decide +kernel
theorem dX3_succeeds_243 : decode cX3_succeeds 243 = .ok (.invokevirtual 63, 3) := by decide +kernel
theorem dX3_succeeds_246 : decode cX3_succeeds 246 = .ok (.ifCond .eq 7, 3) := by decide +kernel
theorem dX3_succeeds_249 : decode cX3_succeeds 249 = .ok (.iconst 1, 1) := by decide +kernel
theorem dX3_succeeds_250 : decode cX3_succeeds 250 = .ok (.goto 4, 3) := by decide +kernel
theorem dX3_succeeds_253 : decode cX3_succeeds 253 = .ok (.iconst 0, 1) := by decide +kernel
theorem dX3_succeeds_254 : decode cX3_succeeds 254 = .ok (.ireturn, 1) := by decide +kernel
theorem dX3_succeeds_255 : decode cX3_succeeds 255 = .ok (.iload 4, 2) := by decide +kernel
theorem dX3_succeeds_257 : decode cX3_succeeds 257 = .ok (.ifCond .ne 30, 3) := by decide +kernel
theorem dX3_succeeds_260 : decode cX3_succeeds 260 = .ok (.aload_n 0, 1) := by decide +kernel
theorem dX3_succeeds_261 : decode cX3_succeeds 261 = .ok (.getfield 24, 3) := by decide +kernel
theorem dX3_succeeds_264 : decode cX3_succeeds 264 = .ok (.iload_n 2, 1) := by decide +kernel
theorem dX3_succeeds_265 : decode cX3_succeeds 265 = .ok (.invokevirtual 52, 3) := by decide +kernel
theorem dX3_succeeds_268 : decode cX3_succeeds 268 = .ok (.ifCond .eq 19, 3) := by decide +kernel
theorem dX3_succeeds_271 : decode cX3_succeeds 271 = .ok (.aload_n 0, 1) := by decide +kernel
theorem dX3_succeeds_272 : decode cX3_succeeds 272 = .ok (.getfield 24, 3) := by decide +kernel
theorem dX3_succeeds_275 : decode cX3_succeeds 275 = .ok (.iload_n 2, 1) := by decide +kernel
theorem dX3_succeeds_276 : decode cX3_succeeds 276 = .ok (.invokevirtual 66, 3) := by decide +kernel
theorem dX3_succeeds_279 : decode cX3_succeeds 279 = .ok (.iload_n 3, 1) := by decide +kernel
theorem dX3_succeeds_280 : decode cX3_succeeds 280 = .ok (.if_icmp .lt 7, 3) := by decide +kernel
theorem dX3_succeeds_283 : decode cX3_succeeds 283 = .ok (.iconst 1, 1) := by decide +kernel
theorem dX3_succeeds_284 : decode cX3_succeeds 284 = .ok (.goto 4, 3) := by decide +kernel
theorem dX3_succeeds_287 : decode cX3_succeeds 287 = .ok (.iconst 0, 1) := by decide +kernel
theorem dX3_succeeds_288 : decode cX3_succeeds 288 = .ok (.ireturn, 1) := by decide +kernel
theorem dX3_succeeds_289 : decode cX3_succeeds 289 = .ok (.iconst 0, 1) := by decide +kernel
theorem dX3_succeeds_290 : decode cX3_succeeds 290 = .ok (.ireturn, 1) := by decide +kernel
theorem dX3_visits_0 : decode cX3_visits 0 = .ok (.aload_n 0, 1) := by decide +kernel
theorem dX3_visits_1 : decode cX3_visits 1 = .ok (.getfield 24, 3) := by decide +kernel
theorem dX3_visits_4 : decode cX3_visits 4 = .ok (.iload_n 1, 1) := by decide +kernel
theorem dX3_visits_5 : decode cX3_visits 5 = .ok (.iload_n 2, 1) := by decide +kernel
theorem dX3_visits_6 : decode cX3_visits 6 = .ok (.invokevirtual 69, 3) := by decide +kernel
theorem dX3_visits_9 : decode cX3_visits 9 = .ok (.ifCond .ne 5, 3) := by decide +kernel
theorem dX3_visits_12 : decode cX3_visits 12 = .ok (.iconst 0, 1) := by decide +kernel
theorem dX3_visits_13 : decode cX3_visits 13 = .ok (.ireturn, 1) := by decide +kernel
theorem dX3_visits_14 : decode cX3_visits 14 = .ok (.aload_n 0, 1) := by decide +kernel
theorem dX3_visits_15 : decode cX3_visits 15 = .ok (.getfield 24, 3) := by decide +kernel
theorem dX3_visits_18 : decode cX3_visits 18 = .ok (.iload_n 1, 1) := by decide +kernel
theorem dX3_visits_19 : decode cX3_visits 19 = .ok (.iload_n 2, 1) := by decide +kernel
theorem dX3_visits_20 : decode cX3_visits 20 = .ok (.invokevirtual 72, 3) := by decide +kernel
theorem dX3_visits_23 : decode cX3_visits 23 = .ok (.pop, 1) := by decide +kernel
theorem dX3_visits_24 : decode cX3_visits 24 = .ok (.iconst 1, 1) := by decide +kernel
theorem dX3_visits_25 : decode cX3_visits 25 = .ok (.ireturn, 1) := by decide +kernel
theorem dX3_getsHint_0 : decode cX3_getsHint 0 = .ok (.aload_n 0, 1) := by decide +kernel
theorem dX3_getsHint_1 : decode cX3_getsHint 1 = .ok (.getfield 24, 3) := by decide +kernel
theorem dX3_getsHint_4 : decode cX3_getsHint 4 = .ok (.iload_n 1, 1) := by decide +kernel
theorem dX3_getsHint_5 : decode cX3_getsHint 5 = .ok (.invokevirtual 52, 3) := by decide +kernel
theorem dX3_getsHint_8 : decode cX3_getsHint 8 = .ok (.ifCond .eq 18, 3) := by decide +kernel
theorem dX3_getsHint_11 : decode cX3_getsHint 11 = .ok (.aload_n 0, 1) := by decide +kernel
theorem dX3_getsHint_12 : decode cX3_getsHint 12 = .ok (.getfield 15, 3) := by decide +kernel
theorem dX3_getsHint_15 : decode cX3_getsHint 15 = .ok (.aload_n 0, 1) := by decide +kernel
theorem dX3_getsHint_16 : decode cX3_getsHint 16 = .ok (.getfield 24, 3) := by decide +kernel
theorem dX3_getsHint_19 : decode cX3_getsHint 19 = .ok (.iload_n 1, 1) := by decide +kernel
theorem dX3_getsHint_20 : decode cX3_getsHint 20 = .ok (.invokevirtual 76, 3) := by decide +kernel
theorem dX3_getsHint_23 : decode cX3_getsHint 23 = .ok (.ifCond .ne 5, 3) := by decide +kernel
theorem dX3_getsHint_26 : decode cX3_getsHint 26 = .ok (.iconst 0, 1) := by decide +kernel
theorem dX3_getsHint_27 : decode cX3_getsHint 27 = .ok (.ireturn, 1) := by decide +kernel
theorem dX3_getsHint_28 : decode cX3_getsHint 28 = .ok (.aload_n 0, 1) := by decide +kernel
theorem dX3_getsHint_29 : decode cX3_getsHint 29 = .ok (.getfield 24, 3) := by decide +kernel
theorem dX3_getsHint_32 : decode cX3_getsHint 32 = .ok (.iload_n 1, 1) := by decide +kernel
theorem dX3_getsHint_33 : decode cX3_getsHint 33 = .ok (.invokevirtual 82, 3) := by decide +kernel
theorem dX3_getsHint_36 : decode cX3_getsHint 36 = .ok (.iconst 1, 1) := by decide +kernel
theorem dX3_getsHint_37 : decode cX3_getsHint 37 = .ok (.ireturn, 1) := by decide +kernel
theorem dX3_enrols_0 : decode cX3_enrols 0 = .ok (.aload_n 0, 1) := by decide +kernel
theorem dX3_enrols_1 : decode cX3_enrols 1 = .ok (.getfield 24, 3) := by decide +kernel
theorem dX3_enrols_4 : decode cX3_enrols 4 = .ok (.invokevirtual 86, 3) := by decide +kernel
theorem dX3_enrols_7 : decode cX3_enrols 7 = .ok (.ifCond .ne 5, 3) := by decide +kernel
theorem dX3_enrols_10 : decode cX3_enrols 10 = .ok (.iconst 0, 1) := by decide +kernel
theorem dX3_enrols_11 : decode cX3_enrols 11 = .ok (.ireturn, 1) := by decide +kernel
theorem dX3_enrols_12 : decode cX3_enrols 12 = .ok (.aload_n 0, 1) := by decide +kernel
theorem dX3_enrols_13 : decode cX3_enrols 13 = .ok (.getfield 24, 3) := by decide +kernel
theorem dX3_enrols_16 : decode cX3_enrols 16 = .ok (.invokevirtual 89, 3) := by decide +kernel
theorem dX3_enrols_19 : decode cX3_enrols 19 = .ok (.pop, 1) := by decide +kernel
theorem dX3_enrols_20 : decode cX3_enrols 20 = .ok (.iconst 1, 1) := by decide +kernel
theorem dX3_enrols_21 : decode cX3_enrols 21 = .ok (.ireturn, 1) := by decide +kernel
theorem dX3_givesUp_0 : decode cX3_givesUp 0 = .ok (.aload_n 0, 1) := by decide +kernel
theorem dX3_givesUp_1 : decode cX3_givesUp 1 = .ok (.getfield 24, 3) := by decide +kernel
theorem dX3_givesUp_4 : decode cX3_givesUp 4 = .ok (.iload_n 1, 1) := by decide +kernel
theorem dX3_givesUp_5 : decode cX3_givesUp 5 = .ok (.invokevirtual 52, 3) := by decide +kernel
theorem dX3_givesUp_8 : decode cX3_givesUp 8 = .ok (.ifCond .ne 5, 3) := by decide +kernel
theorem dX3_givesUp_11 : decode cX3_givesUp 11 = .ok (.iconst 0, 1) := by decide +kernel
theorem dX3_givesUp_12 : decode cX3_givesUp 12 = .ok (.ireturn, 1) := by decide +kernel
theorem dX3_givesUp_13 : decode cX3_givesUp 13 = .ok (.aload_n 0, 1) := by decide +kernel
theorem dX3_givesUp_14 : decode cX3_givesUp 14 = .ok (.getfield 24, 3) := by decide +kernel
theorem dX3_givesUp_17 : decode cX3_givesUp 17 = .ok (.iload_n 1, 1) := by decide +kernel
theorem dX3_givesUp_18 : decode cX3_givesUp 18 = .ok (.invokevirtual 93, 3) := by decide +kernel
theorem dX3_givesUp_21 : decode cX3_givesUp 21 = .ok (.pop, 1) := by decide +kernel
theorem dX3_givesUp_22 : decode cX3_givesUp 22 = .ok (.iconst 1, 1) := by decide +kernel
theorem dX3_givesUp_23 : decode cX3_givesUp 23 = .ok (.ireturn, 1) := by decide +kernel
theorem dX3_isSafe_0 : decode cX3_isSafe 0 = .ok (.aload_n 0, 1) := by decide +kernel
theorem dX3_isSafe_1 : decode cX3_isSafe 1 = .ok (.getfield 24, 3) := by decide +kernel
theorem dX3_isSafe_4 : decode cX3_isSafe 4 = .ok (.iload_n 1, 1) := by decide +kernel
theorem dX3_isSafe_5 : decode cX3_isSafe 5 = .ok (.invokevirtual 52, 3) := by decide +kernel
theorem dX3_isSafe_8 : decode cX3_isSafe 8 = .ok (.ifCond .eq 37, 3) := by decide +kernel
theorem dX3_isSafe_11 : decode cX3_isSafe 11 = .ok (.aload_n 0, 1) := by decide +kernel
theorem dX3_isSafe_12 : decode cX3_isSafe 12 = .ok (.getfield 9, 3) := by decide +kernel
theorem dX3_isSafe_15 : decode cX3_isSafe 15 = .ok (.iload_n 2, 1) := by decide +kernel
theorem dX3_isSafe_16 : decode cX3_isSafe 16 = .ok (.invokevirtual 96, 3) := by decide +kernel
theorem dX3_isSafe_19 : decode cX3_isSafe 19 = .ok (.ifCond .eq 26, 3) := by decide +kernel
theorem dX3_isSafe_22 : decode cX3_isSafe 22 = .ok (.iload_n 2, 1) := by decide +kernel
theorem dX3_isSafe_23 : decode cX3_isSafe 23 = .ok (.aload_n 0, 1) := by decide +kernel
theorem dX3_isSafe_24 : decode cX3_isSafe 24 = .ok (.getfield 15, 3) := by decide +kernel
theorem dX3_isSafe_27 : decode cX3_isSafe 27 = .ok (.aload_n 0, 1) := by decide +kernel
theorem dX3_isSafe_28 : decode cX3_isSafe 28 = .ok (.getfield 24, 3) := by decide +kernel
theorem dX3_isSafe_31 : decode cX3_isSafe 31 = .ok (.iload_n 1, 1) := by decide +kernel
theorem dX3_isSafe_32 : decode cX3_isSafe 32 = .ok (.invokevirtual 76, 3) := by decide +kernel
theorem dX3_isSafe_35 : decode cX3_isSafe 35 = .ok (.invokestatic 101, 3) := by decide +kernel
theorem dX3_isSafe_38 : decode cX3_isSafe 38 = .ok (.ifCond .eq 7, 3) := by decide +kernel
theorem dX3_isSafe_41 : decode cX3_isSafe 41 = .ok (.iconst 1, 1) := by decide +kernel
theorem dX3_isSafe_42 : decode cX3_isSafe 42 = .ok (.goto 4, 3) := by decide +kernel
theorem dX3_isSafe_45 : decode cX3_isSafe 45 = .ok (.iconst 0, 1) := by decide +kernel
theorem dX3_isSafe_46 : decode cX3_isSafe 46 = .ok (.ireturn, 1) := by decide +kernel
theorem dX3_moves_0 : decode cX3_moves 0 = .ok (.aload_n 0, 1) := by decide +kernel
theorem dX3_moves_1 : decode cX3_moves 1 = .ok (.getfield 9, 3) := by decide +kernel
theorem dX3_moves_4 : decode cX3_moves 4 = .ok (.iload_n 1, 1) := by decide +kernel
theorem dX3_moves_5 : decode cX3_moves 5 = .ok (.invokevirtual 96, 3) := by decide +kernel
theorem dX3_moves_8 : decode cX3_moves 8 = .ok (.ifCond .ne 5, 3) := by decide +kernel
theorem dX3_moves_11 : decode cX3_moves 11 = .ok (.iconst 0, 1) := by decide +kernel
theorem dX3_moves_12 : decode cX3_moves 12 = .ok (.ireturn, 1) := by decide +kernel
theorem dX3_moves_13 : decode cX3_moves 13 = .ok (.aload_n 0, 1) := by decide +kernel
theorem dX3_moves_14 : decode cX3_moves 14 = .ok (.getfield 24, 3) := by decide +kernel
theorem dX3_moves_17 : decode cX3_moves 17 = .ok (.iload_n 1, 1) := by decide +kernel
theorem dX3_moves_18 : decode cX3_moves 18 = .ok (.iload_n 2, 1) := by decide +kernel
theorem dX3_moves_19 : decode cX3_moves 19 = .ok (.iload_n 3, 1) := by decide +kernel
theorem dX3_moves_20 : decode cX3_moves 20 = .ok (.invokevirtual 104, 3) := by decide +kernel
theorem dX3_moves_23 : decode cX3_moves 23 = .ok (.pop, 1) := by decide +kernel
theorem dX3_moves_24 : decode cX3_moves 24 = .ok (.iconst 1, 1) := by decide +kernel
theorem dX3_moves_25 : decode cX3_moves 25 = .ok (.ireturn, 1) := by decide +kernel
theorem dX3_eases_0 : decode cX3_eases 0 = .ok (.aload_n 0, 1) := by decide +kernel
theorem dX3_eases_1 : decode cX3_eases 1 = .ok (.getfield 9, 3) := by decide +kernel
theorem dX3_eases_4 : decode cX3_eases 4 = .ok (.iload_n 1, 1) := by decide +kernel
theorem dX3_eases_5 : decode cX3_eases 5 = .ok (.invokevirtual 96, 3) := by decide +kernel
theorem dX3_eases_8 : decode cX3_eases 8 = .ok (.ifCond .ne 5, 3) := by decide +kernel
theorem dX3_eases_11 : decode cX3_eases 11 = .ok (.iconst 0, 1) := by decide +kernel
theorem dX3_eases_12 : decode cX3_eases 12 = .ok (.ireturn, 1) := by decide +kernel
theorem dX3_eases_13 : decode cX3_eases 13 = .ok (.aload_n 0, 1) := by decide +kernel
theorem dX3_eases_14 : decode cX3_eases 14 = .ok (.getfield 24, 3) := by decide +kernel
theorem dX3_eases_17 : decode cX3_eases 17 = .ok (.iload_n 1, 1) := by decide +kernel
theorem dX3_eases_18 : decode cX3_eases 18 = .ok (.invokevirtual 108, 3) := by decide +kernel
theorem dX3_eases_21 : decode cX3_eases 21 = .ok (.iconst 1, 1) := by decide +kernel
theorem dX3_eases_22 : decode cX3_eases 22 = .ok (.ireturn, 1) := by decide +kernel
theorem dX4_init_0 : decode cX4_init 0 = .ok (.aload_n 0, 1) := by decide +kernel
theorem dX4_init_1 : decode cX4_init 1 = .ok (.invokespecial 3, 3) := by decide +kernel
theorem dX4_init_4 : decode cX4_init 4 = .ok (.aload_n 0, 1) := by decide +kernel
theorem dX4_init_5 : decode cX4_init 5 = .ok (.aload_n 1, 1) := by decide +kernel
theorem dX4_init_6 : decode cX4_init 6 = .ok (.putfield 9, 3) := by decide +kernel
theorem dX4_init_9 : decode cX4_init 9 = .ok (.return_, 1) := by decide +kernel
theorem dX4_run_0 : decode cX4_run 0 = .ok (.aload_n 0, 1) := by decide +kernel
theorem dX4_run_1 : decode cX4_run 1 = .ok (.lload_n 2, 1) := by decide +kernel
theorem dX4_run_2 : decode cX4_run 2 = .ok (.putfield 15, 3) := by decide +kernel
theorem dX4_run_5 : decode cX4_run 5 = .ok (.iconst 0, 1) := by decide +kernel
theorem dX4_run_6 : decode cX4_run 6 = .ok (.istore 5, 2) := by decide +kernel
theorem dX4_run_8 : decode cX4_run 8 = .ok (.iconst 0, 1) := by decide +kernel
theorem dX4_run_9 : decode cX4_run 9 = .ok (.istore 6, 2) := by decide +kernel
theorem dX4_run_11 : decode cX4_run 11 = .ok (.iconst 0, 1) := by decide +kernel
theorem dX4_run_12 : decode cX4_run 12 = .ok (.istore 7, 2) := by decide +kernel
theorem dX4_run_14 : decode cX4_run 14 = .ok (.iload 7, 2) := by decide +kernel
theorem dX4_run_16 : decode cX4_run 16 = .ok (.iload 4, 2) := by decide +kernel
theorem dX4_run_18 : decode cX4_run 18 = .ok (.if_icmp .ge 33, 3) := by decide +kernel
theorem dX4_run_21 : decode cX4_run 21 = .ok (.aload_n 0, 1) := by decide +kernel
theorem dX4_run_22 : decode cX4_run 22 = .ok (.aload_n 1, 1) := by decide +kernel
theorem dX4_run_23 : decode cX4_run 23 = .ok (.invokevirtual 19, 3) := by decide +kernel
theorem dX4_run_26 : decode cX4_run 26 = .ok (.istore 8, 2) := by decide +kernel
theorem dX4_run_28 : decode cX4_run 28 = .ok (.iload 8, 2) := by decide +kernel
theorem dX4_run_30 : decode cX4_run 30 = .ok (.bipush (-9), 2) := by decide +kernel
theorem dX4_run_32 : decode cX4_run 32 = .ok (.if_icmp .eq 13, 3) := by decide +kernel
theorem dX4_run_35 : decode cX4_run 35 = .ok (.iinc 5 1, 3) := by decide +kernel
theorem dX4_run_38 : decode cX4_run 38 = .ok (.iload 6, 2) := by decide +kernel
theorem dX4_run_40 : decode cX4_run 40 = .ok (.iload 8, 2) := by decide +kernel
theorem dX4_run_42 : decode cX4_run 42 = .ok (.iadd, 1) := by decide +kernel
theorem dX4_run_43 : decode cX4_run 43 = .ok (.istore 6, 2) := by decide +kernel
theorem dX4_run_45 : decode cX4_run 45 = .ok (.iinc 7 1, 3) := by decide +kernel
theorem dX4_run_48 : decode cX4_run 48 = .ok (.goto (-34), 3) := by decide +kernel
theorem dX4_run_51 : decode cX4_run 51 = .ok (.ldc 23, 2) := by decide +kernel
theorem dX4_run_53 : decode cX4_run 53 = .ok (.iload 5, 2) := by decide +kernel
theorem dX4_run_55 : decode cX4_run 55 = .ok (.imul, 1) := by decide +kernel
theorem dX4_run_56 : decode cX4_run 56 = .ok (.iload 6, 2) := by decide +kernel
theorem dX4_run_58 : decode cX4_run 58 = .ok (.ldc 24, 2) := by decide +kernel
theorem dX4_run_60 : decode cX4_run 60 = .ok (.invokestatic 25, 3) := by decide +kernel
theorem dX4_run_63 : decode cX4_run 63 = .ok (.iadd, 1) := by decide +kernel
theorem dX4_run_64 : decode cX4_run 64 = .ok (.ireturn, 1) := by decide +kernel
theorem dX4_walk_0 : decode cX4_walk 0 = .ok (.iconst 0, 1) := by decide +kernel
theorem dX4_walk_1 : decode cX4_walk 1 = .ok (.istore_n 2, 1) := by decide +kernel
theorem dX4_walk_2 : decode cX4_walk 2 = .ok (.bipush (-9), 2) := by decide +kernel
theorem dX4_walk_4 : decode cX4_walk 4 = .ok (.istore_n 3, 1) := by decide +kernel
theorem dX4_walk_5 : decode cX4_walk 5 = .ok (.iconst 0, 1) := by decide +kernel
theorem dX4_walk_6 : decode cX4_walk 6 = .ok (.istore 4, 2) := by decide +kernel
theorem dX4_walk_8 : decode cX4_walk 8 = .ok (.iconst 0, 1) := by decide +kernel
theorem dX4_walk_9 : decode cX4_walk 9 = .ok (.istore 5, 2) := by decide +kernel
theorem dX4_walk_11 : decode cX4_walk 11 = .ok (.iload 5, 2) := by decide +kernel
theorem dX4_walk_13 : decode cX4_walk 13 = .ok (.bipush 10, 2) := by decide +kernel
theorem dX4_walk_15 : decode cX4_walk 15 = .ok (.if_icmp .ge 61, 3) := by decide +kernel
theorem dX4_walk_18 : decode cX4_walk 18 = .ok (.aload_n 0, 1) := by decide +kernel
theorem dX4_walk_19 : decode cX4_walk 19 = .ok (.getfield 9, 3) := by decide +kernel
theorem dX4_walk_22 : decode cX4_walk 22 = .ok (.iload_n 2, 1) := by decide +kernel
theorem dX4_walk_23 : decode cX4_walk 23 = .ok (.aload_n 1, 1) := by decide +kernel
theorem dX4_walk_24 : decode cX4_walk 24 = .ok (.invokevirtual 31, 3) := by decide +kernel
theorem dX4_walk_27 : decode cX4_walk 27 = .ok (.invokevirtual 37, 3) := by decide +kernel
theorem dX4_walk_30 : decode cX4_walk 30 = .ok (.istore 6, 2) := by decide +kernel
theorem dX4_walk_32 : decode cX4_walk 32 = .ok (.iload 6, 2) := by decide +kernel
theorem dX4_walk_34 : decode cX4_walk 34 = .ok (.ifCond .ne 6, 3) := by decide +kernel
theorem dX4_walk_37 : decode cX4_walk 37 = .ok (.goto 39, 3) := by decide +kernel
theorem dX4_walk_40 : decode cX4_walk 40 = .ok (.aload_n 0, 1) := by decide +kernel
theorem dX4_walk_41 : decode cX4_walk 41 = .ok (.iload 6, 2) := by decide +kernel
theorem dX4_walk_43 : decode cX4_walk 43 = .ok (.invokevirtual 42, 3) := by decide +kernel
theorem dX4_walk_46 : decode cX4_walk 46 = .ok (.istore 7, 2) := by decide +kernel
theorem dX4_walk_48 : decode cX4_walk 48 = .ok (.iload 4, 2) := by decide +kernel
theorem dX4_walk_50 : decode cX4_walk 50 = .ok (.aload_n 1, 1) := by decide +kernel
theorem dX4_walk_51 : decode cX4_walk 51 = .ok (.iload_n 3, 1) := by decide +kernel
theorem dX4_walk_52 : decode cX4_walk 52 = .ok (.iload 7, 2) := by decide +kernel
theorem dX4_walk_54 : decode cX4_walk 54 = .ok (.invokevirtual 46, 3) := by decide +kernel
theorem dX4_walk_57 : decode cX4_walk 57 = .ok (.iadd, 1) := by decide +kernel
theorem dX4_walk_58 : decode cX4_walk 58 = .ok (.istore 4, 2) := by decide +kernel
theorem dX4_walk_60 : decode cX4_walk 60 = .ok (.iload_n 2, 1) := by decide +kernel
theorem dX4_walk_61 : decode cX4_walk 61 = .ok (.iconst 1, 1) := by decide +kernel
theorem dX4_walk_62 : decode cX4_walk 62 = .ok (.iload 7, 2) := by decide +kernel
theorem dX4_walk_64 : decode cX4_walk 64 = .ok (.ishl, 1) := by decide +kernel
theorem dX4_walk_65 : decode cX4_walk 65 = .ok (.ior, 1) := by decide +kernel
theorem dX4_walk_66 : decode cX4_walk 66 = .ok (.istore_n 2, 1) := by decide +kernel
theorem dX4_walk_67 : decode cX4_walk 67 = .ok (.iload 7, 2) := by decide +kernel
theorem dX4_walk_69 : decode cX4_walk 69 = .ok (.istore_n 3, 1) := by decide +kernel
theorem dX4_walk_70 : decode cX4_walk 70 = .ok (.iinc 5 1, 3) := by decide +kernel
theorem dX4_walk_73 : decode cX4_walk 73 = .ok (.goto (-62), 3) := by decide +kernel
theorem dX4_walk_76 : decode cX4_walk 76 = .ok (.aload_n 0, 1) := by decide +kernel
theorem dX4_walk_77 : decode cX4_walk 77 = .ok (.getfield 9, 3) := by decide +kernel
theorem dX4_walk_80 : decode cX4_walk 80 = .ok (.iload_n 2, 1) := by decide +kernel
theorem dX4_walk_81 : decode cX4_walk 81 = .ok (.invokevirtual 49, 3) := by decide +kernel
theorem dX4_walk_84 : decode cX4_walk 84 = .ok (.ifCond .eq 8, 3) := by decide +kernel
theorem dX4_walk_87 : decode cX4_walk 87 = .ok (.iload 4, 2) := by decide +kernel
theorem dX4_walk_89 : decode cX4_walk 89 = .ok (.goto 5, 3) := by decide +kernel
theorem dX4_walk_92 : decode cX4_walk 92 = .ok (.bipush (-9), 2) := by decide +kernel
theorem dX4_walk_94 : decode cX4_walk 94 = .ok (.ireturn, 1) := by decide +kernel
theorem dX4_draw_0 : decode cX4_draw 0 = .ok (.aload_n 0, 1) := by decide +kernel
theorem dX4_draw_1 : decode cX4_draw 1 = .ok (.aload_n 0, 1) := by decide +kernel
theorem dX4_draw_2 : decode cX4_draw 2 = .ok (.getfield 15, 3) := by decide +kernel
theorem dX4_draw_5 : decode cX4_draw 5 = .ok (.ldc2_w 53, 3) := by decide +kernel
theorem dX4_draw_8 : decode cX4_draw 8 = .ok (.lmul, 1) := by decide +kernel
theorem dX4_draw_9 : decode cX4_draw 9 = .ok (.ldc2_w 55, 3) := by decide +kernel
theorem dX4_draw_12 : decode cX4_draw 12 = .ok (.ladd, 1) := by decide +kernel
theorem dX4_draw_13 : decode cX4_draw 13 = .ok (.putfield 15, 3) := by decide +kernel
theorem dX4_draw_16 : decode cX4_draw 16 = .ok (.iload_n 1, 1) := by decide +kernel
theorem dX4_draw_17 : decode cX4_draw 17 = .ok (.invokestatic 57, 3) := by decide +kernel
theorem dX4_draw_20 : decode cX4_draw 20 = .ok (.istore_n 2, 1) := by decide +kernel
theorem dX4_draw_21 : decode cX4_draw 21 = .ok (.iload_n 2, 1) := by decide +kernel
theorem dX4_draw_22 : decode cX4_draw 22 = .ok (.ifCond .ne 7, 3) := by decide +kernel
theorem dX4_draw_25 : decode cX4_draw 25 = .ok (.iconst 0, 1) := by decide +kernel
theorem dX4_draw_26 : decode cX4_draw 26 = .ok (.goto 13, 3) := by decide +kernel
theorem dX4_draw_29 : decode cX4_draw 29 = .ok (.aload_n 0, 1) := by decide +kernel
theorem dX4_draw_30 : decode cX4_draw 30 = .ok (.getfield 15, 3) := by decide +kernel
theorem dX4_draw_33 : decode cX4_draw 33 = .ok (.bipush 33, 2) := by decide +kernel
theorem dX4_draw_35 : decode cX4_draw 35 = .ok (.lushr, 1) := by decide +kernel
theorem dX4_draw_36 : decode cX4_draw 36 = .ok (.l2i, 1) := by decide +kernel
theorem dX4_draw_37 : decode cX4_draw 37 = .ok (.iload_n 2, 1) := by decide +kernel
theorem dX4_draw_38 : decode cX4_draw 38 = .ok (.irem, 1) := by decide +kernel
theorem dX4_draw_39 : decode cX4_draw 39 = .ok (.istore_n 3, 1) := by decide +kernel
theorem dX4_draw_40 : decode cX4_draw 40 = .ok (.iload_n 1, 1) := by decide +kernel
theorem dX4_draw_41 : decode cX4_draw 41 = .ok (.istore 4, 2) := by decide +kernel
theorem dX4_draw_43 : decode cX4_draw 43 = .ok (.iconst 0, 1) := by decide +kernel
theorem dX4_draw_44 : decode cX4_draw 44 = .ok (.istore 5, 2) := by decide +kernel
theorem dX4_draw_46 : decode cX4_draw 46 = .ok (.iload 5, 2) := by decide +kernel
theorem dX4_draw_48 : decode cX4_draw 48 = .ok (.iload_n 3, 1) := by decide +kernel
theorem dX4_draw_49 : decode cX4_draw 49 = .ok (.if_icmp .ge 18, 3) := by decide +kernel
theorem dX4_draw_52 : decode cX4_draw 52 = .ok (.iload 4, 2) := by decide +kernel
theorem dX4_draw_54 : decode cX4_draw 54 = .ok (.iload 4, 2) := by decide +kernel
theorem dX4_draw_56 : decode cX4_draw 56 = .ok (.iconst 1, 1) := by decide +kernel
theorem dX4_draw_57 : decode cX4_draw 57 = .ok (.isub, 1) := by decide +kernel
theorem dX4_draw_58 : decode cX4_draw 58 = .ok (.iand, 1) := by decide +kernel
theorem dX4_draw_59 : decode cX4_draw 59 = .ok (.istore 4, 2) := by decide +kernel
theorem dX4_draw_61 : decode cX4_draw 61 = .ok (.iinc 5 1, 3) := by decide +kernel
theorem dX4_draw_64 : decode cX4_draw 64 = .ok (.goto (-18), 3) := by decide +kernel
theorem dX4_draw_67 : decode cX4_draw 67 = .ok (.iload 4, 2) := by decide +kernel
theorem dX4_draw_69 : decode cX4_draw 69 = .ok (.invokestatic 62, 3) := by decide +kernel
theorem dX4_draw_72 : decode cX4_draw 72 = .ok (.ireturn, 1) := by decide +kernel
theorem dX5_init_0 : decode cX5_init 0 = .ok (.aload_n 0, 1) := by decide +kernel
theorem dX5_init_1 : decode cX5_init 1 = .ok (.invokespecial 3, 3) := by decide +kernel
theorem dX5_init_4 : decode cX5_init 4 = .ok (.aload_n 0, 1) := by decide +kernel
theorem dX5_init_5 : decode cX5_init 5 = .ok (.bipush 10, 2) := by decide +kernel
theorem dX5_init_7 : decode cX5_init 7 = .ok (.newarray .int, 2) := by decide +kernel
theorem dX5_init_9 : decode cX5_init 9 = .ok (.putfield 9, 3) := by decide +kernel
theorem dX5_init_12 : decode cX5_init 12 = .ok (.aload_n 0, 1) := by decide +kernel
theorem dX5_init_13 : decode cX5_init 13 = .ok (.bipush 10, 2) := by decide +kernel
theorem dX5_init_15 : decode cX5_init 15 = .ok (.newarray .int, 2) := by decide +kernel
theorem dX5_init_17 : decode cX5_init 17 = .ok (.putfield 15, 3) := by decide +kernel
theorem dX5_init_20 : decode cX5_init 20 = .ok (.aload_n 0, 1) := by decide +kernel
theorem dX5_init_21 : decode cX5_init 21 = .ok (.iconst 4, 1) := by decide +kernel
theorem dX5_init_22 : decode cX5_init 22 = .ok (.newarray .int, 2) := by decide +kernel
theorem dX5_init_24 : decode cX5_init 24 = .ok (.putfield 18, 3) := by decide +kernel
theorem dX5_init_27 : decode cX5_init 27 = .ok (.aload_n 0, 1) := by decide +kernel
theorem dX5_init_28 : decode cX5_init 28 = .ok (.iconst 4, 1) := by decide +kernel
theorem dX5_init_29 : decode cX5_init 29 = .ok (.newarray .int, 2) := by decide +kernel
theorem dX5_init_31 : decode cX5_init 31 = .ok (.putfield 21, 3) := by decide +kernel
theorem dX5_init_34 : decode cX5_init 34 = .ok (.aload_n 0, 1) := by decide +kernel
theorem dX5_init_35 : decode cX5_init 35 = .ok (.iconst 4, 1) := by decide +kernel
theorem dX5_init_36 : decode cX5_init 36 = .ok (.newarray .int, 2) := by decide +kernel
theorem dX5_init_38 : decode cX5_init 38 = .ok (.putfield 24, 3) := by decide +kernel
theorem dX5_init_41 : decode cX5_init 41 = .ok (.aload_n 0, 1) := by decide +kernel
theorem dX5_init_42 : decode cX5_init 42 = .ok (.iconst 4, 1) := by decide +kernel
theorem dX5_init_43 : decode cX5_init 43 = .ok (.newarray .int, 2) := by decide +kernel
theorem dX5_init_45 : decode cX5_init 45 = .ok (.putfield 27, 3) := by decide +kernel
theorem dX5_init_48 : decode cX5_init 48 = .ok (.aload_n 0, 1) := by decide +kernel
theorem dX5_init_49 : decode cX5_init 49 = .ok (.bipush 40, 2) := by decide +kernel
theorem dX5_init_51 : decode cX5_init 51 = .ok (.newarray .int, 2) := by decide +kernel
theorem dX5_init_53 : decode cX5_init 53 = .ok (.putfield 30, 3) := by decide +kernel
theorem dX5_init_56 : decode cX5_init 56 = .ok (.aload_n 0, 1) := by decide +kernel
theorem dX5_init_57 : decode cX5_init 57 = .ok (.aload_n 1, 1) := by decide +kernel
theorem dX5_init_58 : decode cX5_init 58 = .ok (.putfield 33, 3) := by decide +kernel
theorem dX5_init_61 : decode cX5_init 61 = .ok (.return_, 1) := by decide +kernel
theorem dX5_begin_0 : decode cX5_begin 0 = .ok (.iconst 0, 1) := by decide +kernel
theorem dX5_begin_1 : decode cX5_begin 1 = .ok (.istore_n 2, 1) := by decide +kernel
theorem dX5_begin_2 : decode cX5_begin 2 = .ok (.iload_n 2, 1) := by decide +kernel
theorem dX5_begin_3 : decode cX5_begin 3 = .ok (.bipush 10, 2) := by decide +kernel
theorem dX5_begin_5 : decode cX5_begin 5 = .ok (.if_icmp .ge 31, 3) := by decide +kernel
theorem dX5_begin_8 : decode cX5_begin 8 = .ok (.aload_n 0, 1) := by decide +kernel
theorem dX5_begin_9 : decode cX5_begin 9 = .ok (.getfield 9, 3) := by decide +kernel
theorem dX5_begin_12 : decode cX5_begin 12 = .ok (.iload_n 2, 1) := by decide +kernel
theorem dX5_begin_13 : decode cX5_begin 13 = .ok (.aload_n 1, 1) := by decide +kernel
theorem dX5_begin_14 : decode cX5_begin 14 = .ok (.iload_n 2, 1) := by decide +kernel
theorem dX5_begin_15 : decode cX5_begin 15 = .ok (.invokevirtual 37, 3) := by decide +kernel
theorem dX5_begin_18 : decode cX5_begin 18 = .ok (.iastore, 1) := by decide +kernel
theorem dX5_begin_19 : decode cX5_begin 19 = .ok (.aload_n 0, 1) := by decide +kernel
theorem dX5_begin_20 : decode cX5_begin 20 = .ok (.getfield 15, 3) := by decide +kernel
theorem dX5_begin_23 : decode cX5_begin 23 = .ok (.iload_n 2, 1) := by decide +kernel
theorem dX5_begin_24 : decode cX5_begin 24 = .ok (.aload_n 1, 1) := by decide +kernel
theorem dX5_begin_25 : decode cX5_begin 25 = .ok (.iload_n 2, 1) := by decide +kernel
theorem dX5_begin_26 : decode cX5_begin 26 = .ok (.invokevirtual 43, 3) := by decide +kernel
theorem dX5_begin_29 : decode cX5_begin 29 = .ok (.iastore, 1) := by decide +kernel
theorem dX5_begin_30 : decode cX5_begin 30 = .ok (.iinc 2 1, 3) := by decide +kernel
theorem dX5_begin_33 : decode cX5_begin 33 = .ok (.goto (-31), 3) := by decide +kernel
theorem dX5_begin_36 : decode cX5_begin 36 = .ok (.aload_n 0, 1) := by decide +kernel
theorem dX5_begin_37 : decode cX5_begin 37 = .ok (.iconst 0, 1) := by decide +kernel
theorem dX5_begin_38 : decode cX5_begin 38 = .ok (.putfield 46, 3) := by decide +kernel
theorem dX5_begin_41 : decode cX5_begin 41 = .ok (.aload_n 0, 1) := by decide +kernel
theorem dX5_begin_42 : decode cX5_begin 42 = .ok (.iconst 0, 1) := by decide +kernel
theorem dX5_begin_43 : decode cX5_begin 43 = .ok (.putfield 50, 3) := by decide +kernel
theorem dX5_begin_46 : decode cX5_begin 46 = .ok (.return_, 1) := by decide +kernel
theorem dX5_copyFrom_0 : decode cX5_copyFrom 0 = .ok (.aload_n 1, 1) := by decide +kernel
theorem dX5_copyFrom_1 : decode cX5_copyFrom 1 = .ok (.getfield 9, 3) := by decide +kernel
theorem dX5_copyFrom_4 : decode cX5_copyFrom 4 = .ok (.iconst 0, 1) := by decide +kernel
theorem dX5_copyFrom_5 : decode cX5_copyFrom 5 = .ok (.aload_n 0, 1) := by decide +kernel
theorem dX5_copyFrom_6 : decode cX5_copyFrom 6 = .ok (.getfield 9, 3) := by decide +kernel
theorem dX5_copyFrom_9 : decode cX5_copyFrom 9 = .ok (.iconst 0, 1) := by decide +kernel
theorem dX5_copyFrom_10 : decode cX5_copyFrom 10 = .ok (.bipush 10, 2) := by decide +kernel
theorem dX5_copyFrom_12 : decode cX5_copyFrom 12 = .ok (.invokestatic 53, 3) := by decide +kernel
theorem dX5_copyFrom_15 : decode cX5_copyFrom 15 = .ok (.aload_n 1, 1) := by decide +kernel
theorem dX5_copyFrom_16 : decode cX5_copyFrom 16 = .ok (.getfield 15, 3) := by decide +kernel
theorem dX5_copyFrom_19 : decode cX5_copyFrom 19 = .ok (.iconst 0, 1) := by decide +kernel
theorem dX5_copyFrom_20 : decode cX5_copyFrom 20 = .ok (.aload_n 0, 1) := by decide +kernel
theorem dX5_copyFrom_21 : decode cX5_copyFrom 21 = .ok (.getfield 15, 3) := by decide +kernel
theorem dX5_copyFrom_24 : decode cX5_copyFrom 24 = .ok (.iconst 0, 1) := by decide +kernel
theorem dX5_copyFrom_25 : decode cX5_copyFrom 25 = .ok (.bipush 10, 2) := by decide +kernel
theorem dX5_copyFrom_27 : decode cX5_copyFrom 27 = .ok (.invokestatic 53, 3) := by decide +kernel
theorem dX5_copyFrom_30 : decode cX5_copyFrom 30 = .ok (.aload_n 1, 1) := by decide +kernel
theorem dX5_copyFrom_31 : decode cX5_copyFrom 31 = .ok (.getfield 18, 3) := by decide +kernel
theorem dX5_copyFrom_34 : decode cX5_copyFrom 34 = .ok (.iconst 0, 1) := by decide +kernel
theorem dX5_copyFrom_35 : decode cX5_copyFrom 35 = .ok (.aload_n 0, 1) := by decide +kernel
theorem dX5_copyFrom_36 : decode cX5_copyFrom 36 = .ok (.getfield 18, 3) := by decide +kernel
theorem dX5_copyFrom_39 : decode cX5_copyFrom 39 = .ok (.iconst 0, 1) := by decide +kernel
theorem dX5_copyFrom_40 : decode cX5_copyFrom 40 = .ok (.iconst 4, 1) := by decide +kernel
theorem dX5_copyFrom_41 : decode cX5_copyFrom 41 = .ok (.invokestatic 53, 3) := by decide +kernel
theorem dX5_copyFrom_44 : decode cX5_copyFrom 44 = .ok (.aload_n 1, 1) := by decide +kernel
theorem dX5_copyFrom_45 : decode cX5_copyFrom 45 = .ok (.getfield 21, 3) := by decide +kernel
theorem dX5_copyFrom_48 : decode cX5_copyFrom 48 = .ok (.iconst 0, 1) := by decide +kernel
theorem dX5_copyFrom_49 : decode cX5_copyFrom 49 = .ok (.aload_n 0, 1) := by decide +kernel
theorem dX5_copyFrom_50 : decode cX5_copyFrom 50 = .ok (.getfield 21, 3) := by decide +kernel
theorem dX5_copyFrom_53 : decode cX5_copyFrom 53 = .ok (.iconst 0, 1) := by decide +kernel
theorem dX5_copyFrom_54 : decode cX5_copyFrom 54 = .ok (.iconst 4, 1) := by decide +kernel
theorem dX5_copyFrom_55 : decode cX5_copyFrom 55 = .ok (.invokestatic 53, 3) := by decide +kernel
theorem dX5_copyFrom_58 : decode cX5_copyFrom 58 = .ok (.aload_n 1, 1) := by decide +kernel
theorem dX5_copyFrom_59 : decode cX5_copyFrom 59 = .ok (.getfield 24, 3) := by decide +kernel
theorem dX5_copyFrom_62 : decode cX5_copyFrom 62 = .ok (.iconst 0, 1) := by decide +kernel
theorem dX5_copyFrom_63 : decode cX5_copyFrom 63 = .ok (.aload_n 0, 1) := by decide +kernel
theorem dX5_copyFrom_64 : decode cX5_copyFrom 64 = .ok (.getfield 24, 3) := by decide +kernel
theorem dX5_copyFrom_67 : decode cX5_copyFrom 67 = .ok (.iconst 0, 1) := by decide +kernel
theorem dX5_copyFrom_68 : decode cX5_copyFrom 68 = .ok (.iconst 4, 1) := by decide +kernel
theorem dX5_copyFrom_69 : decode cX5_copyFrom 69 = .ok (.invokestatic 53, 3) := by decide +kernel
theorem dX5_copyFrom_72 : decode cX5_copyFrom 72 = .ok (.aload_n 1, 1) := by decide +kernel
theorem dX5_copyFrom_73 : decode cX5_copyFrom 73 = .ok (.getfield 27, 3) := by decide +kernel
theorem dX5_copyFrom_76 : decode cX5_copyFrom 76 = .ok (.iconst 0, 1) := by decide +kernel
theorem dX5_copyFrom_77 : decode cX5_copyFrom 77 = .ok (.aload_n 0, 1) := by decide +kernel
theorem dX5_copyFrom_78 : decode cX5_copyFrom 78 = .ok (.getfield 27, 3) := by decide +kernel
theorem dX5_copyFrom_81 : decode cX5_copyFrom 81 = .ok (.iconst 0, 1) := by decide +kernel
theorem dX5_copyFrom_82 : decode cX5_copyFrom 82 = .ok (.iconst 4, 1) := by decide +kernel
theorem dX5_copyFrom_83 : decode cX5_copyFrom 83 = .ok (.invokestatic 53, 3) := by decide +kernel
theorem dX5_copyFrom_86 : decode cX5_copyFrom 86 = .ok (.aload_n 1, 1) := by decide +kernel
theorem dX5_copyFrom_87 : decode cX5_copyFrom 87 = .ok (.getfield 30, 3) := by decide +kernel
theorem dX5_copyFrom_90 : decode cX5_copyFrom 90 = .ok (.iconst 0, 1) := by decide +kernel
theorem dX5_copyFrom_91 : decode cX5_copyFrom 91 = .ok (.aload_n 0, 1) := by decide +kernel
theorem dX5_copyFrom_92 : decode cX5_copyFrom 92 = .ok (.getfield 30, 3) := by decide +kernel
theorem dX5_copyFrom_95 : decode cX5_copyFrom 95 = .ok (.iconst 0, 1) := by decide +kernel
theorem dX5_copyFrom_96 : decode cX5_copyFrom 96 = .ok (.bipush 40, 2) := by decide +kernel
theorem dX5_copyFrom_98 : decode cX5_copyFrom 98 = .ok (.invokestatic 53, 3) := by decide +kernel
theorem dX5_copyFrom_101 : decode cX5_copyFrom 101 = .ok (.aload_n 0, 1) := by decide +kernel
theorem dX5_copyFrom_102 : decode cX5_copyFrom 102 = .ok (.aload_n 1, 1) := by decide +kernel
theorem dX5_copyFrom_103 : decode cX5_copyFrom 103 = .ok (.getfield 46, 3) := by decide +kernel
theorem dX5_copyFrom_106 : decode cX5_copyFrom 106 = .ok (.putfield 46, 3) := by decide +kernel
theorem dX5_copyFrom_109 : decode cX5_copyFrom 109 = .ok (.aload_n 0, 1) := by decide +kernel
theorem dX5_copyFrom_110 : decode cX5_copyFrom 110 = .ok (.aload_n 1, 1) := by decide +kernel
theorem dX5_copyFrom_111 : decode cX5_copyFrom 111 = .ok (.getfield 50, 3) := by decide +kernel
theorem dX5_copyFrom_114 : decode cX5_copyFrom 114 = .ok (.putfield 50, 3) := by decide +kernel
theorem dX5_copyFrom_117 : decode cX5_copyFrom 117 = .ok (.return_, 1) := by decide +kernel
theorem dX5_xOf_0 : decode cX5_xOf 0 = .ok (.iload_n 1, 1) := by decide +kernel
theorem dX5_xOf_1 : decode cX5_xOf 1 = .ok (.ifCond .lt 18, 3) := by decide +kernel
theorem dX5_xOf_4 : decode cX5_xOf 4 = .ok (.iload_n 1, 1) := by decide +kernel
theorem dX5_xOf_5 : decode cX5_xOf 5 = .ok (.bipush 10, 2) := by decide +kernel
theorem dX5_xOf_7 : decode cX5_xOf 7 = .ok (.if_icmp .ge 12, 3) := by decide +kernel
theorem dX5_xOf_10 : decode cX5_xOf 10 = .ok (.aload_n 0, 1) := by decide +kernel
theorem dX5_xOf_11 : decode cX5_xOf 11 = .ok (.getfield 9, 3) := by decide +kernel
theorem dX5_xOf_14 : decode cX5_xOf 14 = .ok (.iload_n 1, 1) := by decide +kernel
theorem dX5_xOf_15 : decode cX5_xOf 15 = .ok (.iaload, 1) := by decide +kernel
theorem dX5_xOf_16 : decode cX5_xOf 16 = .ok (.goto 4, 3) := by decide +kernel
theorem dX5_xOf_19 : decode cX5_xOf 19 = .ok (.iconst 0, 1) := by decide +kernel
theorem dX5_xOf_20 : decode cX5_xOf 20 = .ok (.ireturn, 1) := by decide +kernel
theorem dX5_yOf_0 : decode cX5_yOf 0 = .ok (.iload_n 1, 1) := by decide +kernel
theorem dX5_yOf_1 : decode cX5_yOf 1 = .ok (.ifCond .lt 18, 3) := by decide +kernel
theorem dX5_yOf_4 : decode cX5_yOf 4 = .ok (.iload_n 1, 1) := by decide +kernel
theorem dX5_yOf_5 : decode cX5_yOf 5 = .ok (.bipush 10, 2) := by decide +kernel
theorem dX5_yOf_7 : decode cX5_yOf 7 = .ok (.if_icmp .ge 12, 3) := by decide +kernel
theorem dX5_yOf_10 : decode cX5_yOf 10 = .ok (.aload_n 0, 1) := by decide +kernel
theorem dX5_yOf_11 : decode cX5_yOf 11 = .ok (.getfield 15, 3) := by decide +kernel
theorem dX5_yOf_14 : decode cX5_yOf 14 = .ok (.iload_n 1, 1) := by decide +kernel
theorem dX5_yOf_15 : decode cX5_yOf 15 = .ok (.iaload, 1) := by decide +kernel
theorem dX5_yOf_16 : decode cX5_yOf 16 = .ok (.goto 4, 3) := by decide +kernel
theorem dX5_yOf_19 : decode cX5_yOf 19 = .ok (.iconst 0, 1) := by decide +kernel
theorem dX5_yOf_20 : decode cX5_yOf 20 = .ok (.ireturn, 1) := by decide +kernel
theorem dX5_easedPlaces_0 : decode cX5_easedPlaces 0 = .ok (.aload_n 0, 1) := by decide +kernel
theorem dX5_easedPlaces_1 : decode cX5_easedPlaces 1 = .ok (.getfield 46, 3) := by decide +kernel
theorem dX5_easedPlaces_4 : decode cX5_easedPlaces 4 = .ok (.ireturn, 1) := by decide +kernel
theorem dX5_setsThatOpen_0 : decode cX5_setsThatOpen 0 = .ok (.iconst 0, 1) := by decide +kernel
theorem dX5_setsThatOpen_1 : decode cX5_setsThatOpen 1 = .ok (.istore_n 2, 1) := by decide +kernel
theorem dX5_setsThatOpen_2 : decode cX5_setsThatOpen 2 = .ok (.iconst 0, 1) := by decide +kernel
theorem dX5_setsThatOpen_3 : decode cX5_setsThatOpen 3 = .ok (.istore_n 3, 1) := by decide +kernel
theorem dX5_setsThatOpen_4 : decode cX5_setsThatOpen 4 = .ok (.iload_n 3, 1) := by decide +kernel
theorem dX5_setsThatOpen_5 : decode cX5_setsThatOpen 5 = .ok (.aload_n 0, 1) := by decide +kernel
theorem dX5_setsThatOpen_6 : decode cX5_setsThatOpen 6 = .ok (.getfield 33, 3) := by decide +kernel
theorem dX5_setsThatOpen_9 : decode cX5_setsThatOpen 9 = .ok (.invokevirtual 59, 3) := by decide +kernel
theorem dX5_setsThatOpen_12 : decode cX5_setsThatOpen 12 = .ok (.if_icmp .gt 36, 3) := by decide +kernel
theorem dX5_setsThatOpen_15 : decode cX5_setsThatOpen 15 = .ok (.iload_n 1, 1) := by decide +kernel
theorem dX5_setsThatOpen_16 : decode cX5_setsThatOpen 16 = .ok (.iload_n 3, 1) := by decide +kernel
theorem dX5_setsThatOpen_17 : decode cX5_setsThatOpen 17 = .ok (.invokestatic 65, 3) := by decide +kernel
theorem dX5_setsThatOpen_20 : decode cX5_setsThatOpen 20 = .ok (.ifCond .ne 22, 3) := by decide +kernel
theorem dX5_setsThatOpen_23 : decode cX5_setsThatOpen 23 = .ok (.aload_n 0, 1) := by decide +kernel
theorem dX5_setsThatOpen_24 : decode cX5_setsThatOpen 24 = .ok (.getfield 33, 3) := by decide +kernel
theorem dX5_setsThatOpen_27 : decode cX5_setsThatOpen 27 = .ok (.iload_n 1, 1) := by decide +kernel
theorem dX5_setsThatOpen_28 : decode cX5_setsThatOpen 28 = .ok (.iload_n 3, 1) := by decide +kernel
theorem dX5_setsThatOpen_29 : decode cX5_setsThatOpen 29 = .ok (.aload_n 0, 1) := by decide +kernel
theorem dX5_setsThatOpen_30 : decode cX5_setsThatOpen 30 = .ok (.getfield 46, 3) := by decide +kernel
theorem dX5_setsThatOpen_33 : decode cX5_setsThatOpen 33 = .ok (.invokevirtual 69, 3) := by decide +kernel
theorem dX5_setsThatOpen_36 : decode cX5_setsThatOpen 36 = .ok (.ifCond .eq 6, 3) := by decide +kernel
theorem dX5_setsThatOpen_39 : decode cX5_setsThatOpen 39 = .ok (.iinc 2 1, 3) := by decide +kernel
theorem dX5_setsThatOpen_42 : decode cX5_setsThatOpen 42 = .ok (.iinc 3 1, 3) := by decide +kernel
theorem dX5_setsThatOpen_45 : decode cX5_setsThatOpen 45 = .ok (.goto (-41), 3) := by decide +kernel
theorem dX5_setsThatOpen_48 : decode cX5_setsThatOpen 48 = .ok (.iload_n 2, 1) := by decide +kernel
theorem dX5_setsThatOpen_49 : decode cX5_setsThatOpen 49 = .ok (.ireturn, 1) := by decide +kernel
theorem dX5_minutesBetween_0 : decode cX5_minutesBetween 0 = .ok (.aload_n 0, 1) := by decide +kernel
theorem dX5_minutesBetween_1 : decode cX5_minutesBetween 1 = .ok (.iload_n 1, 1) := by decide +kernel
theorem dX5_minutesBetween_2 : decode cX5_minutesBetween 2 = .ok (.invokevirtual 73, 3) := by decide +kernel
theorem dX5_minutesBetween_5 : decode cX5_minutesBetween 5 = .ok (.aload_n 0, 1) := by decide +kernel
theorem dX5_minutesBetween_6 : decode cX5_minutesBetween 6 = .ok (.iload_n 2, 1) := by decide +kernel
theorem dX5_minutesBetween_7 : decode cX5_minutesBetween 7 = .ok (.invokevirtual 73, 3) := by decide +kernel
theorem dX5_minutesBetween_10 : decode cX5_minutesBetween 10 = .ok (.isub, 1) := by decide +kernel
theorem dX5_minutesBetween_11 : decode cX5_minutesBetween 11 = .ok (.invokestatic 74, 3) := by decide +kernel
theorem dX5_minutesBetween_14 : decode cX5_minutesBetween 14 = .ok (.aload_n 0, 1) := by decide +kernel
theorem dX5_minutesBetween_15 : decode cX5_minutesBetween 15 = .ok (.iload_n 1, 1) := by decide +kernel
theorem dX5_minutesBetween_16 : decode cX5_minutesBetween 16 = .ok (.invokevirtual 79, 3) := by decide +kernel
theorem dX5_minutesBetween_19 : decode cX5_minutesBetween 19 = .ok (.aload_n 0, 1) := by decide +kernel
theorem dX5_minutesBetween_20 : decode cX5_minutesBetween 20 = .ok (.iload_n 2, 1) := by decide +kernel
theorem dX5_minutesBetween_21 : decode cX5_minutesBetween 21 = .ok (.invokevirtual 79, 3) := by decide +kernel
theorem dX5_minutesBetween_24 : decode cX5_minutesBetween 24 = .ok (.isub, 1) := by decide +kernel
theorem dX5_minutesBetween_25 : decode cX5_minutesBetween 25 = .ok (.invokestatic 74, 3) := by decide +kernel
theorem dX5_minutesBetween_28 : decode cX5_minutesBetween 28 = .ok (.iadd, 1) := by decide +kernel
theorem dX5_minutesBetween_29 : decode cX5_minutesBetween 29 = .ok (.iconst 1, 1) := by decide +kernel
theorem dX5_minutesBetween_30 : decode cX5_minutesBetween 30 = .ok (.iadd, 1) := by decide +kernel
theorem dX5_minutesBetween_31 : decode cX5_minutesBetween 31 = .ok (.ireturn, 1) := by decide +kernel
theorem dX5_teamCount_0 : decode cX5_teamCount 0 = .ok (.aload_n 0, 1) := by decide +kernel
theorem dX5_teamCount_1 : decode cX5_teamCount 1 = .ok (.getfield 50, 3) := by decide +kernel
theorem dX5_teamCount_4 : decode cX5_teamCount 4 = .ok (.ireturn, 1) := by decide +kernel
theorem dX5_hasTeam_0 : decode cX5_hasTeam 0 = .ok (.iload_n 1, 1) := by decide +kernel
theorem dX5_hasTeam_1 : decode cX5_hasTeam 1 = .ok (.ifCond .lt 15, 3) := by decide +kernel
theorem dX5_hasTeam_4 : decode cX5_hasTeam 4 = .ok (.iload_n 1, 1) := by decide +kernel
theorem dX5_hasTeam_5 : decode cX5_hasTeam 5 = .ok (.aload_n 0, 1) := by decide +kernel
theorem dX5_hasTeam_6 : decode cX5_hasTeam 6 = .ok (.getfield 50, 3) := by decide +kernel
theorem dX5_hasTeam_9 : decode cX5_hasTeam 9 = .ok (.if_icmp .ge 7, 3) := by decide +kernel
theorem dX5_hasTeam_12 : decode cX5_hasTeam 12 = .ok (.iconst 1, 1) := by decide +kernel
theorem dX5_hasTeam_13 : decode cX5_hasTeam 13 = .ok (.goto 4, 3) := by decide +kernel
theorem dX5_hasTeam_16 : decode cX5_hasTeam 16 = .ok (.iconst 0, 1) := by decide +kernel
theorem dX5_hasTeam_17 : decode cX5_hasTeam 17 = .ok (.ireturn, 1) := by decide +kernel
theorem dX5_hasRoom_0 : decode cX5_hasRoom 0 = .ok (.aload_n 0, 1) := by decide +kernel
theorem dX5_hasRoom_1 : decode cX5_hasRoom 1 = .ok (.getfield 50, 3) := by decide +kernel
theorem dX5_hasRoom_4 : decode cX5_hasRoom 4 = .ok (.iconst 4, 1) := by decide +kernel
theorem dX5_hasRoom_5 : decode cX5_hasRoom 5 = .ok (.if_icmp .ge 7, 3) := by decide +kernel
theorem dX5_hasRoom_8 : decode cX5_hasRoom 8 = .ok (.iconst 1, 1) := by decide +kernel
theorem dX5_hasRoom_9 : decode cX5_hasRoom 9 = .ok (.goto 4, 3) := by decide +kernel
theorem dX5_hasRoom_12 : decode cX5_hasRoom 12 = .ok (.iconst 0, 1) := by decide +kernel
theorem dX5_hasRoom_13 : decode cX5_hasRoom 13 = .ok (.ireturn, 1) := by decide +kernel
theorem dX5_visitedBy_0 : decode cX5_visitedBy 0 = .ok (.aload_n 0, 1) := by decide +kernel
theorem dX5_visitedBy_1 : decode cX5_visitedBy 1 = .ok (.iload_n 1, 1) := by decide +kernel
theorem dX5_visitedBy_2 : decode cX5_visitedBy 2 = .ok (.invokevirtual 80, 3) := by decide +kernel
theorem dX5_visitedBy_5 : decode cX5_visitedBy 5 = .ok (.ifCond .eq 12, 3) := by decide +kernel
theorem dX5_visitedBy_8 : decode cX5_visitedBy 8 = .ok (.aload_n 0, 1) := by decide +kernel
theorem dX5_visitedBy_9 : decode cX5_visitedBy 9 = .ok (.getfield 18, 3) := by decide +kernel
theorem dX5_visitedBy_12 : decode cX5_visitedBy 12 = .ok (.iload_n 1, 1) := by decide +kernel
theorem dX5_visitedBy_13 : decode cX5_visitedBy 13 = .ok (.iaload, 1) := by decide +kernel
theorem dX5_visitedBy_14 : decode cX5_visitedBy 14 = .ok (.goto 4, 3) := by decide +kernel
theorem dX5_visitedBy_17 : decode cX5_visitedBy 17 = .ok (.iconst 0, 1) := by decide +kernel
theorem dX5_visitedBy_18 : decode cX5_visitedBy 18 = .ok (.ireturn, 1) := by decide +kernel
theorem dX5_visitsOf_0 : decode cX5_visitsOf 0 = .ok (.aload_n 0, 1) := by decide +kernel
theorem dX5_visitsOf_1 : decode cX5_visitsOf 1 = .ok (.iload_n 1, 1) := by decide +kernel
theorem dX5_visitsOf_2 : decode cX5_visitsOf 2 = .ok (.invokevirtual 80, 3) := by decide +kernel
theorem dX5_visitsOf_5 : decode cX5_visitsOf 5 = .ok (.ifCond .eq 12, 3) := by decide +kernel
theorem dX5_visitsOf_8 : decode cX5_visitsOf 8 = .ok (.aload_n 0, 1) := by decide +kernel
theorem dX5_visitsOf_9 : decode cX5_visitsOf 9 = .ok (.getfield 21, 3) := by decide +kernel
theorem dX5_visitsOf_12 : decode cX5_visitsOf 12 = .ok (.iload_n 1, 1) := by decide +kernel
theorem dX5_visitsOf_13 : decode cX5_visitsOf 13 = .ok (.iaload, 1) := by decide +kernel
theorem dX5_visitsOf_14 : decode cX5_visitsOf 14 = .ok (.goto 4, 3) := by decide +kernel
theorem dX5_visitsOf_17 : decode cX5_visitsOf 17 = .ok (.iconst 0, 1) := by decide +kernel
theorem dX5_visitsOf_18 : decode cX5_visitsOf 18 = .ok (.ireturn, 1) := by decide +kernel
theorem dX5_minutesOf_0 : decode cX5_minutesOf 0 = .ok (.aload_n 0, 1) := by decide +kernel
theorem dX5_minutesOf_1 : decode cX5_minutesOf 1 = .ok (.iload_n 1, 1) := by decide +kernel
theorem dX5_minutesOf_2 : decode cX5_minutesOf 2 = .ok (.invokevirtual 80, 3) := by decide +kernel
theorem dX5_minutesOf_5 : decode cX5_minutesOf 5 = .ok (.ifCond .eq 12, 3) := by decide +kernel
theorem dX5_minutesOf_8 : decode cX5_minutesOf 8 = .ok (.aload_n 0, 1) := by decide +kernel
theorem dX5_minutesOf_9 : decode cX5_minutesOf 9 = .ok (.getfield 24, 3) := by decide +kernel
theorem dX5_minutesOf_12 : decode cX5_minutesOf 12 = .ok (.iload_n 1, 1) := by decide +kernel
theorem dX5_minutesOf_13 : decode cX5_minutesOf 13 = .ok (.iaload, 1) := by decide +kernel
theorem dX5_minutesOf_14 : decode cX5_minutesOf 14 = .ok (.goto 4, 3) := by decide +kernel
theorem dX5_minutesOf_17 : decode cX5_minutesOf 17 = .ok (.iconst 0, 1) := by decide +kernel
theorem dX5_minutesOf_18 : decode cX5_minutesOf 18 = .ok (.ireturn, 1) := by decide +kernel
theorem dX5_hintsOf_0 : decode cX5_hintsOf 0 = .ok (.aload_n 0, 1) := by decide +kernel
theorem dX5_hintsOf_1 : decode cX5_hintsOf 1 = .ok (.iload_n 1, 1) := by decide +kernel
theorem dX5_hintsOf_2 : decode cX5_hintsOf 2 = .ok (.invokevirtual 80, 3) := by decide +kernel
theorem dX5_hintsOf_5 : decode cX5_hintsOf 5 = .ok (.ifCond .eq 12, 3) := by decide +kernel
theorem dX5_hintsOf_8 : decode cX5_hintsOf 8 = .ok (.aload_n 0, 1) := by decide +kernel
theorem dX5_hintsOf_9 : decode cX5_hintsOf 9 = .ok (.getfield 27, 3) := by decide +kernel
theorem dX5_hintsOf_12 : decode cX5_hintsOf 12 = .ok (.iload_n 1, 1) := by decide +kernel
theorem dX5_hintsOf_13 : decode cX5_hintsOf 13 = .ok (.iaload, 1) := by decide +kernel
theorem dX5_hintsOf_14 : decode cX5_hintsOf 14 = .ok (.goto 4, 3) := by decide +kernel
theorem dX5_hintsOf_17 : decode cX5_hintsOf 17 = .ok (.iconst 0, 1) := by decide +kernel
theorem dX5_hintsOf_18 : decode cX5_hintsOf 18 = .ok (.ireturn, 1) := by decide +kernel
theorem dX5_scoreOf_0 : decode cX5_scoreOf 0 = .ok (.aload_n 0, 1) := by decide +kernel
theorem dX5_scoreOf_1 : decode cX5_scoreOf 1 = .ok (.getfield 33, 3) := by decide +kernel
theorem dX5_scoreOf_4 : decode cX5_scoreOf 4 = .ok (.aload_n 0, 1) := by decide +kernel
theorem dX5_scoreOf_5 : decode cX5_scoreOf 5 = .ok (.iload_n 1, 1) := by decide +kernel
theorem dX5_scoreOf_6 : decode cX5_scoreOf 6 = .ok (.invokevirtual 84, 3) := by decide +kernel
theorem dX5_scoreOf_9 : decode cX5_scoreOf 9 = .ok (.invokevirtual 87, 3) := by decide +kernel
theorem dX5_scoreOf_12 : decode cX5_scoreOf 12 = .ok (.ifCond .ne 5, 3) := by decide +kernel
theorem dX5_scoreOf_15 : decode cX5_scoreOf 15 = .ok (.iconst 0, 1) := by decide +kernel
theorem dX5_scoreOf_16 : decode cX5_scoreOf 16 = .ok (.ireturn, 1) := by decide +kernel
theorem dX5_scoreOf_17 : decode cX5_scoreOf 17 = .ok (.iconst 0, 1) := by decide +kernel
theorem dX5_scoreOf_18 : decode cX5_scoreOf 18 = .ok (.sipush 200, 3) := by decide +kernel
theorem dX5_scoreOf_21 : decode cX5_scoreOf 21 = .ok (.aload_n 0, 1) := by decide +kernel
theorem dX5_scoreOf_22 : decode cX5_scoreOf 22 = .ok (.iload_n 1, 1) := by decide +kernel
theorem dX5_scoreOf_23 : decode cX5_scoreOf 23 = .ok (.invokevirtual 90, 3) := by decide +kernel
theorem dX5_scoreOf_26 : decode cX5_scoreOf 26 = .ok (.isub, 1) := by decide +kernel
theorem dX5_scoreOf_27 : decode cX5_scoreOf 27 = .ok (.bipush 10, 2) := by decide +kernel
theorem dX5_scoreOf_29 : decode cX5_scoreOf 29 = .ok (.aload_n 0, 1) := by decide +kernel
theorem dX5_scoreOf_30 : decode cX5_scoreOf 30 = .ok (.iload_n 1, 1) := by decide +kernel
theorem dX5_scoreOf_31 : decode cX5_scoreOf 31 = .ok (.invokevirtual 93, 3) := by decide +kernel
theorem dX5_scoreOf_34 : decode cX5_scoreOf 34 = .ok (.imul, 1) := by decide +kernel
theorem dX5_scoreOf_35 : decode cX5_scoreOf 35 = .ok (.isub, 1) := by decide +kernel
theorem dX5_scoreOf_36 : decode cX5_scoreOf 36 = .ok (.invokestatic 96, 3) := by decide +kernel
theorem dX5_scoreOf_39 : decode cX5_scoreOf 39 = .ok (.ireturn, 1) := by decide +kernel
theorem dX5_visitOf_0 : decode cX5_visitOf 0 = .ok (.aload_n 0, 1) := by decide +kernel
theorem dX5_visitOf_1 : decode cX5_visitOf 1 = .ok (.iload_n 1, 1) := by decide +kernel
theorem dX5_visitOf_2 : decode cX5_visitOf 2 = .ok (.invokevirtual 80, 3) := by decide +kernel
theorem dX5_visitOf_5 : decode cX5_visitOf 5 = .ok (.ifCond .eq 31, 3) := by decide +kernel
theorem dX5_visitOf_8 : decode cX5_visitOf 8 = .ok (.iload_n 2, 1) := by decide +kernel
theorem dX5_visitOf_9 : decode cX5_visitOf 9 = .ok (.ifCond .lt 27, 3) := by decide +kernel
theorem dX5_visitOf_12 : decode cX5_visitOf 12 = .ok (.iload_n 2, 1) := by decide +kernel
theorem dX5_visitOf_13 : decode cX5_visitOf 13 = .ok (.aload_n 0, 1) := by decide +kernel
theorem dX5_visitOf_14 : decode cX5_visitOf 14 = .ok (.getfield 21, 3) := by decide +kernel
theorem dX5_visitOf_17 : decode cX5_visitOf 17 = .ok (.iload_n 1, 1) := by decide +kernel
theorem dX5_visitOf_18 : decode cX5_visitOf 18 = .ok (.iaload, 1) := by decide +kernel
theorem dX5_visitOf_19 : decode cX5_visitOf 19 = .ok (.if_icmp .ge 17, 3) := by decide +kernel
theorem dX5_visitOf_22 : decode cX5_visitOf 22 = .ok (.aload_n 0, 1) := by decide +kernel
theorem dX5_visitOf_23 : decode cX5_visitOf 23 = .ok (.getfield 30, 3) := by decide +kernel
theorem dX5_visitOf_26 : decode cX5_visitOf 26 = .ok (.iload_n 1, 1) := by decide +kernel
theorem dX5_visitOf_27 : decode cX5_visitOf 27 = .ok (.bipush 10, 2) := by decide +kernel
theorem dX5_visitOf_29 : decode cX5_visitOf 29 = .ok (.imul, 1) := by decide +kernel
theorem dX5_visitOf_30 : decode cX5_visitOf 30 = .ok (.iload_n 2, 1) := by decide +kernel
theorem dX5_visitOf_31 : decode cX5_visitOf 31 = .ok (.iadd, 1) := by decide +kernel
theorem dX5_visitOf_32 : decode cX5_visitOf 32 = .ok (.iaload, 1) := by decide +kernel
theorem dX5_visitOf_33 : decode cX5_visitOf 33 = .ok (.goto 5, 3) := by decide +kernel
theorem dX5_visitOf_36 : decode cX5_visitOf 36 = .ok (.bipush (-9), 2) := by decide +kernel
theorem dX5_visitOf_38 : decode cX5_visitOf 38 = .ok (.ireturn, 1) := by decide +kernel
theorem dX5_lastOf_0 : decode cX5_lastOf 0 = .ok (.aload_n 0, 1) := by decide +kernel
theorem dX5_lastOf_1 : decode cX5_lastOf 1 = .ok (.iload_n 1, 1) := by decide +kernel
theorem dX5_lastOf_2 : decode cX5_lastOf 2 = .ok (.invokevirtual 80, 3) := by decide +kernel
theorem dX5_lastOf_5 : decode cX5_lastOf 5 = .ok (.ifCond .eq 19, 3) := by decide +kernel
theorem dX5_lastOf_8 : decode cX5_lastOf 8 = .ok (.aload_n 0, 1) := by decide +kernel
theorem dX5_lastOf_9 : decode cX5_lastOf 9 = .ok (.iload_n 1, 1) := by decide +kernel
theorem dX5_lastOf_10 : decode cX5_lastOf 10 = .ok (.aload_n 0, 1) := by decide +kernel
theorem dX5_lastOf_11 : decode cX5_lastOf 11 = .ok (.getfield 21, 3) := by decide +kernel
theorem dX5_lastOf_14 : decode cX5_lastOf 14 = .ok (.iload_n 1, 1) := by decide +kernel
theorem dX5_lastOf_15 : decode cX5_lastOf 15 = .ok (.iaload, 1) := by decide +kernel
theorem dX5_lastOf_16 : decode cX5_lastOf 16 = .ok (.iconst 1, 1) := by decide +kernel
theorem dX5_lastOf_17 : decode cX5_lastOf 17 = .ok (.isub, 1) := by decide +kernel
theorem dX5_lastOf_18 : decode cX5_lastOf 18 = .ok (.invokevirtual 100, 3) := by decide +kernel
theorem dX5_lastOf_21 : decode cX5_lastOf 21 = .ok (.goto 5, 3) := by decide +kernel
theorem dX5_lastOf_24 : decode cX5_lastOf 24 = .ok (.bipush (-9), 2) := by decide +kernel
theorem dX5_lastOf_26 : decode cX5_lastOf 26 = .ok (.ireturn, 1) := by decide +kernel
theorem dX5_openTo_0 : decode cX5_openTo 0 = .ok (.aload_n 0, 1) := by decide +kernel
theorem dX5_openTo_1 : decode cX5_openTo 1 = .ok (.iload_n 1, 1) := by decide +kernel
theorem dX5_openTo_2 : decode cX5_openTo 2 = .ok (.invokevirtual 80, 3) := by decide +kernel
theorem dX5_openTo_5 : decode cX5_openTo 5 = .ok (.ifCond .eq 23, 3) := by decide +kernel
theorem dX5_openTo_8 : decode cX5_openTo 8 = .ok (.aload_n 0, 1) := by decide +kernel
theorem dX5_openTo_9 : decode cX5_openTo 9 = .ok (.getfield 33, 3) := by decide +kernel
theorem dX5_openTo_12 : decode cX5_openTo 12 = .ok (.aload_n 0, 1) := by decide +kernel
theorem dX5_openTo_13 : decode cX5_openTo 13 = .ok (.getfield 18, 3) := by decide +kernel
theorem dX5_openTo_16 : decode cX5_openTo 16 = .ok (.iload_n 1, 1) := by decide +kernel
theorem dX5_openTo_17 : decode cX5_openTo 17 = .ok (.iaload, 1) := by decide +kernel
theorem dX5_openTo_18 : decode cX5_openTo 18 = .ok (.aload_n 0, 1) := by decide +kernel
theorem dX5_openTo_19 : decode cX5_openTo 19 = .ok (.getfield 46, 3) := by decide +kernel
theorem dX5_openTo_22 : decode cX5_openTo 22 = .ok (.invokevirtual 103, 3) := by decide +kernel
theorem dX5_openTo_25 : decode cX5_openTo 25 = .ok (.goto 4, 3) := by decide +kernel
theorem dX5_openTo_28 : decode cX5_openTo 28 = .ok (.iconst 0, 1) := by decide +kernel
theorem dX5_openTo_29 : decode cX5_openTo 29 = .ok (.ireturn, 1) := by decide +kernel
theorem dX5_canVisit_0 : decode cX5_canVisit 0 = .ok (.aload_n 0, 1) := by decide +kernel
theorem dX5_canVisit_1 : decode cX5_canVisit 1 = .ok (.getfield 33, 3) := by decide +kernel
theorem dX5_canVisit_4 : decode cX5_canVisit 4 = .ok (.iload_n 2, 1) := by decide +kernel
theorem dX5_canVisit_5 : decode cX5_canVisit 5 = .ok (.invokevirtual 106, 3) := by decide +kernel
theorem dX5_canVisit_8 : decode cX5_canVisit 8 = .ok (.ifCond .eq 19, 3) := by decide +kernel
theorem dX5_canVisit_11 : decode cX5_canVisit 11 = .ok (.iload_n 2, 1) := by decide +kernel
theorem dX5_canVisit_12 : decode cX5_canVisit 12 = .ok (.aload_n 0, 1) := by decide +kernel
theorem dX5_canVisit_13 : decode cX5_canVisit 13 = .ok (.iload_n 1, 1) := by decide +kernel
theorem dX5_canVisit_14 : decode cX5_canVisit 14 = .ok (.invokevirtual 109, 3) := by decide +kernel
theorem dX5_canVisit_17 : decode cX5_canVisit 17 = .ok (.invokestatic 65, 3) := by decide +kernel
theorem dX5_canVisit_20 : decode cX5_canVisit 20 = .ok (.ifCond .eq 7, 3) := by decide +kernel
theorem dX5_canVisit_23 : decode cX5_canVisit 23 = .ok (.iconst 1, 1) := by decide +kernel
theorem dX5_canVisit_24 : decode cX5_canVisit 24 = .ok (.goto 4, 3) := by decide +kernel
theorem dX5_canVisit_27 : decode cX5_canVisit 27 = .ok (.iconst 0, 1) := by decide +kernel
theorem dX5_canVisit_28 : decode cX5_canVisit 28 = .ok (.ireturn, 1) := by decide +kernel
theorem dX5_teamsAt_0 : decode cX5_teamsAt 0 = .ok (.iconst 0, 1) := by decide +kernel
theorem dX5_teamsAt_1 : decode cX5_teamsAt 1 = .ok (.istore_n 2, 1) := by decide +kernel
theorem dX5_teamsAt_2 : decode cX5_teamsAt 2 = .ok (.iconst 0, 1) := by decide +kernel
theorem dX5_teamsAt_3 : decode cX5_teamsAt 3 = .ok (.istore_n 3, 1) := by decide +kernel
theorem dX5_teamsAt_4 : decode cX5_teamsAt 4 = .ok (.iload_n 3, 1) := by decide +kernel
theorem dX5_teamsAt_5 : decode cX5_teamsAt 5 = .ok (.aload_n 0, 1) := by decide +kernel
theorem dX5_teamsAt_6 : decode cX5_teamsAt 6 = .ok (.getfield 50, 3) := by decide +kernel
theorem dX5_teamsAt_9 : decode cX5_teamsAt 9 = .ok (.if_icmp .ge 25, 3) := by decide +kernel
theorem dX5_teamsAt_12 : decode cX5_teamsAt 12 = .ok (.iload_n 1, 1) := by decide +kernel
theorem dX5_teamsAt_13 : decode cX5_teamsAt 13 = .ok (.aload_n 0, 1) := by decide +kernel
theorem dX5_teamsAt_14 : decode cX5_teamsAt 14 = .ok (.getfield 18, 3) := by decide +kernel
theorem dX5_teamsAt_17 : decode cX5_teamsAt 17 = .ok (.iload_n 3, 1) := by decide +kernel
theorem dX5_teamsAt_18 : decode cX5_teamsAt 18 = .ok (.iaload, 1) := by decide +kernel
theorem dX5_teamsAt_19 : decode cX5_teamsAt 19 = .ok (.invokestatic 65, 3) := by decide +kernel
theorem dX5_teamsAt_22 : decode cX5_teamsAt 22 = .ok (.ifCond .eq 6, 3) := by decide +kernel
theorem dX5_teamsAt_25 : decode cX5_teamsAt 25 = .ok (.iinc 2 1, 3) := by decide +kernel
theorem dX5_teamsAt_28 : decode cX5_teamsAt 28 = .ok (.iinc 3 1, 3) := by decide +kernel
theorem dX5_teamsAt_31 : decode cX5_teamsAt 31 = .ok (.goto (-27), 3) := by decide +kernel
theorem dX5_teamsAt_34 : decode cX5_teamsAt 34 = .ok (.iload_n 2, 1) := by decide +kernel
theorem dX5_teamsAt_35 : decode cX5_teamsAt 35 = .ok (.ireturn, 1) := by decide +kernel
theorem dX5_greatestScore_0 : decode cX5_greatestScore 0 = .ok (.iconst 0, 1) := by decide +kernel
theorem dX5_greatestScore_1 : decode cX5_greatestScore 1 = .ok (.istore_n 1, 1) := by decide +kernel
theorem dX5_greatestScore_2 : decode cX5_greatestScore 2 = .ok (.iconst 0, 1) := by decide +kernel
theorem dX5_greatestScore_3 : decode cX5_greatestScore 3 = .ok (.istore_n 2, 1) := by decide +kernel
theorem dX5_greatestScore_4 : decode cX5_greatestScore 4 = .ok (.iload_n 2, 1) := by decide +kernel
theorem dX5_greatestScore_5 : decode cX5_greatestScore 5 = .ok (.aload_n 0, 1) := by decide +kernel
theorem dX5_greatestScore_6 : decode cX5_greatestScore 6 = .ok (.getfield 50, 3) := by decide +kernel
theorem dX5_greatestScore_9 : decode cX5_greatestScore 9 = .ok (.if_icmp .ge 19, 3) := by decide +kernel
theorem dX5_greatestScore_12 : decode cX5_greatestScore 12 = .ok (.iload_n 1, 1) := by decide +kernel
theorem dX5_greatestScore_13 : decode cX5_greatestScore 13 = .ok (.aload_n 0, 1) := by decide +kernel
theorem dX5_greatestScore_14 : decode cX5_greatestScore 14 = .ok (.iload_n 2, 1) := by decide +kernel
theorem dX5_greatestScore_15 : decode cX5_greatestScore 15 = .ok (.invokevirtual 112, 3) := by decide +kernel
theorem dX5_greatestScore_18 : decode cX5_greatestScore 18 = .ok (.invokestatic 96, 3) := by decide +kernel
theorem dX5_greatestScore_21 : decode cX5_greatestScore 21 = .ok (.istore_n 1, 1) := by decide +kernel
theorem dX5_greatestScore_22 : decode cX5_greatestScore 22 = .ok (.iinc 2 1, 3) := by decide +kernel
theorem dX5_greatestScore_25 : decode cX5_greatestScore 25 = .ok (.goto (-21), 3) := by decide +kernel
theorem dX5_greatestScore_28 : decode cX5_greatestScore 28 = .ok (.iload_n 1, 1) := by decide +kernel
theorem dX5_greatestScore_29 : decode cX5_greatestScore 29 = .ok (.ireturn, 1) := by decide +kernel
theorem dX5_visitedByAny_0 : decode cX5_visitedByAny 0 = .ok (.iconst 0, 1) := by decide +kernel
theorem dX5_visitedByAny_1 : decode cX5_visitedByAny 1 = .ok (.istore_n 1, 1) := by decide +kernel
theorem dX5_visitedByAny_2 : decode cX5_visitedByAny 2 = .ok (.iconst 0, 1) := by decide +kernel
theorem dX5_visitedByAny_3 : decode cX5_visitedByAny 3 = .ok (.istore_n 2, 1) := by decide +kernel
theorem dX5_visitedByAny_4 : decode cX5_visitedByAny 4 = .ok (.iload_n 2, 1) := by decide +kernel
theorem dX5_visitedByAny_5 : decode cX5_visitedByAny 5 = .ok (.aload_n 0, 1) := by decide +kernel
theorem dX5_visitedByAny_6 : decode cX5_visitedByAny 6 = .ok (.getfield 50, 3) := by decide +kernel
theorem dX5_visitedByAny_9 : decode cX5_visitedByAny 9 = .ok (.if_icmp .ge 18, 3) := by decide +kernel
theorem dX5_visitedByAny_12 : decode cX5_visitedByAny 12 = .ok (.iload_n 1, 1) := by decide +kernel
theorem dX5_visitedByAny_13 : decode cX5_visitedByAny 13 = .ok (.aload_n 0, 1) := by decide +kernel
theorem dX5_visitedByAny_14 : decode cX5_visitedByAny 14 = .ok (.getfield 18, 3) := by decide +kernel
theorem dX5_visitedByAny_17 : decode cX5_visitedByAny 17 = .ok (.iload_n 2, 1) := by decide +kernel
theorem dX5_visitedByAny_18 : decode cX5_visitedByAny 18 = .ok (.iaload, 1) := by decide +kernel
theorem dX5_visitedByAny_19 : decode cX5_visitedByAny 19 = .ok (.ior, 1) := by decide +kernel
theorem dX5_visitedByAny_20 : decode cX5_visitedByAny 20 = .ok (.istore_n 1, 1) := by decide +kernel
theorem dX5_visitedByAny_21 : decode cX5_visitedByAny 21 = .ok (.iinc 2 1, 3) := by decide +kernel
theorem dX5_visitedByAny_24 : decode cX5_visitedByAny 24 = .ok (.goto (-20), 3) := by decide +kernel
theorem dX5_visitedByAny_27 : decode cX5_visitedByAny 27 = .ok (.iload_n 1, 1) := by decide +kernel
theorem dX5_visitedByAny_28 : decode cX5_visitedByAny 28 = .ok (.ireturn, 1) := by decide +kernel
theorem dX5_allHints_0 : decode cX5_allHints 0 = .ok (.iconst 0, 1) := by decide +kernel
theorem dX5_allHints_1 : decode cX5_allHints 1 = .ok (.istore_n 1, 1) := by decide +kernel
theorem dX5_allHints_2 : decode cX5_allHints 2 = .ok (.iconst 0, 1) := by decide +kernel
theorem dX5_allHints_3 : decode cX5_allHints 3 = .ok (.istore_n 2, 1) := by decide +kernel
theorem dX5_allHints_4 : decode cX5_allHints 4 = .ok (.iload_n 2, 1) := by decide +kernel
theorem dX5_allHints_5 : decode cX5_allHints 5 = .ok (.aload_n 0, 1) := by decide +kernel
theorem dX5_allHints_6 : decode cX5_allHints 6 = .ok (.getfield 50, 3) := by decide +kernel
theorem dX5_allHints_9 : decode cX5_allHints 9 = .ok (.if_icmp .ge 18, 3) := by decide +kernel
theorem dX5_allHints_12 : decode cX5_allHints 12 = .ok (.iload_n 1, 1) := by decide +kernel
theorem dX5_allHints_13 : decode cX5_allHints 13 = .ok (.aload_n 0, 1) := by decide +kernel
theorem dX5_allHints_14 : decode cX5_allHints 14 = .ok (.getfield 27, 3) := by decide +kernel
theorem dX5_allHints_17 : decode cX5_allHints 17 = .ok (.iload_n 2, 1) := by decide +kernel
theorem dX5_allHints_18 : decode cX5_allHints 18 = .ok (.iaload, 1) := by decide +kernel
theorem dX5_allHints_19 : decode cX5_allHints 19 = .ok (.iadd, 1) := by decide +kernel
theorem dX5_allHints_20 : decode cX5_allHints 20 = .ok (.istore_n 1, 1) := by decide +kernel
theorem dX5_allHints_21 : decode cX5_allHints 21 = .ok (.iinc 2 1, 3) := by decide +kernel
theorem dX5_allHints_24 : decode cX5_allHints 24 = .ok (.goto (-20), 3) := by decide +kernel
theorem dX5_allHints_27 : decode cX5_allHints 27 = .ok (.iload_n 1, 1) := by decide +kernel
theorem dX5_allHints_28 : decode cX5_allHints 28 = .ok (.ireturn, 1) := by decide +kernel
theorem dX5_enrol_0 : decode cX5_enrol 0 = .ok (.aload_n 0, 1) := by decide +kernel
theorem dX5_enrol_1 : decode cX5_enrol 1 = .ok (.invokevirtual 115, 3) := by decide +kernel
theorem dX5_enrol_4 : decode cX5_enrol 4 = .ok (.ifCond .ne 6, 3) := by decide +kernel
theorem dX5_enrol_7 : decode cX5_enrol 7 = .ok (.bipush (-9), 2) := by decide +kernel
theorem dX5_enrol_9 : decode cX5_enrol 9 = .ok (.ireturn, 1) := by decide +kernel
theorem dX5_enrol_10 : decode cX5_enrol 10 = .ok (.aload_n 0, 1) := by decide +kernel
theorem dX5_enrol_11 : decode cX5_enrol 11 = .ok (.getfield 18, 3) := by decide +kernel
theorem dX5_enrol_14 : decode cX5_enrol 14 = .ok (.aload_n 0, 1) := by decide +kernel
theorem dX5_enrol_15 : decode cX5_enrol 15 = .ok (.getfield 50, 3) := by decide +kernel
theorem dX5_enrol_18 : decode cX5_enrol 18 = .ok (.iconst 0, 1) := by decide +kernel
theorem dX5_enrol_19 : decode cX5_enrol 19 = .ok (.iastore, 1) := by decide +kernel
theorem dX5_enrol_20 : decode cX5_enrol 20 = .ok (.aload_n 0, 1) := by decide +kernel
theorem dX5_enrol_21 : decode cX5_enrol 21 = .ok (.getfield 21, 3) := by decide +kernel
theorem dX5_enrol_24 : decode cX5_enrol 24 = .ok (.aload_n 0, 1) := by decide +kernel
theorem dX5_enrol_25 : decode cX5_enrol 25 = .ok (.getfield 50, 3) := by decide +kernel
theorem dX5_enrol_28 : decode cX5_enrol 28 = .ok (.iconst 0, 1) := by decide +kernel
theorem dX5_enrol_29 : decode cX5_enrol 29 = .ok (.iastore, 1) := by decide +kernel
theorem dX5_enrol_30 : decode cX5_enrol 30 = .ok (.aload_n 0, 1) := by decide +kernel
theorem dX5_enrol_31 : decode cX5_enrol 31 = .ok (.getfield 24, 3) := by decide +kernel
theorem dX5_enrol_34 : decode cX5_enrol 34 = .ok (.aload_n 0, 1) := by decide +kernel
theorem dX5_enrol_35 : decode cX5_enrol 35 = .ok (.getfield 50, 3) := by decide +kernel
theorem dX5_enrol_38 : decode cX5_enrol 38 = .ok (.iconst 0, 1) := by decide +kernel
theorem dX5_enrol_39 : decode cX5_enrol 39 = .ok (.iastore, 1) := by decide +kernel
theorem dX5_enrol_40 : decode cX5_enrol 40 = .ok (.aload_n 0, 1) := by decide +kernel
theorem dX5_enrol_41 : decode cX5_enrol 41 = .ok (.getfield 27, 3) := by decide +kernel
theorem dX5_enrol_44 : decode cX5_enrol 44 = .ok (.aload_n 0, 1) := by decide +kernel
theorem dX5_enrol_45 : decode cX5_enrol 45 = .ok (.getfield 50, 3) := by decide +kernel
theorem dX5_enrol_48 : decode cX5_enrol 48 = .ok (.iconst 0, 1) := by decide +kernel
theorem dX5_enrol_49 : decode cX5_enrol 49 = .ok (.iastore, 1) := by decide +kernel
theorem dX5_enrol_50 : decode cX5_enrol 50 = .ok (.aload_n 0, 1) := by decide +kernel
theorem dX5_enrol_51 : decode cX5_enrol 51 = .ok (.dup, 1) := by decide +kernel
theorem dX5_enrol_52 : decode cX5_enrol 52 = .ok (.getfield 50, 3) := by decide +kernel
theorem dX5_enrol_55 : decode cX5_enrol 55 = .ok (.iconst 1, 1) := by decide +kernel
theorem dX5_enrol_56 : decode cX5_enrol 56 = .ok (.iadd, 1) := by decide +kernel
theorem dX5_enrol_57 : decode cX5_enrol 57 = .ok (.putfield 50, 3) := by decide +kernel
theorem dX5_enrol_60 : decode cX5_enrol 60 = .ok (.aload_n 0, 1) := by decide +kernel
theorem dX5_enrol_61 : decode cX5_enrol 61 = .ok (.getfield 50, 3) := by decide +kernel
theorem dX5_enrol_64 : decode cX5_enrol 64 = .ok (.iconst 1, 1) := by decide +kernel
theorem dX5_enrol_65 : decode cX5_enrol 65 = .ok (.isub, 1) := by decide +kernel
theorem dX5_enrol_66 : decode cX5_enrol 66 = .ok (.ireturn, 1) := by decide +kernel
theorem dX5_visit_0 : decode cX5_visit 0 = .ok (.aload_n 0, 1) := by decide +kernel
theorem dX5_visit_1 : decode cX5_visit 1 = .ok (.iload_n 1, 1) := by decide +kernel
theorem dX5_visit_2 : decode cX5_visit 2 = .ok (.iload_n 2, 1) := by decide +kernel
theorem dX5_visit_3 : decode cX5_visit 3 = .ok (.invokevirtual 119, 3) := by decide +kernel
theorem dX5_visit_6 : decode cX5_visit 6 = .ok (.ifCond .eq 14, 3) := by decide +kernel
theorem dX5_visit_9 : decode cX5_visit 9 = .ok (.aload_n 0, 1) := by decide +kernel
theorem dX5_visit_10 : decode cX5_visit 10 = .ok (.getfield 21, 3) := by decide +kernel
theorem dX5_visit_13 : decode cX5_visit 13 = .ok (.iload_n 1, 1) := by decide +kernel
theorem dX5_visit_14 : decode cX5_visit 14 = .ok (.iaload, 1) := by decide +kernel
theorem dX5_visit_15 : decode cX5_visit 15 = .ok (.bipush 10, 2) := by decide +kernel
theorem dX5_visit_17 : decode cX5_visit 17 = .ok (.if_icmp .lt 6, 3) := by decide +kernel
theorem dX5_visit_20 : decode cX5_visit 20 = .ok (.bipush (-9), 2) := by decide +kernel
theorem dX5_visit_22 : decode cX5_visit 22 = .ok (.ireturn, 1) := by decide +kernel
theorem dX5_visit_23 : decode cX5_visit 23 = .ok (.aload_n 0, 1) := by decide +kernel
theorem dX5_visit_24 : decode cX5_visit 24 = .ok (.getfield 24, 3) := by decide +kernel
theorem dX5_visit_27 : decode cX5_visit 27 = .ok (.iload_n 1, 1) := by decide +kernel
theorem dX5_visit_28 : decode cX5_visit 28 = .ok (.dup2, 1) := by decide +kernel
theorem dX5_visit_29 : decode cX5_visit 29 = .ok (.iaload, 1) := by decide +kernel
theorem dX5_visit_30 : decode cX5_visit 30 = .ok (.aload_n 0, 1) := by decide +kernel
theorem dX5_visit_31 : decode cX5_visit 31 = .ok (.aload_n 0, 1) := by decide +kernel
theorem dX5_visit_32 : decode cX5_visit 32 = .ok (.iload_n 1, 1) := by decide +kernel
theorem dX5_visit_33 : decode cX5_visit 33 = .ok (.invokevirtual 122, 3) := by decide +kernel
theorem dX5_visit_36 : decode cX5_visit 36 = .ok (.iload_n 2, 1) := by decide +kernel
theorem dX5_visit_37 : decode cX5_visit 37 = .ok (.invokevirtual 125, 3) := by decide +kernel
theorem dX5_visit_40 : decode cX5_visit 40 = .ok (.iadd, 1) := by decide +kernel
theorem dX5_visit_41 : decode cX5_visit 41 = .ok (.iastore, 1) := by decide +kernel
theorem dX5_visit_42 : decode cX5_visit 42 = .ok (.aload_n 0, 1) := by decide +kernel
theorem dX5_visit_43 : decode cX5_visit 43 = .ok (.getfield 30, 3) := by decide +kernel
theorem dX5_visit_46 : decode cX5_visit 46 = .ok (.iload_n 1, 1) := by decide +kernel
theorem dX5_visit_47 : decode cX5_visit 47 = .ok (.bipush 10, 2) := by decide +kernel
theorem dX5_visit_49 : decode cX5_visit 49 = .ok (.imul, 1) := by decide +kernel
theorem dX5_visit_50 : decode cX5_visit 50 = .ok (.aload_n 0, 1) := by decide +kernel
theorem dX5_visit_51 : decode cX5_visit 51 = .ok (.getfield 21, 3) := by decide +kernel
theorem dX5_visit_54 : decode cX5_visit 54 = .ok (.iload_n 1, 1) := by decide +kernel
theorem dX5_visit_55 : decode cX5_visit 55 = .ok (.iaload, 1) := by decide +kernel
theorem dX5_visit_56 : decode cX5_visit 56 = .ok (.iadd, 1) := by decide +kernel
theorem dX5_visit_57 : decode cX5_visit 57 = .ok (.iload_n 2, 1) := by decide +kernel
theorem dX5_visit_58 : decode cX5_visit 58 = .ok (.iastore, 1) := by decide +kernel
theorem dX5_visit_59 : decode cX5_visit 59 = .ok (.aload_n 0, 1) := by decide +kernel
theorem dX5_visit_60 : decode cX5_visit 60 = .ok (.getfield 21, 3) := by decide +kernel
theorem dX5_visit_63 : decode cX5_visit 63 = .ok (.iload_n 1, 1) := by decide +kernel
theorem dX5_visit_64 : decode cX5_visit 64 = .ok (.dup2, 1) := by decide +kernel
theorem dX5_visit_65 : decode cX5_visit 65 = .ok (.iaload, 1) := by decide +kernel
theorem dX5_visit_66 : decode cX5_visit 66 = .ok (.iconst 1, 1) := by decide +kernel
theorem dX5_visit_67 : decode cX5_visit 67 = .ok (.iadd, 1) := by decide +kernel
theorem dX5_visit_68 : decode cX5_visit 68 = .ok (.iastore, 1) := by decide +kernel
theorem dX5_visit_69 : decode cX5_visit 69 = .ok (.aload_n 0, 1) := by decide +kernel
theorem dX5_visit_70 : decode cX5_visit 70 = .ok (.getfield 18, 3) := by decide +kernel
theorem dX5_visit_73 : decode cX5_visit 73 = .ok (.iload_n 1, 1) := by decide +kernel
theorem dX5_visit_74 : decode cX5_visit 74 = .ok (.dup2, 1) := by decide +kernel
theorem dX5_visit_75 : decode cX5_visit 75 = .ok (.iaload, 1) := by decide +kernel
theorem dX5_visit_76 : decode cX5_visit 76 = .ok (.iconst 1, 1) := by decide +kernel
theorem dX5_visit_77 : decode cX5_visit 77 = .ok (.iload_n 2, 1) := by decide +kernel
theorem dX5_visit_78 : decode cX5_visit 78 = .ok (.ishl, 1) := by decide +kernel
theorem dX5_visit_79 : decode cX5_visit 79 = .ok (.ior, 1) := by decide +kernel
theorem dX5_visit_80 : decode cX5_visit 80 = .ok (.iastore, 1) := by decide +kernel
theorem dX5_visit_81 : decode cX5_visit 81 = .ok (.aload_n 0, 1) := by decide +kernel
theorem dX5_visit_82 : decode cX5_visit 82 = .ok (.getfield 24, 3) := by decide +kernel
theorem dX5_visit_85 : decode cX5_visit 85 = .ok (.iload_n 1, 1) := by decide +kernel
theorem dX5_visit_86 : decode cX5_visit 86 = .ok (.iaload, 1) := by decide +kernel
theorem dX5_visit_87 : decode cX5_visit 87 = .ok (.ireturn, 1) := by decide +kernel
theorem dX5_countHint_0 : decode cX5_countHint 0 = .ok (.aload_n 0, 1) := by decide +kernel
theorem dX5_countHint_1 : decode cX5_countHint 1 = .ok (.iload_n 1, 1) := by decide +kernel
theorem dX5_countHint_2 : decode cX5_countHint 2 = .ok (.invokevirtual 80, 3) := by decide +kernel
theorem dX5_countHint_5 : decode cX5_countHint 5 = .ok (.ifCond .eq 13, 3) := by decide +kernel
theorem dX5_countHint_8 : decode cX5_countHint 8 = .ok (.aload_n 0, 1) := by decide +kernel
theorem dX5_countHint_9 : decode cX5_countHint 9 = .ok (.getfield 27, 3) := by decide +kernel
theorem dX5_countHint_12 : decode cX5_countHint 12 = .ok (.iload_n 1, 1) := by decide +kernel
theorem dX5_countHint_13 : decode cX5_countHint 13 = .ok (.dup2, 1) := by decide +kernel
theorem dX5_countHint_14 : decode cX5_countHint 14 = .ok (.iaload, 1) := by decide +kernel
theorem dX5_countHint_15 : decode cX5_countHint 15 = .ok (.iconst 1, 1) := by decide +kernel
theorem dX5_countHint_16 : decode cX5_countHint 16 = .ok (.iadd, 1) := by decide +kernel
theorem dX5_countHint_17 : decode cX5_countHint 17 = .ok (.iastore, 1) := by decide +kernel
theorem dX5_countHint_18 : decode cX5_countHint 18 = .ok (.return_, 1) := by decide +kernel
theorem dX5_dismiss_0 : decode cX5_dismiss 0 = .ok (.aload_n 0, 1) := by decide +kernel
theorem dX5_dismiss_1 : decode cX5_dismiss 1 = .ok (.iload_n 1, 1) := by decide +kernel
theorem dX5_dismiss_2 : decode cX5_dismiss 2 = .ok (.invokevirtual 80, 3) := by decide +kernel
theorem dX5_dismiss_5 : decode cX5_dismiss 5 = .ok (.ifCond .eq 39, 3) := by decide +kernel
theorem dX5_dismiss_8 : decode cX5_dismiss 8 = .ok (.iload_n 1, 1) := by decide +kernel
theorem dX5_dismiss_9 : decode cX5_dismiss 9 = .ok (.istore_n 2, 1) := by decide +kernel
theorem dX5_dismiss_10 : decode cX5_dismiss 10 = .ok (.iload_n 2, 1) := by decide +kernel
theorem dX5_dismiss_11 : decode cX5_dismiss 11 = .ok (.iconst 1, 1) := by decide +kernel
theorem dX5_dismiss_12 : decode cX5_dismiss 12 = .ok (.iadd, 1) := by decide +kernel
theorem dX5_dismiss_13 : decode cX5_dismiss 13 = .ok (.aload_n 0, 1) := by decide +kernel
theorem dX5_dismiss_14 : decode cX5_dismiss 14 = .ok (.getfield 50, 3) := by decide +kernel
theorem dX5_dismiss_17 : decode cX5_dismiss 17 = .ok (.if_icmp .ge 17, 3) := by decide +kernel
theorem dX5_dismiss_20 : decode cX5_dismiss 20 = .ok (.aload_n 0, 1) := by decide +kernel
theorem dX5_dismiss_21 : decode cX5_dismiss 21 = .ok (.iload_n 2, 1) := by decide +kernel
theorem dX5_dismiss_22 : decode cX5_dismiss 22 = .ok (.iconst 1, 1) := by decide +kernel
theorem dX5_dismiss_23 : decode cX5_dismiss 23 = .ok (.iadd, 1) := by decide +kernel
theorem dX5_dismiss_24 : decode cX5_dismiss 24 = .ok (.iload_n 2, 1) := by decide +kernel
theorem dX5_dismiss_25 : decode cX5_dismiss 25 = .ok (.invokevirtual 128, 3) := by decide +kernel
theorem dX5_dismiss_28 : decode cX5_dismiss 28 = .ok (.iinc 2 1, 3) := by decide +kernel
theorem dX5_dismiss_31 : decode cX5_dismiss 31 = .ok (.goto (-21), 3) := by decide +kernel
theorem dX5_dismiss_34 : decode cX5_dismiss 34 = .ok (.aload_n 0, 1) := by decide +kernel
theorem dX5_dismiss_35 : decode cX5_dismiss 35 = .ok (.dup, 1) := by decide +kernel
theorem dX5_dismiss_36 : decode cX5_dismiss 36 = .ok (.getfield 50, 3) := by decide +kernel
theorem dX5_dismiss_39 : decode cX5_dismiss 39 = .ok (.iconst 1, 1) := by decide +kernel
theorem dX5_dismiss_40 : decode cX5_dismiss 40 = .ok (.isub, 1) := by decide +kernel
theorem dX5_dismiss_41 : decode cX5_dismiss 41 = .ok (.putfield 50, 3) := by decide +kernel
theorem dX5_dismiss_44 : decode cX5_dismiss 44 = .ok (.aload_n 0, 1) := by decide +kernel
theorem dX5_dismiss_45 : decode cX5_dismiss 45 = .ok (.getfield 50, 3) := by decide +kernel
theorem dX5_dismiss_48 : decode cX5_dismiss 48 = .ok (.ireturn, 1) := by decide +kernel
theorem dX5_copyTeam_0 : decode cX5_copyTeam 0 = .ok (.aload_n 0, 1) := by decide +kernel
theorem dX5_copyTeam_1 : decode cX5_copyTeam 1 = .ok (.getfield 18, 3) := by decide +kernel
theorem dX5_copyTeam_4 : decode cX5_copyTeam 4 = .ok (.iload_n 2, 1) := by decide +kernel
theorem dX5_copyTeam_5 : decode cX5_copyTeam 5 = .ok (.aload_n 0, 1) := by decide +kernel
theorem dX5_copyTeam_6 : decode cX5_copyTeam 6 = .ok (.getfield 18, 3) := by decide +kernel
theorem dX5_copyTeam_9 : decode cX5_copyTeam 9 = .ok (.iload_n 1, 1) := by decide +kernel
theorem dX5_copyTeam_10 : decode cX5_copyTeam 10 = .ok (.iaload, 1) := by decide +kernel
theorem dX5_copyTeam_11 : decode cX5_copyTeam 11 = .ok (.iastore, 1) := by decide +kernel
theorem dX5_copyTeam_12 : decode cX5_copyTeam 12 = .ok (.aload_n 0, 1) := by decide +kernel
theorem dX5_copyTeam_13 : decode cX5_copyTeam 13 = .ok (.getfield 21, 3) := by decide +kernel
theorem dX5_copyTeam_16 : decode cX5_copyTeam 16 = .ok (.iload_n 2, 1) := by decide +kernel
theorem dX5_copyTeam_17 : decode cX5_copyTeam 17 = .ok (.aload_n 0, 1) := by decide +kernel
theorem dX5_copyTeam_18 : decode cX5_copyTeam 18 = .ok (.getfield 21, 3) := by decide +kernel
theorem dX5_copyTeam_21 : decode cX5_copyTeam 21 = .ok (.iload_n 1, 1) := by decide +kernel
theorem dX5_copyTeam_22 : decode cX5_copyTeam 22 = .ok (.iaload, 1) := by decide +kernel
theorem dX5_copyTeam_23 : decode cX5_copyTeam 23 = .ok (.iastore, 1) := by decide +kernel
theorem dX5_copyTeam_24 : decode cX5_copyTeam 24 = .ok (.aload_n 0, 1) := by decide +kernel
theorem dX5_copyTeam_25 : decode cX5_copyTeam 25 = .ok (.getfield 24, 3) := by decide +kernel
theorem dX5_copyTeam_28 : decode cX5_copyTeam 28 = .ok (.iload_n 2, 1) := by decide +kernel
theorem dX5_copyTeam_29 : decode cX5_copyTeam 29 = .ok (.aload_n 0, 1) := by decide +kernel
theorem dX5_copyTeam_30 : decode cX5_copyTeam 30 = .ok (.getfield 24, 3) := by decide +kernel
theorem dX5_copyTeam_33 : decode cX5_copyTeam 33 = .ok (.iload_n 1, 1) := by decide +kernel
theorem dX5_copyTeam_34 : decode cX5_copyTeam 34 = .ok (.iaload, 1) := by decide +kernel
theorem dX5_copyTeam_35 : decode cX5_copyTeam 35 = .ok (.iastore, 1) := by decide +kernel
theorem dX5_copyTeam_36 : decode cX5_copyTeam 36 = .ok (.aload_n 0, 1) := by decide +kernel
theorem dX5_copyTeam_37 : decode cX5_copyTeam 37 = .ok (.getfield 27, 3) := by decide +kernel
theorem dX5_copyTeam_40 : decode cX5_copyTeam 40 = .ok (.iload_n 2, 1) := by decide +kernel
theorem dX5_copyTeam_41 : decode cX5_copyTeam 41 = .ok (.aload_n 0, 1) := by decide +kernel
theorem dX5_copyTeam_42 : decode cX5_copyTeam 42 = .ok (.getfield 27, 3) := by decide +kernel
theorem dX5_copyTeam_45 : decode cX5_copyTeam 45 = .ok (.iload_n 1, 1) := by decide +kernel
theorem dX5_copyTeam_46 : decode cX5_copyTeam 46 = .ok (.iaload, 1) := by decide +kernel
theorem dX5_copyTeam_47 : decode cX5_copyTeam 47 = .ok (.iastore, 1) := by decide +kernel
theorem dX5_copyTeam_48 : decode cX5_copyTeam 48 = .ok (.aload_n 0, 1) := by decide +kernel
theorem dX5_copyTeam_49 : decode cX5_copyTeam 49 = .ok (.getfield 30, 3) := by decide +kernel
theorem dX5_copyTeam_52 : decode cX5_copyTeam 52 = .ok (.iload_n 1, 1) := by decide +kernel
theorem dX5_copyTeam_53 : decode cX5_copyTeam 53 = .ok (.bipush 10, 2) := by decide +kernel
theorem dX5_copyTeam_55 : decode cX5_copyTeam 55 = .ok (.imul, 1) := by decide +kernel
theorem dX5_copyTeam_56 : decode cX5_copyTeam 56 = .ok (.aload_n 0, 1) := by decide +kernel
theorem dX5_copyTeam_57 : decode cX5_copyTeam 57 = .ok (.getfield 30, 3) := by decide +kernel
theorem dX5_copyTeam_60 : decode cX5_copyTeam 60 = .ok (.iload_n 2, 1) := by decide +kernel
theorem dX5_copyTeam_61 : decode cX5_copyTeam 61 = .ok (.bipush 10, 2) := by decide +kernel
theorem dX5_copyTeam_63 : decode cX5_copyTeam 63 = .ok (.imul, 1) := by decide +kernel
theorem dX5_copyTeam_64 : decode cX5_copyTeam 64 = .ok (.bipush 10, 2) := by decide +kernel
theorem dX5_copyTeam_66 : decode cX5_copyTeam 66 = .ok (.invokestatic 53, 3) := by decide +kernel
theorem dX5_copyTeam_69 : decode cX5_copyTeam 69 = .ok (.return_, 1) := by decide +kernel
theorem dX5_put_0 : decode cX5_put 0 = .ok (.aload_n 0, 1) := by decide +kernel
theorem dX5_put_1 : decode cX5_put 1 = .ok (.getfield 33, 3) := by decide +kernel
theorem dX5_put_4 : decode cX5_put 4 = .ok (.iload_n 1, 1) := by decide +kernel
theorem dX5_put_5 : decode cX5_put 5 = .ok (.invokevirtual 106, 3) := by decide +kernel
theorem dX5_put_8 : decode cX5_put 8 = .ok (.ifCond .ne 6, 3) := by decide +kernel
theorem dX5_put_11 : decode cX5_put 11 = .ok (.bipush (-9), 2) := by decide +kernel
theorem dX5_put_13 : decode cX5_put 13 = .ok (.ireturn, 1) := by decide +kernel
theorem dX5_put_14 : decode cX5_put 14 = .ok (.bipush 10, 2) := by decide +kernel
theorem dX5_put_16 : decode cX5_put 16 = .ok (.aload_n 0, 1) := by decide +kernel
theorem dX5_put_17 : decode cX5_put 17 = .ok (.getfield 9, 3) := by decide +kernel
theorem dX5_put_20 : decode cX5_put 20 = .ok (.iload_n 1, 1) := by decide +kernel
theorem dX5_put_21 : decode cX5_put 21 = .ok (.iaload, 1) := by decide +kernel
theorem dX5_put_22 : decode cX5_put 22 = .ok (.imul, 1) := by decide +kernel
theorem dX5_put_23 : decode cX5_put 23 = .ok (.aload_n 0, 1) := by decide +kernel
theorem dX5_put_24 : decode cX5_put 24 = .ok (.getfield 15, 3) := by decide +kernel
theorem dX5_put_27 : decode cX5_put 27 = .ok (.iload_n 1, 1) := by decide +kernel
theorem dX5_put_28 : decode cX5_put 28 = .ok (.iaload, 1) := by decide +kernel
theorem dX5_put_29 : decode cX5_put 29 = .ok (.iadd, 1) := by decide +kernel
theorem dX5_put_30 : decode cX5_put 30 = .ok (.istore 4, 2) := by decide +kernel
theorem dX5_put_32 : decode cX5_put 32 = .ok (.aload_n 0, 1) := by decide +kernel
theorem dX5_put_33 : decode cX5_put 33 = .ok (.getfield 9, 3) := by decide +kernel
theorem dX5_put_36 : decode cX5_put 36 = .ok (.iload_n 1, 1) := by decide +kernel
theorem dX5_put_37 : decode cX5_put 37 = .ok (.iload_n 2, 1) := by decide +kernel
theorem dX5_put_38 : decode cX5_put 38 = .ok (.iastore, 1) := by decide +kernel
theorem dX5_put_39 : decode cX5_put 39 = .ok (.aload_n 0, 1) := by decide +kernel
theorem dX5_put_40 : decode cX5_put 40 = .ok (.getfield 15, 3) := by decide +kernel
theorem dX5_put_43 : decode cX5_put 43 = .ok (.iload_n 1, 1) := by decide +kernel
theorem dX5_put_44 : decode cX5_put 44 = .ok (.iload_n 3, 1) := by decide +kernel
theorem dX5_put_45 : decode cX5_put 45 = .ok (.iastore, 1) := by decide +kernel
theorem dX5_put_46 : decode cX5_put 46 = .ok (.iload 4, 2) := by decide +kernel
theorem dX5_put_48 : decode cX5_put 48 = .ok (.ireturn, 1) := by decide +kernel
theorem dX5_makeEasy_0 : decode cX5_makeEasy 0 = .ok (.aload_n 0, 1) := by decide +kernel
theorem dX5_makeEasy_1 : decode cX5_makeEasy 1 = .ok (.getfield 33, 3) := by decide +kernel
theorem dX5_makeEasy_4 : decode cX5_makeEasy 4 = .ok (.iload_n 1, 1) := by decide +kernel
theorem dX5_makeEasy_5 : decode cX5_makeEasy 5 = .ok (.invokevirtual 106, 3) := by decide +kernel
theorem dX5_makeEasy_8 : decode cX5_makeEasy 8 = .ok (.ifCond .eq 15, 3) := by decide +kernel
theorem dX5_makeEasy_11 : decode cX5_makeEasy 11 = .ok (.aload_n 0, 1) := by decide +kernel
theorem dX5_makeEasy_12 : decode cX5_makeEasy 12 = .ok (.dup, 1) := by decide +kernel
theorem dX5_makeEasy_13 : decode cX5_makeEasy 13 = .ok (.getfield 46, 3) := by decide +kernel
theorem dX5_makeEasy_16 : decode cX5_makeEasy 16 = .ok (.iconst 1, 1) := by decide +kernel
theorem dX5_makeEasy_17 : decode cX5_makeEasy 17 = .ok (.iload_n 1, 1) := by decide +kernel
theorem dX5_makeEasy_18 : decode cX5_makeEasy 18 = .ok (.ishl, 1) := by decide +kernel
theorem dX5_makeEasy_19 : decode cX5_makeEasy 19 = .ok (.ior, 1) := by decide +kernel
theorem dX5_makeEasy_20 : decode cX5_makeEasy 20 = .ok (.putfield 46, 3) := by decide +kernel
theorem dX5_makeEasy_23 : decode cX5_makeEasy 23 = .ok (.return_, 1) := by decide +kernel
theorem dX8_init_0 : decode cX8_init 0 = .ok (.aload_n 0, 1) := by decide +kernel
theorem dX8_init_1 : decode cX8_init 1 = .ok (.invokespecial 3, 3) := by decide +kernel
theorem dX8_init_4 : decode cX8_init 4 = .ok (.aload_n 0, 1) := by decide +kernel
theorem dX8_init_5 : decode cX8_init 5 = .ok (.sipush 1024, 3) := by decide +kernel
theorem dX8_init_8 : decode cX8_init 8 = .ok (.newarray .int, 2) := by decide +kernel
theorem dX8_init_10 : decode cX8_init 10 = .ok (.putfield 9, 3) := by decide +kernel
theorem dX8_init_13 : decode cX8_init 13 = .ok (.aload_n 0, 1) := by decide +kernel
theorem dX8_init_14 : decode cX8_init 14 = .ok (.sipush 1024, 3) := by decide +kernel
theorem dX8_init_17 : decode cX8_init 17 = .ok (.newarray .int, 2) := by decide +kernel
theorem dX8_init_19 : decode cX8_init 19 = .ok (.putfield 15, 3) := by decide +kernel
theorem dX8_init_22 : decode cX8_init 22 = .ok (.aload_n 0, 1) := by decide +kernel
theorem dX8_init_23 : decode cX8_init 23 = .ok (.sipush 1024, 3) := by decide +kernel
theorem dX8_init_26 : decode cX8_init 26 = .ok (.newarray .int, 2) := by decide +kernel
theorem dX8_init_28 : decode cX8_init 28 = .ok (.putfield 18, 3) := by decide +kernel
theorem dX8_init_31 : decode cX8_init 31 = .ok (.aload_n 0, 1) := by decide +kernel
theorem dX8_init_32 : decode cX8_init 32 = .ok (.sipush 1024, 3) := by decide +kernel
theorem dX8_init_35 : decode cX8_init 35 = .ok (.newarray .int, 2) := by decide +kernel
theorem dX8_init_37 : decode cX8_init 37 = .ok (.putfield 21, 3) := by decide +kernel
theorem dX8_init_40 : decode cX8_init 40 = .ok (.aload_n 0, 1) := by decide +kernel
theorem dX8_init_41 : decode cX8_init 41 = .ok (.sipush 1024, 3) := by decide +kernel
theorem dX8_init_44 : decode cX8_init 44 = .ok (.newarray .int, 2) := by decide +kernel
theorem dX8_init_46 : decode cX8_init 46 = .ok (.putfield 24, 3) := by decide +kernel
theorem dX8_init_49 : decode cX8_init 49 = .ok (.aload_n 0, 1) := by decide +kernel
theorem dX8_init_50 : decode cX8_init 50 = .ok (.sipush 5120, 3) := by decide +kernel
theorem dX8_init_53 : decode cX8_init 53 = .ok (.newarray .int, 2) := by decide +kernel
theorem dX8_init_55 : decode cX8_init 55 = .ok (.putfield 27, 3) := by decide +kernel
theorem dX8_init_58 : decode cX8_init 58 = .ok (.aload_n 0, 1) := by decide +kernel
theorem dX8_init_59 : decode cX8_init 59 = .ok (.bipush 110, 2) := by decide +kernel
theorem dX8_init_61 : decode cX8_init 61 = .ok (.newarray .int, 2) := by decide +kernel
theorem dX8_init_63 : decode cX8_init 63 = .ok (.putfield 30, 3) := by decide +kernel
theorem dX8_init_66 : decode cX8_init 66 = .ok (.aload_n 0, 1) := by decide +kernel
theorem dX8_init_67 : decode cX8_init 67 = .ok (.aload_n 1, 1) := by decide +kernel
theorem dX8_init_68 : decode cX8_init 68 = .ok (.putfield 33, 3) := by decide +kernel
theorem dX8_init_71 : decode cX8_init 71 = .ok (.return_, 1) := by decide +kernel
theorem dX8_ordersOf_0 : decode cX8_ordersOf 0 = .ok (.aload_n 1, 1) := by decide +kernel
theorem dX8_ordersOf_1 : decode cX8_ordersOf 1 = .ok (.iload_n 2, 1) := by decide +kernel
theorem dX8_ordersOf_2 : decode cX8_ordersOf 2 = .ok (.invokevirtual 37, 3) := by decide +kernel
theorem dX8_ordersOf_5 : decode cX8_ordersOf 5 = .ok (.istore_n 3, 1) := by decide +kernel
theorem dX8_ordersOf_6 : decode cX8_ordersOf 6 = .ok (.aload_n 0, 1) := by decide +kernel
theorem dX8_ordersOf_7 : decode cX8_ordersOf 7 = .ok (.iload_n 3, 1) := by decide +kernel
theorem dX8_ordersOf_8 : decode cX8_ordersOf 8 = .ok (.aload_n 1, 1) := by decide +kernel
theorem dX8_ordersOf_9 : decode cX8_ordersOf 9 = .ok (.invokevirtual 43, 3) := by decide +kernel
theorem dX8_ordersOf_12 : decode cX8_ordersOf 12 = .ok (.invokevirtual 47, 3) := by decide +kernel
theorem dX8_ordersOf_15 : decode cX8_ordersOf 15 = .ok (.aload_n 0, 1) := by decide +kernel
theorem dX8_ordersOf_16 : decode cX8_ordersOf 16 = .ok (.getfield 18, 3) := by decide +kernel
theorem dX8_ordersOf_19 : decode cX8_ordersOf 19 = .ok (.iload_n 3, 1) := by decide +kernel
theorem dX8_ordersOf_20 : decode cX8_ordersOf 20 = .ok (.iaload, 1) := by decide +kernel
theorem dX8_ordersOf_21 : decode cX8_ordersOf 21 = .ok (.ireturn, 1) := by decide +kernel
theorem dX8_neededBy_0 : decode cX8_neededBy 0 = .ok (.aload_n 1, 1) := by decide +kernel
theorem dX8_neededBy_1 : decode cX8_neededBy 1 = .ok (.iload_n 2, 1) := by decide +kernel
theorem dX8_neededBy_2 : decode cX8_neededBy 2 = .ok (.invokevirtual 37, 3) := by decide +kernel
theorem dX8_neededBy_5 : decode cX8_neededBy 5 = .ok (.istore_n 3, 1) := by decide +kernel
theorem dX8_neededBy_6 : decode cX8_neededBy 6 = .ok (.aload_n 0, 1) := by decide +kernel
theorem dX8_neededBy_7 : decode cX8_neededBy 7 = .ok (.iload_n 3, 1) := by decide +kernel
theorem dX8_neededBy_8 : decode cX8_neededBy 8 = .ok (.aload_n 1, 1) := by decide +kernel
theorem dX8_neededBy_9 : decode cX8_neededBy 9 = .ok (.invokevirtual 43, 3) := by decide +kernel
theorem dX8_neededBy_12 : decode cX8_neededBy 12 = .ok (.invokevirtual 47, 3) := by decide +kernel
theorem dX8_neededBy_15 : decode cX8_neededBy 15 = .ok (.aload_n 0, 1) := by decide +kernel
theorem dX8_neededBy_16 : decode cX8_neededBy 16 = .ok (.getfield 18, 3) := by decide +kernel
theorem dX8_neededBy_19 : decode cX8_neededBy 19 = .ok (.iload_n 3, 1) := by decide +kernel
theorem dX8_neededBy_20 : decode cX8_neededBy 20 = .ok (.iaload, 1) := by decide +kernel
theorem dX8_neededBy_21 : decode cX8_neededBy 21 = .ok (.ifCond .ne 8, 3) := by decide +kernel
theorem dX8_neededBy_24 : decode cX8_neededBy 24 = .ok (.bipush (-9), 2) := by decide +kernel
theorem dX8_neededBy_26 : decode cX8_neededBy 26 = .ok (.goto 9, 3) := by decide +kernel
theorem dX8_neededBy_29 : decode cX8_neededBy 29 = .ok (.aload_n 0, 1) := by decide +kernel
theorem dX8_neededBy_30 : decode cX8_neededBy 30 = .ok (.getfield 24, 3) := by decide +kernel
theorem dX8_neededBy_33 : decode cX8_neededBy 33 = .ok (.iload_n 3, 1) := by decide +kernel
theorem dX8_neededBy_34 : decode cX8_neededBy 34 = .ok (.iaload, 1) := by decide +kernel
theorem dX8_neededBy_35 : decode cX8_neededBy 35 = .ok (.ireturn, 1) := by decide +kernel
theorem dX8_safeFor_0 : decode cX8_safeFor 0 = .ok (.aload_n 1, 1) := by decide +kernel
theorem dX8_safeFor_1 : decode cX8_safeFor 1 = .ok (.iload_n 2, 1) := by decide +kernel
theorem dX8_safeFor_2 : decode cX8_safeFor 2 = .ok (.invokevirtual 37, 3) := by decide +kernel
theorem dX8_safeFor_5 : decode cX8_safeFor 5 = .ok (.istore_n 3, 1) := by decide +kernel
theorem dX8_safeFor_6 : decode cX8_safeFor 6 = .ok (.aload_n 0, 1) := by decide +kernel
theorem dX8_safeFor_7 : decode cX8_safeFor 7 = .ok (.iload_n 3, 1) := by decide +kernel
theorem dX8_safeFor_8 : decode cX8_safeFor 8 = .ok (.aload_n 1, 1) := by decide +kernel
theorem dX8_safeFor_9 : decode cX8_safeFor 9 = .ok (.invokevirtual 43, 3) := by decide +kernel
theorem dX8_safeFor_12 : decode cX8_safeFor 12 = .ok (.invokevirtual 47, 3) := by decide +kernel
theorem dX8_safeFor_15 : decode cX8_safeFor 15 = .ok (.aload_n 0, 1) := by decide +kernel
theorem dX8_safeFor_16 : decode cX8_safeFor 16 = .ok (.getfield 15, 3) := by decide +kernel
theorem dX8_safeFor_19 : decode cX8_safeFor 19 = .ok (.iload_n 3, 1) := by decide +kernel
theorem dX8_safeFor_20 : decode cX8_safeFor 20 = .ok (.iaload, 1) := by decide +kernel
theorem dX8_safeFor_21 : decode cX8_safeFor 21 = .ok (.ireturn, 1) := by decide +kernel
theorem dX8_fewestVisits_0 : decode cX8_fewestVisits 0 = .ok (.aload_n 1, 1) := by decide +kernel
theorem dX8_fewestVisits_1 : decode cX8_fewestVisits 1 = .ok (.iload_n 2, 1) := by decide +kernel
theorem dX8_fewestVisits_2 : decode cX8_fewestVisits 2 = .ok (.invokevirtual 37, 3) := by decide +kernel
theorem dX8_fewestVisits_5 : decode cX8_fewestVisits 5 = .ok (.istore_n 3, 1) := by decide +kernel
theorem dX8_fewestVisits_6 : decode cX8_fewestVisits 6 = .ok (.aload_n 0, 1) := by decide +kernel
theorem dX8_fewestVisits_7 : decode cX8_fewestVisits 7 = .ok (.iload_n 3, 1) := by decide +kernel
theorem dX8_fewestVisits_8 : decode cX8_fewestVisits 8 = .ok (.aload_n 1, 1) := by decide +kernel
theorem dX8_fewestVisits_9 : decode cX8_fewestVisits 9 = .ok (.invokevirtual 43, 3) := by decide +kernel
theorem dX8_fewestVisits_12 : decode cX8_fewestVisits 12 = .ok (.invokevirtual 47, 3) := by decide +kernel
theorem dX8_fewestVisits_15 : decode cX8_fewestVisits 15 = .ok (.aload_n 0, 1) := by decide +kernel
theorem dX8_fewestVisits_16 : decode cX8_fewestVisits 16 = .ok (.getfield 18, 3) := by decide +kernel
theorem dX8_fewestVisits_19 : decode cX8_fewestVisits 19 = .ok (.iload_n 3, 1) := by decide +kernel
theorem dX8_fewestVisits_20 : decode cX8_fewestVisits 20 = .ok (.iaload, 1) := by decide +kernel
theorem dX8_fewestVisits_21 : decode cX8_fewestVisits 21 = .ok (.ifCond .ne 8, 3) := by decide +kernel
theorem dX8_fewestVisits_24 : decode cX8_fewestVisits 24 = .ok (.bipush (-9), 2) := by decide +kernel
theorem dX8_fewestVisits_26 : decode cX8_fewestVisits 26 = .ok (.goto 9, 3) := by decide +kernel
theorem dX8_fewestVisits_29 : decode cX8_fewestVisits 29 = .ok (.aload_n 0, 1) := by decide +kernel
theorem dX8_fewestVisits_30 : decode cX8_fewestVisits 30 = .ok (.getfield 21, 3) := by decide +kernel
theorem dX8_fewestVisits_33 : decode cX8_fewestVisits 33 = .ok (.iload_n 3, 1) := by decide +kernel
theorem dX8_fewestVisits_34 : decode cX8_fewestVisits 34 = .ok (.iaload, 1) := by decide +kernel
theorem dX8_fewestVisits_35 : decode cX8_fewestVisits 35 = .ok (.ireturn, 1) := by decide +kernel
theorem dX8_firstOfShortest_0 : decode cX8_firstOfShortest 0 = .ok (.aload_n 1, 1) := by decide +kernel
theorem dX8_firstOfShortest_1 : decode cX8_firstOfShortest 1 = .ok (.iload_n 2, 1) := by decide +kernel
theorem dX8_firstOfShortest_2 : decode cX8_firstOfShortest 2 = .ok (.invokevirtual 37, 3) := by decide +kernel
theorem dX8_firstOfShortest_5 : decode cX8_firstOfShortest 5 = .ok (.istore_n 3, 1) := by decide +kernel
theorem dX8_firstOfShortest_6 : decode cX8_firstOfShortest 6 = .ok (.aload_n 0, 1) := by decide +kernel
theorem dX8_firstOfShortest_7 : decode cX8_firstOfShortest 7 = .ok (.iload_n 3, 1) := by decide +kernel
theorem dX8_firstOfShortest_8 : decode cX8_firstOfShortest 8 = .ok (.aload_n 1, 1) := by decide +kernel
theorem dX8_firstOfShortest_9 : decode cX8_firstOfShortest 9 = .ok (.invokevirtual 43, 3) := by decide +kernel
theorem dX8_firstOfShortest_12 : decode cX8_firstOfShortest 12 = .ok (.invokevirtual 47, 3) := by decide +kernel
theorem dX8_firstOfShortest_15 : decode cX8_firstOfShortest 15 = .ok (.iconst 0, 1) := by decide +kernel
theorem dX8_firstOfShortest_16 : decode cX8_firstOfShortest 16 = .ok (.istore 4, 2) := by decide +kernel
theorem dX8_firstOfShortest_18 : decode cX8_firstOfShortest 18 = .ok (.iload 4, 2) := by decide +kernel
theorem dX8_firstOfShortest_20 : decode cX8_firstOfShortest 20 = .ok (.aload_n 0, 1) := by decide +kernel
theorem dX8_firstOfShortest_21 : decode cX8_firstOfShortest 21 = .ok (.getfield 33, 3) := by decide +kernel
theorem dX8_firstOfShortest_24 : decode cX8_firstOfShortest 24 = .ok (.invokevirtual 51, 3) := by decide +kernel
theorem dX8_firstOfShortest_27 : decode cX8_firstOfShortest 27 = .ok (.if_icmp .ge 48, 3) := by decide +kernel
theorem dX8_firstOfShortest_30 : decode cX8_firstOfShortest 30 = .ok (.iload 4, 2) := by decide +kernel
theorem dX8_firstOfShortest_32 : decode cX8_firstOfShortest 32 = .ok (.aload_n 0, 1) := by decide +kernel
theorem dX8_firstOfShortest_33 : decode cX8_firstOfShortest 33 = .ok (.getfield 15, 3) := by decide +kernel
theorem dX8_firstOfShortest_36 : decode cX8_firstOfShortest 36 = .ok (.iload_n 3, 1) := by decide +kernel
theorem dX8_firstOfShortest_37 : decode cX8_firstOfShortest 37 = .ok (.iaload, 1) := by decide +kernel
theorem dX8_firstOfShortest_38 : decode cX8_firstOfShortest 38 = .ok (.invokestatic 56, 3) := by decide +kernel
theorem dX8_firstOfShortest_41 : decode cX8_firstOfShortest 41 = .ok (.ifCond .eq 28, 3) := by decide +kernel
theorem dX8_firstOfShortest_44 : decode cX8_firstOfShortest 44 = .ok (.aload_n 0, 1) := by decide +kernel
theorem dX8_firstOfShortest_45 : decode cX8_firstOfShortest 45 = .ok (.getfield 21, 3) := by decide +kernel
theorem dX8_firstOfShortest_48 : decode cX8_firstOfShortest 48 = .ok (.iload_n 3, 1) := by decide +kernel
theorem dX8_firstOfShortest_49 : decode cX8_firstOfShortest 49 = .ok (.iconst 1, 1) := by decide +kernel
theorem dX8_firstOfShortest_50 : decode cX8_firstOfShortest 50 = .ok (.iload 4, 2) := by decide +kernel
theorem dX8_firstOfShortest_52 : decode cX8_firstOfShortest 52 = .ok (.ishl, 1) := by decide +kernel
theorem dX8_firstOfShortest_53 : decode cX8_firstOfShortest 53 = .ok (.ior, 1) := by decide +kernel
theorem dX8_firstOfShortest_54 : decode cX8_firstOfShortest 54 = .ok (.iaload, 1) := by decide +kernel
theorem dX8_firstOfShortest_55 : decode cX8_firstOfShortest 55 = .ok (.iconst 1, 1) := by decide +kernel
theorem dX8_firstOfShortest_56 : decode cX8_firstOfShortest 56 = .ok (.iadd, 1) := by decide +kernel
theorem dX8_firstOfShortest_57 : decode cX8_firstOfShortest 57 = .ok (.aload_n 0, 1) := by decide +kernel
theorem dX8_firstOfShortest_58 : decode cX8_firstOfShortest 58 = .ok (.getfield 21, 3) := by decide +kernel
theorem dX8_firstOfShortest_61 : decode cX8_firstOfShortest 61 = .ok (.iload_n 3, 1) := by decide +kernel
theorem dX8_firstOfShortest_62 : decode cX8_firstOfShortest 62 = .ok (.iaload, 1) := by decide +kernel
theorem dX8_firstOfShortest_63 : decode cX8_firstOfShortest 63 = .ok (.if_icmp .ne 6, 3) := by decide +kernel
theorem dX8_firstOfShortest_66 : decode cX8_firstOfShortest 66 = .ok (.iload 4, 2) := by decide +kernel
theorem dX8_firstOfShortest_68 : decode cX8_firstOfShortest 68 = .ok (.ireturn, 1) := by decide +kernel
theorem dX8_firstOfShortest_69 : decode cX8_firstOfShortest 69 = .ok (.iinc 4 1, 3) := by decide +kernel
theorem dX8_firstOfShortest_72 : decode cX8_firstOfShortest 72 = .ok (.goto (-54), 3) := by decide +kernel
theorem dX8_firstOfShortest_75 : decode cX8_firstOfShortest 75 = .ok (.bipush (-9), 2) := by decide +kernel
theorem dX8_firstOfShortest_77 : decode cX8_firstOfShortest 77 = .ok (.ireturn, 1) := by decide +kernel
theorem dX8_fewestMinutes_0 : decode cX8_fewestMinutes 0 = .ok (.aload_n 1, 1) := by decide +kernel
theorem dX8_fewestMinutes_1 : decode cX8_fewestMinutes 1 = .ok (.iload_n 2, 1) := by decide +kernel
theorem dX8_fewestMinutes_2 : decode cX8_fewestMinutes 2 = .ok (.invokevirtual 37, 3) := by decide +kernel
theorem dX8_fewestMinutes_5 : decode cX8_fewestMinutes 5 = .ok (.istore_n 3, 1) := by decide +kernel
theorem dX8_fewestMinutes_6 : decode cX8_fewestMinutes 6 = .ok (.aload_n 0, 1) := by decide +kernel
theorem dX8_fewestMinutes_7 : decode cX8_fewestMinutes 7 = .ok (.iload_n 3, 1) := by decide +kernel
theorem dX8_fewestMinutes_8 : decode cX8_fewestMinutes 8 = .ok (.aload_n 1, 1) := by decide +kernel
theorem dX8_fewestMinutes_9 : decode cX8_fewestMinutes 9 = .ok (.invokevirtual 43, 3) := by decide +kernel
theorem dX8_fewestMinutes_12 : decode cX8_fewestMinutes 12 = .ok (.invokevirtual 47, 3) := by decide +kernel
theorem dX8_fewestMinutes_15 : decode cX8_fewestMinutes 15 = .ok (.aload_n 0, 1) := by decide +kernel
theorem dX8_fewestMinutes_16 : decode cX8_fewestMinutes 16 = .ok (.aload_n 1, 1) := by decide +kernel
theorem dX8_fewestMinutes_17 : decode cX8_fewestMinutes 17 = .ok (.iload_n 3, 1) := by decide +kernel
theorem dX8_fewestMinutes_18 : decode cX8_fewestMinutes 18 = .ok (.invokevirtual 60, 3) := by decide +kernel
theorem dX8_fewestMinutes_21 : decode cX8_fewestMinutes 21 = .ok (.aload_n 0, 1) := by decide +kernel
theorem dX8_fewestMinutes_22 : decode cX8_fewestMinutes 22 = .ok (.getfield 18, 3) := by decide +kernel
theorem dX8_fewestMinutes_25 : decode cX8_fewestMinutes 25 = .ok (.iload_n 3, 1) := by decide +kernel
theorem dX8_fewestMinutes_26 : decode cX8_fewestMinutes 26 = .ok (.iaload, 1) := by decide +kernel
theorem dX8_fewestMinutes_27 : decode cX8_fewestMinutes 27 = .ok (.ifCond .ne 8, 3) := by decide +kernel
theorem dX8_fewestMinutes_30 : decode cX8_fewestMinutes 30 = .ok (.bipush (-9), 2) := by decide +kernel
theorem dX8_fewestMinutes_32 : decode cX8_fewestMinutes 32 = .ok (.goto 13, 3) := by decide +kernel
theorem dX8_fewestMinutes_35 : decode cX8_fewestMinutes 35 = .ok (.aload_n 0, 1) := by decide +kernel
theorem dX8_fewestMinutes_36 : decode cX8_fewestMinutes 36 = .ok (.iload_n 3, 1) := by decide +kernel
theorem dX8_fewestMinutes_37 : decode cX8_fewestMinutes 37 = .ok (.aload_n 1, 1) := by decide +kernel
theorem dX8_fewestMinutes_38 : decode cX8_fewestMinutes 38 = .ok (.iload_n 2, 1) := by decide +kernel
theorem dX8_fewestMinutes_39 : decode cX8_fewestMinutes 39 = .ok (.invokestatic 64, 3) := by decide +kernel
theorem dX8_fewestMinutes_42 : decode cX8_fewestMinutes 42 = .ok (.invokevirtual 68, 3) := by decide +kernel
theorem dX8_fewestMinutes_45 : decode cX8_fewestMinutes 45 = .ok (.ireturn, 1) := by decide +kernel
theorem dX8_firstOfQuickest_0 : decode cX8_firstOfQuickest 0 = .ok (.aload_n 1, 1) := by decide +kernel
theorem dX8_firstOfQuickest_1 : decode cX8_firstOfQuickest 1 = .ok (.iload_n 2, 1) := by decide +kernel
theorem dX8_firstOfQuickest_2 : decode cX8_firstOfQuickest 2 = .ok (.invokevirtual 37, 3) := by decide +kernel
theorem dX8_firstOfQuickest_5 : decode cX8_firstOfQuickest 5 = .ok (.istore_n 3, 1) := by decide +kernel
theorem dX8_firstOfQuickest_6 : decode cX8_firstOfQuickest 6 = .ok (.aload_n 1, 1) := by decide +kernel
theorem dX8_firstOfQuickest_7 : decode cX8_firstOfQuickest 7 = .ok (.iload_n 2, 1) := by decide +kernel
theorem dX8_firstOfQuickest_8 : decode cX8_firstOfQuickest 8 = .ok (.invokestatic 64, 3) := by decide +kernel
theorem dX8_firstOfQuickest_11 : decode cX8_firstOfQuickest 11 = .ok (.istore 4, 2) := by decide +kernel
theorem dX8_firstOfQuickest_13 : decode cX8_firstOfQuickest 13 = .ok (.aload_n 0, 1) := by decide +kernel
theorem dX8_firstOfQuickest_14 : decode cX8_firstOfQuickest 14 = .ok (.iload_n 3, 1) := by decide +kernel
theorem dX8_firstOfQuickest_15 : decode cX8_firstOfQuickest 15 = .ok (.aload_n 1, 1) := by decide +kernel
theorem dX8_firstOfQuickest_16 : decode cX8_firstOfQuickest 16 = .ok (.invokevirtual 43, 3) := by decide +kernel
theorem dX8_firstOfQuickest_19 : decode cX8_firstOfQuickest 19 = .ok (.invokevirtual 47, 3) := by decide +kernel
theorem dX8_firstOfQuickest_22 : decode cX8_firstOfQuickest 22 = .ok (.aload_n 0, 1) := by decide +kernel
theorem dX8_firstOfQuickest_23 : decode cX8_firstOfQuickest 23 = .ok (.aload_n 1, 1) := by decide +kernel
theorem dX8_firstOfQuickest_24 : decode cX8_firstOfQuickest 24 = .ok (.iload_n 3, 1) := by decide +kernel
theorem dX8_firstOfQuickest_25 : decode cX8_firstOfQuickest 25 = .ok (.invokevirtual 60, 3) := by decide +kernel
theorem dX8_firstOfQuickest_28 : decode cX8_firstOfQuickest 28 = .ok (.aload_n 0, 1) := by decide +kernel
theorem dX8_firstOfQuickest_29 : decode cX8_firstOfQuickest 29 = .ok (.iload_n 3, 1) := by decide +kernel
theorem dX8_firstOfQuickest_30 : decode cX8_firstOfQuickest 30 = .ok (.iload 4, 2) := by decide +kernel
theorem dX8_firstOfQuickest_32 : decode cX8_firstOfQuickest 32 = .ok (.invokevirtual 68, 3) := by decide +kernel
theorem dX8_firstOfQuickest_35 : decode cX8_firstOfQuickest 35 = .ok (.istore 5, 2) := by decide +kernel
theorem dX8_firstOfQuickest_37 : decode cX8_firstOfQuickest 37 = .ok (.iconst 0, 1) := by decide +kernel
theorem dX8_firstOfQuickest_38 : decode cX8_firstOfQuickest 38 = .ok (.istore 6, 2) := by decide +kernel
theorem dX8_firstOfQuickest_40 : decode cX8_firstOfQuickest 40 = .ok (.iload 6, 2) := by decide +kernel
theorem dX8_firstOfQuickest_42 : decode cX8_firstOfQuickest 42 = .ok (.aload_n 0, 1) := by decide +kernel
theorem dX8_firstOfQuickest_43 : decode cX8_firstOfQuickest 43 = .ok (.getfield 33, 3) := by decide +kernel
theorem dX8_firstOfQuickest_46 : decode cX8_firstOfQuickest 46 = .ok (.invokevirtual 51, 3) := by decide +kernel
theorem dX8_firstOfQuickest_49 : decode cX8_firstOfQuickest 49 = .ok (.if_icmp .ge 40, 3) := by decide +kernel
theorem dX8_firstOfQuickest_52 : decode cX8_firstOfQuickest 52 = .ok (.iload 6, 2) := by decide +kernel
theorem dX8_firstOfQuickest_54 : decode cX8_firstOfQuickest 54 = .ok (.aload_n 0, 1) := by decide +kernel
theorem dX8_firstOfQuickest_55 : decode cX8_firstOfQuickest 55 = .ok (.getfield 15, 3) := by decide +kernel
theorem dX8_firstOfQuickest_58 : decode cX8_firstOfQuickest 58 = .ok (.iload_n 3, 1) := by decide +kernel
theorem dX8_firstOfQuickest_59 : decode cX8_firstOfQuickest 59 = .ok (.iaload, 1) := by decide +kernel
theorem dX8_firstOfQuickest_60 : decode cX8_firstOfQuickest 60 = .ok (.invokestatic 56, 3) := by decide +kernel
theorem dX8_firstOfQuickest_63 : decode cX8_firstOfQuickest 63 = .ok (.ifCond .eq 20, 3) := by decide +kernel
theorem dX8_firstOfQuickest_66 : decode cX8_firstOfQuickest 66 = .ok (.aload_n 0, 1) := by decide +kernel
theorem dX8_firstOfQuickest_67 : decode cX8_firstOfQuickest 67 = .ok (.iload_n 3, 1) := by decide +kernel
theorem dX8_firstOfQuickest_68 : decode cX8_firstOfQuickest 68 = .ok (.iload 4, 2) := by decide +kernel
theorem dX8_firstOfQuickest_70 : decode cX8_firstOfQuickest 70 = .ok (.iload 6, 2) := by decide +kernel
theorem dX8_firstOfQuickest_72 : decode cX8_firstOfQuickest 72 = .ok (.invokevirtual 72, 3) := by decide +kernel
theorem dX8_firstOfQuickest_75 : decode cX8_firstOfQuickest 75 = .ok (.iload 5, 2) := by decide +kernel
theorem dX8_firstOfQuickest_77 : decode cX8_firstOfQuickest 77 = .ok (.if_icmp .ne 6, 3) := by decide +kernel
theorem dX8_firstOfQuickest_80 : decode cX8_firstOfQuickest 80 = .ok (.iload 6, 2) := by decide +kernel
theorem dX8_firstOfQuickest_82 : decode cX8_firstOfQuickest 82 = .ok (.ireturn, 1) := by decide +kernel
theorem dX8_firstOfQuickest_83 : decode cX8_firstOfQuickest 83 = .ok (.iinc 6 1, 3) := by decide +kernel
theorem dX8_firstOfQuickest_86 : decode cX8_firstOfQuickest 86 = .ok (.goto (-46), 3) := by decide +kernel
theorem dX8_firstOfQuickest_89 : decode cX8_firstOfQuickest 89 = .ok (.bipush (-9), 2) := by decide +kernel
theorem dX8_firstOfQuickest_91 : decode cX8_firstOfQuickest 91 = .ok (.ireturn, 1) := by decide +kernel
theorem dX8_countDeadEnds_0 : decode cX8_countDeadEnds 0 = .ok (.aload_n 0, 1) := by decide +kernel
theorem dX8_countDeadEnds_1 : decode cX8_countDeadEnds 1 = .ok (.iconst 0, 1) := by decide +kernel
theorem dX8_countDeadEnds_2 : decode cX8_countDeadEnds 2 = .ok (.iload_n 1, 1) := by decide +kernel
theorem dX8_countDeadEnds_3 : decode cX8_countDeadEnds 3 = .ok (.invokevirtual 47, 3) := by decide +kernel
theorem dX8_countDeadEnds_6 : decode cX8_countDeadEnds 6 = .ok (.aload_n 0, 1) := by decide +kernel
theorem dX8_countDeadEnds_7 : decode cX8_countDeadEnds 7 = .ok (.getfield 33, 3) := by decide +kernel
theorem dX8_countDeadEnds_10 : decode cX8_countDeadEnds 10 = .ok (.invokevirtual 76, 3) := by decide +kernel
theorem dX8_countDeadEnds_13 : decode cX8_countDeadEnds 13 = .ok (.istore_n 2, 1) := by decide +kernel
theorem dX8_countDeadEnds_14 : decode cX8_countDeadEnds 14 = .ok (.iconst 0, 1) := by decide +kernel
theorem dX8_countDeadEnds_15 : decode cX8_countDeadEnds 15 = .ok (.istore_n 3, 1) := by decide +kernel
theorem dX8_countDeadEnds_16 : decode cX8_countDeadEnds 16 = .ok (.iconst 0, 1) := by decide +kernel
theorem dX8_countDeadEnds_17 : decode cX8_countDeadEnds 17 = .ok (.istore 4, 2) := by decide +kernel
theorem dX8_countDeadEnds_19 : decode cX8_countDeadEnds 19 = .ok (.iload 4, 2) := by decide +kernel
theorem dX8_countDeadEnds_21 : decode cX8_countDeadEnds 21 = .ok (.iload_n 2, 1) := by decide +kernel
theorem dX8_countDeadEnds_22 : decode cX8_countDeadEnds 22 = .ok (.if_icmp .gt 33, 3) := by decide +kernel
theorem dX8_countDeadEnds_25 : decode cX8_countDeadEnds 25 = .ok (.aload_n 0, 1) := by decide +kernel
theorem dX8_countDeadEnds_26 : decode cX8_countDeadEnds 26 = .ok (.getfield 9, 3) := by decide +kernel
theorem dX8_countDeadEnds_29 : decode cX8_countDeadEnds 29 = .ok (.iload 4, 2) := by decide +kernel
theorem dX8_countDeadEnds_31 : decode cX8_countDeadEnds 31 = .ok (.iaload, 1) := by decide +kernel
theorem dX8_countDeadEnds_32 : decode cX8_countDeadEnds 32 = .ok (.iconst (-1), 1) := by decide +kernel
theorem dX8_countDeadEnds_33 : decode cX8_countDeadEnds 33 = .ok (.if_icmp .eq 16, 3) := by decide +kernel
theorem dX8_countDeadEnds_36 : decode cX8_countDeadEnds 36 = .ok (.aload_n 0, 1) := by decide +kernel
theorem dX8_countDeadEnds_37 : decode cX8_countDeadEnds 37 = .ok (.getfield 18, 3) := by decide +kernel
theorem dX8_countDeadEnds_40 : decode cX8_countDeadEnds 40 = .ok (.iload 4, 2) := by decide +kernel
theorem dX8_countDeadEnds_42 : decode cX8_countDeadEnds 42 = .ok (.iaload, 1) := by decide +kernel
theorem dX8_countDeadEnds_43 : decode cX8_countDeadEnds 43 = .ok (.ifCond .ne 6, 3) := by decide +kernel
theorem dX8_countDeadEnds_46 : decode cX8_countDeadEnds 46 = .ok (.iinc 3 1, 3) := by decide +kernel
theorem dX8_countDeadEnds_49 : decode cX8_countDeadEnds 49 = .ok (.iinc 4 1, 3) := by decide +kernel
theorem dX8_countDeadEnds_52 : decode cX8_countDeadEnds 52 = .ok (.goto (-33), 3) := by decide +kernel
theorem dX8_countDeadEnds_55 : decode cX8_countDeadEnds 55 = .ok (.iload_n 3, 1) := by decide +kernel
theorem dX8_countDeadEnds_56 : decode cX8_countDeadEnds 56 = .ok (.ireturn, 1) := by decide +kernel
theorem dX8_lookFrom_0 : decode cX8_lookFrom 0 = .ok (.aload_n 0, 1) := by decide +kernel
theorem dX8_lookFrom_1 : decode cX8_lookFrom 1 = .ok (.iload_n 1, 1) := by decide +kernel
theorem dX8_lookFrom_2 : decode cX8_lookFrom 2 = .ok (.iload_n 2, 1) := by decide +kernel
theorem dX8_lookFrom_3 : decode cX8_lookFrom 3 = .ok (.invokevirtual 79, 3) := by decide +kernel
theorem dX8_lookFrom_6 : decode cX8_lookFrom 6 = .ok (.aload_n 0, 1) := by decide +kernel
theorem dX8_lookFrom_7 : decode cX8_lookFrom 7 = .ok (.getfield 33, 3) := by decide +kernel
theorem dX8_lookFrom_10 : decode cX8_lookFrom 10 = .ok (.invokevirtual 76, 3) := by decide +kernel
theorem dX8_lookFrom_13 : decode cX8_lookFrom 13 = .ok (.istore_n 3, 1) := by decide +kernel
theorem dX8_lookFrom_14 : decode cX8_lookFrom 14 = .ok (.iload_n 3, 1) := by decide +kernel
theorem dX8_lookFrom_15 : decode cX8_lookFrom 15 = .ok (.iload_n 1, 1) := by decide +kernel
theorem dX8_lookFrom_16 : decode cX8_lookFrom 16 = .ok (.if_icmp .lt 24, 3) := by decide +kernel
theorem dX8_lookFrom_19 : decode cX8_lookFrom 19 = .ok (.aload_n 0, 1) := by decide +kernel
theorem dX8_lookFrom_20 : decode cX8_lookFrom 20 = .ok (.getfield 9, 3) := by decide +kernel
theorem dX8_lookFrom_23 : decode cX8_lookFrom 23 = .ok (.iload_n 3, 1) := by decide +kernel
theorem dX8_lookFrom_24 : decode cX8_lookFrom 24 = .ok (.iaload, 1) := by decide +kernel
theorem dX8_lookFrom_25 : decode cX8_lookFrom 25 = .ok (.iconst (-1), 1) := by decide +kernel
theorem dX8_lookFrom_26 : decode cX8_lookFrom 26 = .ok (.if_icmp .eq 8, 3) := by decide +kernel
theorem dX8_lookFrom_29 : decode cX8_lookFrom 29 = .ok (.aload_n 0, 1) := by decide +kernel
theorem dX8_lookFrom_30 : decode cX8_lookFrom 30 = .ok (.iload_n 3, 1) := by decide +kernel
theorem dX8_lookFrom_31 : decode cX8_lookFrom 31 = .ok (.invokevirtual 82, 3) := by decide +kernel
theorem dX8_lookFrom_34 : decode cX8_lookFrom 34 = .ok (.iinc 3 (-1), 3) := by decide +kernel
theorem dX8_lookFrom_37 : decode cX8_lookFrom 37 = .ok (.goto (-23), 3) := by decide +kernel
theorem dX8_lookFrom_40 : decode cX8_lookFrom 40 = .ok (.return_, 1) := by decide +kernel
theorem dX8_spread_0 : decode cX8_spread 0 = .ok (.aload_n 0, 1) := by decide +kernel
theorem dX8_spread_1 : decode cX8_spread 1 = .ok (.getfield 33, 3) := by decide +kernel
theorem dX8_spread_4 : decode cX8_spread 4 = .ok (.invokevirtual 76, 3) := by decide +kernel
theorem dX8_spread_7 : decode cX8_spread 7 = .ok (.istore_n 3, 1) := by decide +kernel
theorem dX8_spread_8 : decode cX8_spread 8 = .ok (.iconst 0, 1) := by decide +kernel
theorem dX8_spread_9 : decode cX8_spread 9 = .ok (.istore 4, 2) := by decide +kernel
theorem dX8_spread_11 : decode cX8_spread 11 = .ok (.iload 4, 2) := by decide +kernel
theorem dX8_spread_13 : decode cX8_spread 13 = .ok (.iload_n 3, 1) := by decide +kernel
theorem dX8_spread_14 : decode cX8_spread 14 = .ok (.if_icmp .gt 17, 3) := by decide +kernel
theorem dX8_spread_17 : decode cX8_spread 17 = .ok (.aload_n 0, 1) := by decide +kernel
theorem dX8_spread_18 : decode cX8_spread 18 = .ok (.getfield 9, 3) := by decide +kernel
theorem dX8_spread_21 : decode cX8_spread 21 = .ok (.iload 4, 2) := by decide +kernel
theorem dX8_spread_23 : decode cX8_spread 23 = .ok (.iconst (-1), 1) := by decide +kernel
theorem dX8_spread_24 : decode cX8_spread 24 = .ok (.iastore, 1) := by decide +kernel
theorem dX8_spread_25 : decode cX8_spread 25 = .ok (.iinc 4 1, 3) := by decide +kernel
theorem dX8_spread_28 : decode cX8_spread 28 = .ok (.goto (-17), 3) := by decide +kernel
theorem dX8_spread_31 : decode cX8_spread 31 = .ok (.aload_n 0, 1) := by decide +kernel
theorem dX8_spread_32 : decode cX8_spread 32 = .ok (.getfield 9, 3) := by decide +kernel
theorem dX8_spread_35 : decode cX8_spread 35 = .ok (.iload_n 1, 1) := by decide +kernel
theorem dX8_spread_36 : decode cX8_spread 36 = .ok (.iconst 0, 1) := by decide +kernel
theorem dX8_spread_37 : decode cX8_spread 37 = .ok (.iastore, 1) := by decide +kernel
theorem dX8_spread_38 : decode cX8_spread 38 = .ok (.iload_n 1, 1) := by decide +kernel
theorem dX8_spread_39 : decode cX8_spread 39 = .ok (.istore 4, 2) := by decide +kernel
theorem dX8_spread_41 : decode cX8_spread 41 = .ok (.iload 4, 2) := by decide +kernel
theorem dX8_spread_43 : decode cX8_spread 43 = .ok (.iload_n 3, 1) := by decide +kernel
theorem dX8_spread_44 : decode cX8_spread 44 = .ok (.if_icmp .gt 83, 3) := by decide +kernel
theorem dX8_spread_47 : decode cX8_spread 47 = .ok (.aload_n 0, 1) := by decide +kernel
theorem dX8_spread_48 : decode cX8_spread 48 = .ok (.getfield 9, 3) := by decide +kernel
theorem dX8_spread_51 : decode cX8_spread 51 = .ok (.iload 4, 2) := by decide +kernel
theorem dX8_spread_53 : decode cX8_spread 53 = .ok (.iaload, 1) := by decide +kernel
theorem dX8_spread_54 : decode cX8_spread 54 = .ok (.iconst (-1), 1) := by decide +kernel
theorem dX8_spread_55 : decode cX8_spread 55 = .ok (.if_icmp .ne 6, 3) := by decide +kernel
theorem dX8_spread_58 : decode cX8_spread 58 = .ok (.goto 63, 3) := by decide +kernel
theorem dX8_spread_61 : decode cX8_spread 61 = .ok (.aload_n 0, 1) := by decide +kernel
theorem dX8_spread_62 : decode cX8_spread 62 = .ok (.getfield 33, 3) := by decide +kernel
theorem dX8_spread_65 : decode cX8_spread 65 = .ok (.iload 4, 2) := by decide +kernel
theorem dX8_spread_67 : decode cX8_spread 67 = .ok (.iload_n 2, 1) := by decide +kernel
theorem dX8_spread_68 : decode cX8_spread 68 = .ok (.invokevirtual 86, 3) := by decide +kernel
theorem dX8_spread_71 : decode cX8_spread 71 = .ok (.istore 5, 2) := by decide +kernel
theorem dX8_spread_73 : decode cX8_spread 73 = .ok (.aload_n 0, 1) := by decide +kernel
theorem dX8_spread_74 : decode cX8_spread 74 = .ok (.getfield 9, 3) := by decide +kernel
theorem dX8_spread_77 : decode cX8_spread 77 = .ok (.iload 4, 2) := by decide +kernel
theorem dX8_spread_79 : decode cX8_spread 79 = .ok (.iload 5, 2) := by decide +kernel
theorem dX8_spread_81 : decode cX8_spread 81 = .ok (.iastore, 1) := by decide +kernel
theorem dX8_spread_82 : decode cX8_spread 82 = .ok (.iconst 0, 1) := by decide +kernel
theorem dX8_spread_83 : decode cX8_spread 83 = .ok (.istore 6, 2) := by decide +kernel
theorem dX8_spread_85 : decode cX8_spread 85 = .ok (.iload 6, 2) := by decide +kernel
theorem dX8_spread_87 : decode cX8_spread 87 = .ok (.bipush 10, 2) := by decide +kernel
theorem dX8_spread_89 : decode cX8_spread 89 = .ok (.if_icmp .ge 32, 3) := by decide +kernel
theorem dX8_spread_92 : decode cX8_spread 92 = .ok (.iload 5, 2) := by decide +kernel
theorem dX8_spread_94 : decode cX8_spread 94 = .ok (.iload 6, 2) := by decide +kernel
theorem dX8_spread_96 : decode cX8_spread 96 = .ok (.ishr, 1) := by decide +kernel
theorem dX8_spread_97 : decode cX8_spread 97 = .ok (.iconst 1, 1) := by decide +kernel
theorem dX8_spread_98 : decode cX8_spread 98 = .ok (.iand, 1) := by decide +kernel
theorem dX8_spread_99 : decode cX8_spread 99 = .ok (.ifCond .eq 16, 3) := by decide +kernel
theorem dX8_spread_102 : decode cX8_spread 102 = .ok (.aload_n 0, 1) := by decide +kernel
theorem dX8_spread_103 : decode cX8_spread 103 = .ok (.getfield 9, 3) := by decide +kernel
theorem dX8_spread_106 : decode cX8_spread 106 = .ok (.iload 4, 2) := by decide +kernel
theorem dX8_spread_108 : decode cX8_spread 108 = .ok (.iconst 1, 1) := by decide +kernel
theorem dX8_spread_109 : decode cX8_spread 109 = .ok (.iload 6, 2) := by decide +kernel
theorem dX8_spread_111 : decode cX8_spread 111 = .ok (.ishl, 1) := by decide +kernel
theorem dX8_spread_112 : decode cX8_spread 112 = .ok (.ior, 1) := by decide +kernel
theorem dX8_spread_113 : decode cX8_spread 113 = .ok (.iconst 0, 1) := by decide +kernel
theorem dX8_spread_114 : decode cX8_spread 114 = .ok (.iastore, 1) := by decide +kernel
theorem dX8_spread_115 : decode cX8_spread 115 = .ok (.iinc 6 1, 3) := by decide +kernel
theorem dX8_spread_118 : decode cX8_spread 118 = .ok (.goto (-33), 3) := by decide +kernel
theorem dX8_spread_121 : decode cX8_spread 121 = .ok (.iinc 4 1, 3) := by decide +kernel
theorem dX8_spread_124 : decode cX8_spread 124 = .ok (.goto (-83), 3) := by decide +kernel
theorem dX8_spread_127 : decode cX8_spread 127 = .ok (.return_, 1) := by decide +kernel
theorem dX8_weigh_0 : decode cX8_weigh 0 = .ok (.aload_n 0, 1) := by decide +kernel
theorem dX8_weigh_1 : decode cX8_weigh 1 = .ok (.getfield 33, 3) := by decide +kernel
theorem dX8_weigh_4 : decode cX8_weigh 4 = .ok (.iload_n 1, 1) := by decide +kernel
theorem dX8_weigh_5 : decode cX8_weigh 5 = .ok (.invokevirtual 89, 3) := by decide +kernel
theorem dX8_weigh_8 : decode cX8_weigh 8 = .ok (.istore_n 2, 1) := by decide +kernel
theorem dX8_weigh_9 : decode cX8_weigh 9 = .ok (.aload_n 0, 1) := by decide +kernel
theorem dX8_weigh_10 : decode cX8_weigh 10 = .ok (.getfield 9, 3) := by decide +kernel
theorem dX8_weigh_13 : decode cX8_weigh 13 = .ok (.iload_n 1, 1) := by decide +kernel
theorem dX8_weigh_14 : decode cX8_weigh 14 = .ok (.iaload, 1) := by decide +kernel
theorem dX8_weigh_15 : decode cX8_weigh 15 = .ok (.istore_n 3, 1) := by decide +kernel
theorem dX8_weigh_16 : decode cX8_weigh 16 = .ok (.iconst 0, 1) := by decide +kernel
theorem dX8_weigh_17 : decode cX8_weigh 17 = .ok (.istore 4, 2) := by decide +kernel
theorem dX8_weigh_19 : decode cX8_weigh 19 = .ok (.iload_n 2, 1) := by decide +kernel
theorem dX8_weigh_20 : decode cX8_weigh 20 = .ok (.ifCond .eq 7, 3) := by decide +kernel
theorem dX8_weigh_23 : decode cX8_weigh 23 = .ok (.iconst 1, 1) := by decide +kernel
theorem dX8_weigh_24 : decode cX8_weigh 24 = .ok (.goto 4, 3) := by decide +kernel
theorem dX8_weigh_27 : decode cX8_weigh 27 = .ok (.iconst 0, 1) := by decide +kernel
theorem dX8_weigh_28 : decode cX8_weigh 28 = .ok (.istore 5, 2) := by decide +kernel
theorem dX8_weigh_30 : decode cX8_weigh 30 = .ok (.iconst 0, 1) := by decide +kernel
theorem dX8_weigh_31 : decode cX8_weigh 31 = .ok (.istore 6, 2) := by decide +kernel
theorem dX8_weigh_33 : decode cX8_weigh 33 = .ok (.iload_n 2, 1) := by decide +kernel
theorem dX8_weigh_34 : decode cX8_weigh 34 = .ok (.ifCond .eq 7, 3) := by decide +kernel
theorem dX8_weigh_37 : decode cX8_weigh 37 = .ok (.iconst 0, 1) := by decide +kernel
theorem dX8_weigh_38 : decode cX8_weigh 38 = .ok (.goto 10, 3) := by decide +kernel
theorem dX8_weigh_41 : decode cX8_weigh 41 = .ok (.aload_n 0, 1) := by decide +kernel
theorem dX8_weigh_42 : decode cX8_weigh 42 = .ok (.getfield 33, 3) := by decide +kernel
theorem dX8_weigh_45 : decode cX8_weigh 45 = .ok (.invokevirtual 76, 3) := by decide +kernel
theorem dX8_weigh_48 : decode cX8_weigh 48 = .ok (.istore 7, 2) := by decide +kernel
theorem dX8_weigh_50 : decode cX8_weigh 50 = .ok (.iconst 0, 1) := by decide +kernel
theorem dX8_weigh_51 : decode cX8_weigh 51 = .ok (.istore 8, 2) := by decide +kernel
theorem dX8_weigh_53 : decode cX8_weigh 53 = .ok (.iload 8, 2) := by decide +kernel
theorem dX8_weigh_55 : decode cX8_weigh 55 = .ok (.bipush 10, 2) := by decide +kernel
theorem dX8_weigh_57 : decode cX8_weigh 57 = .ok (.if_icmp .ge 107, 3) := by decide +kernel
theorem dX8_weigh_60 : decode cX8_weigh 60 = .ok (.iload_n 1, 1) := by decide +kernel
theorem dX8_weigh_61 : decode cX8_weigh 61 = .ok (.iconst 1, 1) := by decide +kernel
theorem dX8_weigh_62 : decode cX8_weigh 62 = .ok (.iload 8, 2) := by decide +kernel
theorem dX8_weigh_64 : decode cX8_weigh 64 = .ok (.ishl, 1) := by decide +kernel
theorem dX8_weigh_65 : decode cX8_weigh 65 = .ok (.ior, 1) := by decide +kernel
theorem dX8_weigh_66 : decode cX8_weigh 66 = .ok (.istore 9, 2) := by decide +kernel
theorem dX8_weigh_68 : decode cX8_weigh 68 = .ok (.iload_n 3, 1) := by decide +kernel
theorem dX8_weigh_69 : decode cX8_weigh 69 = .ok (.iload 8, 2) := by decide +kernel
theorem dX8_weigh_71 : decode cX8_weigh 71 = .ok (.ishr, 1) := by decide +kernel
theorem dX8_weigh_72 : decode cX8_weigh 72 = .ok (.iconst 1, 1) := by decide +kernel
theorem dX8_weigh_73 : decode cX8_weigh 73 = .ok (.iand, 1) := by decide +kernel
theorem dX8_weigh_74 : decode cX8_weigh 74 = .ok (.ifCond .eq 84, 3) := by decide +kernel
theorem dX8_weigh_77 : decode cX8_weigh 77 = .ok (.aload_n 0, 1) := by decide +kernel
theorem dX8_weigh_78 : decode cX8_weigh 78 = .ok (.getfield 18, 3) := by decide +kernel
theorem dX8_weigh_81 : decode cX8_weigh 81 = .ok (.iload 9, 2) := by decide +kernel
theorem dX8_weigh_83 : decode cX8_weigh 83 = .ok (.iaload, 1) := by decide +kernel
theorem dX8_weigh_84 : decode cX8_weigh 84 = .ok (.ifCond .le 74, 3) := by decide +kernel
theorem dX8_weigh_87 : decode cX8_weigh 87 = .ok (.iload 4, 2) := by decide +kernel
theorem dX8_weigh_89 : decode cX8_weigh 89 = .ok (.ifCond .ne 15, 3) := by decide +kernel
theorem dX8_weigh_92 : decode cX8_weigh 92 = .ok (.aload_n 0, 1) := by decide +kernel
theorem dX8_weigh_93 : decode cX8_weigh 93 = .ok (.getfield 21, 3) := by decide +kernel
theorem dX8_weigh_96 : decode cX8_weigh 96 = .ok (.iload 9, 2) := by decide +kernel
theorem dX8_weigh_98 : decode cX8_weigh 98 = .ok (.iaload, 1) := by decide +kernel
theorem dX8_weigh_99 : decode cX8_weigh 99 = .ok (.iconst 1, 1) := by decide +kernel
theorem dX8_weigh_100 : decode cX8_weigh 100 = .ok (.iadd, 1) := by decide +kernel
theorem dX8_weigh_101 : decode cX8_weigh 101 = .ok (.goto 17, 3) := by decide +kernel
theorem dX8_weigh_104 : decode cX8_weigh 104 = .ok (.iload 6, 2) := by decide +kernel
theorem dX8_weigh_106 : decode cX8_weigh 106 = .ok (.aload_n 0, 1) := by decide +kernel
theorem dX8_weigh_107 : decode cX8_weigh 107 = .ok (.getfield 21, 3) := by decide +kernel
theorem dX8_weigh_110 : decode cX8_weigh 110 = .ok (.iload 9, 2) := by decide +kernel
theorem dX8_weigh_112 : decode cX8_weigh 112 = .ok (.iaload, 1) := by decide +kernel
theorem dX8_weigh_113 : decode cX8_weigh 113 = .ok (.iconst 1, 1) := by decide +kernel
theorem dX8_weigh_114 : decode cX8_weigh 114 = .ok (.iadd, 1) := by decide +kernel
theorem dX8_weigh_115 : decode cX8_weigh 115 = .ok (.invokestatic 93, 3) := by decide +kernel
theorem dX8_weigh_118 : decode cX8_weigh 118 = .ok (.istore 6, 2) := by decide +kernel
theorem dX8_weigh_120 : decode cX8_weigh 120 = .ok (.iload 4, 2) := by decide +kernel
theorem dX8_weigh_122 : decode cX8_weigh 122 = .ok (.iconst 1, 1) := by decide +kernel
theorem dX8_weigh_123 : decode cX8_weigh 123 = .ok (.iload 8, 2) := by decide +kernel
theorem dX8_weigh_125 : decode cX8_weigh 125 = .ok (.ishl, 1) := by decide +kernel
theorem dX8_weigh_126 : decode cX8_weigh 126 = .ok (.ior, 1) := by decide +kernel
theorem dX8_weigh_127 : decode cX8_weigh 127 = .ok (.istore 4, 2) := by decide +kernel
theorem dX8_weigh_129 : decode cX8_weigh 129 = .ok (.iload 5, 2) := by decide +kernel
theorem dX8_weigh_131 : decode cX8_weigh 131 = .ok (.aload_n 0, 1) := by decide +kernel
theorem dX8_weigh_132 : decode cX8_weigh 132 = .ok (.getfield 18, 3) := by decide +kernel
theorem dX8_weigh_135 : decode cX8_weigh 135 = .ok (.iload 9, 2) := by decide +kernel
theorem dX8_weigh_137 : decode cX8_weigh 137 = .ok (.iaload, 1) := by decide +kernel
theorem dX8_weigh_138 : decode cX8_weigh 138 = .ok (.iadd, 1) := by decide +kernel
theorem dX8_weigh_139 : decode cX8_weigh 139 = .ok (.istore 5, 2) := by decide +kernel
theorem dX8_weigh_141 : decode cX8_weigh 141 = .ok (.iload 7, 2) := by decide +kernel
theorem dX8_weigh_143 : decode cX8_weigh 143 = .ok (.aload_n 0, 1) := by decide +kernel
theorem dX8_weigh_144 : decode cX8_weigh 144 = .ok (.getfield 24, 3) := by decide +kernel
theorem dX8_weigh_147 : decode cX8_weigh 147 = .ok (.iload 9, 2) := by decide +kernel
theorem dX8_weigh_149 : decode cX8_weigh 149 = .ok (.iaload, 1) := by decide +kernel
theorem dX8_weigh_150 : decode cX8_weigh 150 = .ok (.iconst 1, 1) := by decide +kernel
theorem dX8_weigh_151 : decode cX8_weigh 151 = .ok (.iload 8, 2) := by decide +kernel
theorem dX8_weigh_153 : decode cX8_weigh 153 = .ok (.ishl, 1) := by decide +kernel
theorem dX8_weigh_154 : decode cX8_weigh 154 = .ok (.ior, 1) := by decide +kernel
theorem dX8_weigh_155 : decode cX8_weigh 155 = .ok (.iand, 1) := by decide +kernel
theorem dX8_weigh_156 : decode cX8_weigh 156 = .ok (.istore 7, 2) := by decide +kernel
theorem dX8_weigh_158 : decode cX8_weigh 158 = .ok (.iinc 8 1, 3) := by decide +kernel
theorem dX8_weigh_161 : decode cX8_weigh 161 = .ok (.goto (-108), 3) := by decide +kernel
theorem dX8_weigh_164 : decode cX8_weigh 164 = .ok (.aload_n 0, 1) := by decide +kernel
theorem dX8_weigh_165 : decode cX8_weigh 165 = .ok (.getfield 15, 3) := by decide +kernel
theorem dX8_weigh_168 : decode cX8_weigh 168 = .ok (.iload_n 1, 1) := by decide +kernel
theorem dX8_weigh_169 : decode cX8_weigh 169 = .ok (.iload 4, 2) := by decide +kernel
theorem dX8_weigh_171 : decode cX8_weigh 171 = .ok (.iastore, 1) := by decide +kernel
theorem dX8_weigh_172 : decode cX8_weigh 172 = .ok (.aload_n 0, 1) := by decide +kernel
theorem dX8_weigh_173 : decode cX8_weigh 173 = .ok (.getfield 18, 3) := by decide +kernel
theorem dX8_weigh_176 : decode cX8_weigh 176 = .ok (.iload_n 1, 1) := by decide +kernel
theorem dX8_weigh_177 : decode cX8_weigh 177 = .ok (.iload 5, 2) := by decide +kernel
theorem dX8_weigh_179 : decode cX8_weigh 179 = .ok (.iastore, 1) := by decide +kernel
theorem dX8_weigh_180 : decode cX8_weigh 180 = .ok (.aload_n 0, 1) := by decide +kernel
theorem dX8_weigh_181 : decode cX8_weigh 181 = .ok (.getfield 21, 3) := by decide +kernel
theorem dX8_weigh_184 : decode cX8_weigh 184 = .ok (.iload_n 1, 1) := by decide +kernel
theorem dX8_weigh_185 : decode cX8_weigh 185 = .ok (.iload 6, 2) := by decide +kernel
theorem dX8_weigh_187 : decode cX8_weigh 187 = .ok (.iastore, 1) := by decide +kernel
theorem dX8_weigh_188 : decode cX8_weigh 188 = .ok (.aload_n 0, 1) := by decide +kernel
theorem dX8_weigh_189 : decode cX8_weigh 189 = .ok (.getfield 24, 3) := by decide +kernel
theorem dX8_weigh_192 : decode cX8_weigh 192 = .ok (.iload_n 1, 1) := by decide +kernel
theorem dX8_weigh_193 : decode cX8_weigh 193 = .ok (.iload 7, 2) := by decide +kernel
theorem dX8_weigh_195 : decode cX8_weigh 195 = .ok (.iastore, 1) := by decide +kernel
theorem dX8_weigh_196 : decode cX8_weigh 196 = .ok (.return_, 1) := by decide +kernel
theorem dX8_whereIs_0 : decode cX8_whereIs 0 = .ok (.aload_n 0, 1) := by decide +kernel
theorem dX8_whereIs_1 : decode cX8_whereIs 1 = .ok (.iload_n 1, 1) := by decide +kernel
theorem dX8_whereIs_2 : decode cX8_whereIs 2 = .ok (.invokevirtual 98, 3) := by decide +kernel
theorem dX8_whereIs_5 : decode cX8_whereIs 5 = .ok (.istore_n 2, 1) := by decide +kernel
theorem dX8_whereIs_6 : decode cX8_whereIs 6 = .ok (.iload_n 2, 1) := by decide +kernel
theorem dX8_whereIs_7 : decode cX8_whereIs 7 = .ok (.bipush (-9), 2) := by decide +kernel
theorem dX8_whereIs_9 : decode cX8_whereIs 9 = .ok (.if_icmp .ne 8, 3) := by decide +kernel
theorem dX8_whereIs_12 : decode cX8_whereIs 12 = .ok (.bipush 10, 2) := by decide +kernel
theorem dX8_whereIs_14 : decode cX8_whereIs 14 = .ok (.goto 4, 3) := by decide +kernel
theorem dX8_whereIs_17 : decode cX8_whereIs 17 = .ok (.iload_n 2, 1) := by decide +kernel
theorem dX8_whereIs_18 : decode cX8_whereIs 18 = .ok (.ireturn, 1) := by decide +kernel
theorem dX8_measure_0 : decode cX8_measure 0 = .ok (.iconst 0, 1) := by decide +kernel
theorem dX8_measure_1 : decode cX8_measure 1 = .ok (.istore_n 2, 1) := by decide +kernel
theorem dX8_measure_2 : decode cX8_measure 2 = .ok (.iload_n 2, 1) := by decide +kernel
theorem dX8_measure_3 : decode cX8_measure 3 = .ok (.bipush 10, 2) := by decide +kernel
theorem dX8_measure_5 : decode cX8_measure 5 = .ok (.if_icmp .ge 56, 3) := by decide +kernel
theorem dX8_measure_8 : decode cX8_measure 8 = .ok (.iconst 0, 1) := by decide +kernel
theorem dX8_measure_9 : decode cX8_measure 9 = .ok (.istore_n 3, 1) := by decide +kernel
theorem dX8_measure_10 : decode cX8_measure 10 = .ok (.iload_n 3, 1) := by decide +kernel
theorem dX8_measure_11 : decode cX8_measure 11 = .ok (.bipush 10, 2) := by decide +kernel
theorem dX8_measure_13 : decode cX8_measure 13 = .ok (.if_icmp .ge 26, 3) := by decide +kernel
theorem dX8_measure_16 : decode cX8_measure 16 = .ok (.aload_n 0, 1) := by decide +kernel
theorem dX8_measure_17 : decode cX8_measure 17 = .ok (.getfield 30, 3) := by decide +kernel
theorem dX8_measure_20 : decode cX8_measure 20 = .ok (.iload_n 3, 1) := by decide +kernel
theorem dX8_measure_21 : decode cX8_measure 21 = .ok (.bipush 10, 2) := by decide +kernel
theorem dX8_measure_23 : decode cX8_measure 23 = .ok (.imul, 1) := by decide +kernel
theorem dX8_measure_24 : decode cX8_measure 24 = .ok (.iload_n 2, 1) := by decide +kernel
theorem dX8_measure_25 : decode cX8_measure 25 = .ok (.iadd, 1) := by decide +kernel
theorem dX8_measure_26 : decode cX8_measure 26 = .ok (.aload_n 1, 1) := by decide +kernel
theorem dX8_measure_27 : decode cX8_measure 27 = .ok (.iload_n 3, 1) := by decide +kernel
theorem dX8_measure_28 : decode cX8_measure 28 = .ok (.iload_n 2, 1) := by decide +kernel
theorem dX8_measure_29 : decode cX8_measure 29 = .ok (.invokevirtual 101, 3) := by decide +kernel
theorem dX8_measure_32 : decode cX8_measure 32 = .ok (.iastore, 1) := by decide +kernel
theorem dX8_measure_33 : decode cX8_measure 33 = .ok (.iinc 3 1, 3) := by decide +kernel
theorem dX8_measure_36 : decode cX8_measure 36 = .ok (.goto (-26), 3) := by decide +kernel
theorem dX8_measure_39 : decode cX8_measure 39 = .ok (.aload_n 0, 1) := by decide +kernel
theorem dX8_measure_40 : decode cX8_measure 40 = .ok (.getfield 30, 3) := by decide +kernel
theorem dX8_measure_43 : decode cX8_measure 43 = .ok (.bipush 100, 2) := by decide +kernel
theorem dX8_measure_45 : decode cX8_measure 45 = .ok (.iload_n 2, 1) := by decide +kernel
theorem dX8_measure_46 : decode cX8_measure 46 = .ok (.iadd, 1) := by decide +kernel
theorem dX8_measure_47 : decode cX8_measure 47 = .ok (.aload_n 1, 1) := by decide +kernel
theorem dX8_measure_48 : decode cX8_measure 48 = .ok (.bipush (-9), 2) := by decide +kernel
theorem dX8_measure_50 : decode cX8_measure 50 = .ok (.iload_n 2, 1) := by decide +kernel
theorem dX8_measure_51 : decode cX8_measure 51 = .ok (.invokevirtual 101, 3) := by decide +kernel
theorem dX8_measure_54 : decode cX8_measure 54 = .ok (.iastore, 1) := by decide +kernel
theorem dX8_measure_55 : decode cX8_measure 55 = .ok (.iinc 2 1, 3) := by decide +kernel
theorem dX8_measure_58 : decode cX8_measure 58 = .ok (.goto (-56), 3) := by decide +kernel
theorem dX8_measure_61 : decode cX8_measure 61 = .ok (.return_, 1) := by decide +kernel
theorem dX8_weighMinutes_0 : decode cX8_weighMinutes 0 = .ok (.aload_n 0, 1) := by decide +kernel
theorem dX8_weighMinutes_1 : decode cX8_weighMinutes 1 = .ok (.aload_n 1, 1) := by decide +kernel
theorem dX8_weighMinutes_2 : decode cX8_weighMinutes 2 = .ok (.invokevirtual 104, 3) := by decide +kernel
theorem dX8_weighMinutes_5 : decode cX8_weighMinutes 5 = .ok (.aload_n 0, 1) := by decide +kernel
theorem dX8_weighMinutes_6 : decode cX8_weighMinutes 6 = .ok (.getfield 33, 3) := by decide +kernel
theorem dX8_weighMinutes_9 : decode cX8_weighMinutes 9 = .ok (.invokevirtual 108, 3) := by decide +kernel
theorem dX8_weighMinutes_12 : decode cX8_weighMinutes 12 = .ok (.istore_n 3, 1) := by decide +kernel
theorem dX8_weighMinutes_13 : decode cX8_weighMinutes 13 = .ok (.iconst 1, 1) := by decide +kernel
theorem dX8_weighMinutes_14 : decode cX8_weighMinutes 14 = .ok (.iload_n 3, 1) := by decide +kernel
theorem dX8_weighMinutes_15 : decode cX8_weighMinutes 15 = .ok (.ishl, 1) := by decide +kernel
theorem dX8_weighMinutes_16 : decode cX8_weighMinutes 16 = .ok (.iconst 1, 1) := by decide +kernel
theorem dX8_weighMinutes_17 : decode cX8_weighMinutes 17 = .ok (.isub, 1) := by decide +kernel
theorem dX8_weighMinutes_18 : decode cX8_weighMinutes 18 = .ok (.istore 4, 2) := by decide +kernel
theorem dX8_weighMinutes_20 : decode cX8_weighMinutes 20 = .ok (.iload 4, 2) := by decide +kernel
theorem dX8_weighMinutes_22 : decode cX8_weighMinutes 22 = .ok (.iload_n 2, 1) := by decide +kernel
theorem dX8_weighMinutes_23 : decode cX8_weighMinutes 23 = .ok (.if_icmp .le 83, 3) := by decide +kernel
theorem dX8_weighMinutes_26 : decode cX8_weighMinutes 26 = .ok (.aload_n 0, 1) := by decide +kernel
theorem dX8_weighMinutes_27 : decode cX8_weighMinutes 27 = .ok (.getfield 9, 3) := by decide +kernel
theorem dX8_weighMinutes_30 : decode cX8_weighMinutes 30 = .ok (.iload 4, 2) := by decide +kernel
theorem dX8_weighMinutes_32 : decode cX8_weighMinutes 32 = .ok (.iaload, 1) := by decide +kernel
theorem dX8_weighMinutes_33 : decode cX8_weighMinutes 33 = .ok (.iconst (-1), 1) := by decide +kernel
theorem dX8_weighMinutes_34 : decode cX8_weighMinutes 34 = .ok (.if_icmp .eq 66, 3) := by decide +kernel
theorem dX8_weighMinutes_37 : decode cX8_weighMinutes 37 = .ok (.aload_n 0, 1) := by decide +kernel
theorem dX8_weighMinutes_38 : decode cX8_weighMinutes 38 = .ok (.getfield 18, 3) := by decide +kernel
theorem dX8_weighMinutes_41 : decode cX8_weighMinutes 41 = .ok (.iload 4, 2) := by decide +kernel
theorem dX8_weighMinutes_43 : decode cX8_weighMinutes 43 = .ok (.iaload, 1) := by decide +kernel
theorem dX8_weighMinutes_44 : decode cX8_weighMinutes 44 = .ok (.ifCond .ne 6, 3) := by decide +kernel
theorem dX8_weighMinutes_47 : decode cX8_weighMinutes 47 = .ok (.goto 53, 3) := by decide +kernel
theorem dX8_weighMinutes_50 : decode cX8_weighMinutes 50 = .ok (.iconst 0, 1) := by decide +kernel
theorem dX8_weighMinutes_51 : decode cX8_weighMinutes 51 = .ok (.istore 5, 2) := by decide +kernel
theorem dX8_weighMinutes_53 : decode cX8_weighMinutes 53 = .ok (.iload 5, 2) := by decide +kernel
theorem dX8_weighMinutes_55 : decode cX8_weighMinutes 55 = .ok (.iload_n 3, 1) := by decide +kernel
theorem dX8_weighMinutes_56 : decode cX8_weighMinutes 56 = .ok (.if_icmp .ge 44, 3) := by decide +kernel
theorem dX8_weighMinutes_59 : decode cX8_weighMinutes 59 = .ok (.iload 5, 2) := by decide +kernel
theorem dX8_weighMinutes_61 : decode cX8_weighMinutes 61 = .ok (.iload 4, 2) := by decide +kernel
theorem dX8_weighMinutes_63 : decode cX8_weighMinutes 63 = .ok (.iload_n 2, 1) := by decide +kernel
theorem dX8_weighMinutes_64 : decode cX8_weighMinutes 64 = .ok (.iconst (-1), 1) := by decide +kernel
theorem dX8_weighMinutes_65 : decode cX8_weighMinutes 65 = .ok (.ixor, 1) := by decide +kernel
theorem dX8_weighMinutes_66 : decode cX8_weighMinutes 66 = .ok (.iand, 1) := by decide +kernel
theorem dX8_weighMinutes_67 : decode cX8_weighMinutes 67 = .ok (.invokestatic 56, 3) := by decide +kernel
theorem dX8_weighMinutes_70 : decode cX8_weighMinutes 70 = .ok (.ifCond .eq 24, 3) := by decide +kernel
theorem dX8_weighMinutes_73 : decode cX8_weighMinutes 73 = .ok (.aload_n 0, 1) := by decide +kernel
theorem dX8_weighMinutes_74 : decode cX8_weighMinutes 74 = .ok (.getfield 27, 3) := by decide +kernel
theorem dX8_weighMinutes_77 : decode cX8_weighMinutes 77 = .ok (.iload 4, 2) := by decide +kernel
theorem dX8_weighMinutes_79 : decode cX8_weighMinutes 79 = .ok (.bipush 10, 2) := by decide +kernel
theorem dX8_weighMinutes_81 : decode cX8_weighMinutes 81 = .ok (.imul, 1) := by decide +kernel
theorem dX8_weighMinutes_82 : decode cX8_weighMinutes 82 = .ok (.iload 5, 2) := by decide +kernel
theorem dX8_weighMinutes_84 : decode cX8_weighMinutes 84 = .ok (.iadd, 1) := by decide +kernel
theorem dX8_weighMinutes_85 : decode cX8_weighMinutes 85 = .ok (.aload_n 0, 1) := by decide +kernel
theorem dX8_weighMinutes_86 : decode cX8_weighMinutes 86 = .ok (.iload 4, 2) := by decide +kernel
theorem dX8_weighMinutes_88 : decode cX8_weighMinutes 88 = .ok (.iload 5, 2) := by decide +kernel
theorem dX8_weighMinutes_90 : decode cX8_weighMinutes 90 = .ok (.invokevirtual 68, 3) := by decide +kernel
theorem dX8_weighMinutes_93 : decode cX8_weighMinutes 93 = .ok (.iastore, 1) := by decide +kernel
theorem dX8_weighMinutes_94 : decode cX8_weighMinutes 94 = .ok (.iinc 5 1, 3) := by decide +kernel
theorem dX8_weighMinutes_97 : decode cX8_weighMinutes 97 = .ok (.goto (-44), 3) := by decide +kernel
theorem dX8_weighMinutes_100 : decode cX8_weighMinutes 100 = .ok (.iinc 4 (-1), 3) := by decide +kernel
theorem dX8_weighMinutes_103 : decode cX8_weighMinutes 103 = .ok (.goto (-83), 3) := by decide +kernel
theorem dX8_weighMinutes_106 : decode cX8_weighMinutes 106 = .ok (.return_, 1) := by decide +kernel
theorem dX8_minutesFrom_0 : decode cX8_minutesFrom 0 = .ok (.aload_n 0, 1) := by decide +kernel
theorem dX8_minutesFrom_1 : decode cX8_minutesFrom 1 = .ok (.getfield 15, 3) := by decide +kernel
theorem dX8_minutesFrom_4 : decode cX8_minutesFrom 4 = .ok (.iload_n 1, 1) := by decide +kernel
theorem dX8_minutesFrom_5 : decode cX8_minutesFrom 5 = .ok (.iaload, 1) := by decide +kernel
theorem dX8_minutesFrom_6 : decode cX8_minutesFrom 6 = .ok (.istore_n 3, 1) := by decide +kernel
theorem dX8_minutesFrom_7 : decode cX8_minutesFrom 7 = .ok (.iconst 0, 1) := by decide +kernel
theorem dX8_minutesFrom_8 : decode cX8_minutesFrom 8 = .ok (.istore 4, 2) := by decide +kernel
theorem dX8_minutesFrom_10 : decode cX8_minutesFrom 10 = .ok (.iconst 0, 1) := by decide +kernel
theorem dX8_minutesFrom_11 : decode cX8_minutesFrom 11 = .ok (.istore 5, 2) := by decide +kernel
theorem dX8_minutesFrom_13 : decode cX8_minutesFrom 13 = .ok (.iconst 0, 1) := by decide +kernel
theorem dX8_minutesFrom_14 : decode cX8_minutesFrom 14 = .ok (.istore 6, 2) := by decide +kernel
theorem dX8_minutesFrom_16 : decode cX8_minutesFrom 16 = .ok (.iload 6, 2) := by decide +kernel
theorem dX8_minutesFrom_18 : decode cX8_minutesFrom 18 = .ok (.bipush 10, 2) := by decide +kernel
theorem dX8_minutesFrom_20 : decode cX8_minutesFrom 20 = .ok (.if_icmp .ge 50, 3) := by decide +kernel
theorem dX8_minutesFrom_23 : decode cX8_minutesFrom 23 = .ok (.iload_n 3, 1) := by decide +kernel
theorem dX8_minutesFrom_24 : decode cX8_minutesFrom 24 = .ok (.iload 6, 2) := by decide +kernel
theorem dX8_minutesFrom_26 : decode cX8_minutesFrom 26 = .ok (.ishr, 1) := by decide +kernel
theorem dX8_minutesFrom_27 : decode cX8_minutesFrom 27 = .ok (.iconst 1, 1) := by decide +kernel
theorem dX8_minutesFrom_28 : decode cX8_minutesFrom 28 = .ok (.iand, 1) := by decide +kernel
theorem dX8_minutesFrom_29 : decode cX8_minutesFrom 29 = .ok (.ifCond .eq 35, 3) := by decide +kernel
theorem dX8_minutesFrom_32 : decode cX8_minutesFrom 32 = .ok (.aload_n 0, 1) := by decide +kernel
theorem dX8_minutesFrom_33 : decode cX8_minutesFrom 33 = .ok (.iload_n 1, 1) := by decide +kernel
theorem dX8_minutesFrom_34 : decode cX8_minutesFrom 34 = .ok (.iload_n 2, 1) := by decide +kernel
theorem dX8_minutesFrom_35 : decode cX8_minutesFrom 35 = .ok (.iload 6, 2) := by decide +kernel
theorem dX8_minutesFrom_37 : decode cX8_minutesFrom 37 = .ok (.invokevirtual 72, 3) := by decide +kernel
theorem dX8_minutesFrom_40 : decode cX8_minutesFrom 40 = .ok (.istore 7, 2) := by decide +kernel
theorem dX8_minutesFrom_42 : decode cX8_minutesFrom 42 = .ok (.iload 5, 2) := by decide +kernel
theorem dX8_minutesFrom_44 : decode cX8_minutesFrom 44 = .ok (.ifCond .eq 13, 3) := by decide +kernel
theorem dX8_minutesFrom_47 : decode cX8_minutesFrom 47 = .ok (.iload 4, 2) := by decide +kernel
theorem dX8_minutesFrom_49 : decode cX8_minutesFrom 49 = .ok (.iload 7, 2) := by decide +kernel
theorem dX8_minutesFrom_51 : decode cX8_minutesFrom 51 = .ok (.invokestatic 93, 3) := by decide +kernel
theorem dX8_minutesFrom_54 : decode cX8_minutesFrom 54 = .ok (.goto 5, 3) := by decide +kernel
theorem dX8_minutesFrom_57 : decode cX8_minutesFrom 57 = .ok (.iload 7, 2) := by decide +kernel
theorem dX8_minutesFrom_59 : decode cX8_minutesFrom 59 = .ok (.istore 4, 2) := by decide +kernel
theorem dX8_minutesFrom_61 : decode cX8_minutesFrom 61 = .ok (.iconst 1, 1) := by decide +kernel
theorem dX8_minutesFrom_62 : decode cX8_minutesFrom 62 = .ok (.istore 5, 2) := by decide +kernel
theorem dX8_minutesFrom_64 : decode cX8_minutesFrom 64 = .ok (.iinc 6 1, 3) := by decide +kernel
theorem dX8_minutesFrom_67 : decode cX8_minutesFrom 67 = .ok (.goto (-51), 3) := by decide +kernel
theorem dX8_minutesFrom_70 : decode cX8_minutesFrom 70 = .ok (.iload 4, 2) := by decide +kernel
theorem dX8_minutesFrom_72 : decode cX8_minutesFrom 72 = .ok (.ireturn, 1) := by decide +kernel
theorem dX8_minutesBy_0 : decode cX8_minutesBy 0 = .ok (.iload_n 1, 1) := by decide +kernel
theorem dX8_minutesBy_1 : decode cX8_minutesBy 1 = .ok (.iconst 1, 1) := by decide +kernel
theorem dX8_minutesBy_2 : decode cX8_minutesBy 2 = .ok (.iload_n 3, 1) := by decide +kernel
theorem dX8_minutesBy_3 : decode cX8_minutesBy 3 = .ok (.ishl, 1) := by decide +kernel
theorem dX8_minutesBy_4 : decode cX8_minutesBy 4 = .ok (.ior, 1) := by decide +kernel
theorem dX8_minutesBy_5 : decode cX8_minutesBy 5 = .ok (.istore 4, 2) := by decide +kernel
theorem dX8_minutesBy_7 : decode cX8_minutesBy 7 = .ok (.aload_n 0, 1) := by decide +kernel
theorem dX8_minutesBy_8 : decode cX8_minutesBy 8 = .ok (.getfield 33, 3) := by decide +kernel
theorem dX8_minutesBy_11 : decode cX8_minutesBy 11 = .ok (.iload 4, 2) := by decide +kernel
theorem dX8_minutesBy_13 : decode cX8_minutesBy 13 = .ok (.invokevirtual 89, 3) := by decide +kernel
theorem dX8_minutesBy_16 : decode cX8_minutesBy 16 = .ok (.ifCond .eq 7, 3) := by decide +kernel
theorem dX8_minutesBy_19 : decode cX8_minutesBy 19 = .ok (.iconst 0, 1) := by decide +kernel
theorem dX8_minutesBy_20 : decode cX8_minutesBy 20 = .ok (.goto 15, 3) := by decide +kernel
theorem dX8_minutesBy_23 : decode cX8_minutesBy 23 = .ok (.aload_n 0, 1) := by decide +kernel
theorem dX8_minutesBy_24 : decode cX8_minutesBy 24 = .ok (.getfield 27, 3) := by decide +kernel
theorem dX8_minutesBy_27 : decode cX8_minutesBy 27 = .ok (.iload 4, 2) := by decide +kernel
theorem dX8_minutesBy_29 : decode cX8_minutesBy 29 = .ok (.bipush 10, 2) := by decide +kernel
theorem dX8_minutesBy_31 : decode cX8_minutesBy 31 = .ok (.imul, 1) := by decide +kernel
theorem dX8_minutesBy_32 : decode cX8_minutesBy 32 = .ok (.iload_n 3, 1) := by decide +kernel
theorem dX8_minutesBy_33 : decode cX8_minutesBy 33 = .ok (.iadd, 1) := by decide +kernel
theorem dX8_minutesBy_34 : decode cX8_minutesBy 34 = .ok (.iaload, 1) := by decide +kernel
theorem dX8_minutesBy_35 : decode cX8_minutesBy 35 = .ok (.istore 5, 2) := by decide +kernel
theorem dX8_minutesBy_37 : decode cX8_minutesBy 37 = .ok (.aload_n 0, 1) := by decide +kernel
theorem dX8_minutesBy_38 : decode cX8_minutesBy 38 = .ok (.getfield 30, 3) := by decide +kernel
theorem dX8_minutesBy_41 : decode cX8_minutesBy 41 = .ok (.iload_n 2, 1) := by decide +kernel
theorem dX8_minutesBy_42 : decode cX8_minutesBy 42 = .ok (.bipush 10, 2) := by decide +kernel
theorem dX8_minutesBy_44 : decode cX8_minutesBy 44 = .ok (.imul, 1) := by decide +kernel
theorem dX8_minutesBy_45 : decode cX8_minutesBy 45 = .ok (.iload_n 3, 1) := by decide +kernel
theorem dX8_minutesBy_46 : decode cX8_minutesBy 46 = .ok (.iadd, 1) := by decide +kernel
theorem dX8_minutesBy_47 : decode cX8_minutesBy 47 = .ok (.iaload, 1) := by decide +kernel
theorem dX8_minutesBy_48 : decode cX8_minutesBy 48 = .ok (.iload 5, 2) := by decide +kernel
theorem dX8_minutesBy_50 : decode cX8_minutesBy 50 = .ok (.iadd, 1) := by decide +kernel
theorem dX8_minutesBy_51 : decode cX8_minutesBy 51 = .ok (.ireturn, 1) := by decide +kernel
