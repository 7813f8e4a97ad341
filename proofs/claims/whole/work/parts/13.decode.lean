theorem d_M_behind_0 : decode k_M_behind 0 = .ok (.iconst 0, 1) := by decide +kernel
theorem d_M_behind_1 : decode k_M_behind 1 = .ok (.istore_n 2, 1) := by decide +kernel
theorem d_M_behind_2 : decode k_M_behind 2 = .ok (.iload_n 1, 1) := by decide +kernel
theorem d_M_behind_3 : decode k_M_behind 3 = .ok (.istore_n 3, 1) := by decide +kernel
theorem d_M_behind_4 : decode k_M_behind 4 = .ok (.aload_n 0, 1) := by decide +kernel
theorem d_M_behind_5 : decode k_M_behind 5 = .ok (.getfield 25, 3) := by decide +kernel
theorem d_M_behind_8 : decode k_M_behind 8 = .ok (.iload_n 3, 1) := by decide +kernel
theorem d_M_behind_9 : decode k_M_behind 9 = .ok (.iaload, 1) := by decide +kernel
theorem d_M_behind_10 : decode k_M_behind 10 = .ok (.bipush 123, 2) := by decide +kernel
theorem d_M_behind_12 : decode k_M_behind 12 = .ok (.if_icmp .ne 6, 3) := by decide +kernel
theorem d_M_behind_15 : decode k_M_behind 15 = .ok (.iinc 2 1, 3) := by decide +kernel
theorem d_M_behind_18 : decode k_M_behind 18 = .ok (.aload_n 0, 1) := by decide +kernel
theorem d_M_behind_19 : decode k_M_behind 19 = .ok (.getfield 25, 3) := by decide +kernel
theorem d_M_behind_22 : decode k_M_behind 22 = .ok (.iload_n 3, 1) := by decide +kernel
theorem d_M_behind_23 : decode k_M_behind 23 = .ok (.iaload, 1) := by decide +kernel
theorem d_M_behind_24 : decode k_M_behind 24 = .ok (.bipush 125, 2) := by decide +kernel
theorem d_M_behind_26 : decode k_M_behind 26 = .ok (.if_icmp .ne 6, 3) := by decide +kernel
theorem d_M_behind_29 : decode k_M_behind 29 = .ok (.iinc 2 (-1), 3) := by decide +kernel
theorem d_M_behind_32 : decode k_M_behind 32 = .ok (.iinc 3 1, 3) := by decide +kernel
theorem d_M_behind_35 : decode k_M_behind 35 = .ok (.iload_n 2, 1) := by decide +kernel
theorem d_M_behind_36 : decode k_M_behind 36 = .ok (.ifCond .gt (-32), 3) := by decide +kernel
theorem d_M_behind_39 : decode k_M_behind 39 = .ok (.iload_n 3, 1) := by decide +kernel
theorem d_M_behind_40 : decode k_M_behind 40 = .ok (.ireturn, 1) := by decide +kernel
theorem d_M_walk_0 : decode k_M_walk 0 = .ok (.iload_n 2, 1) := by decide +kernel
theorem d_M_walk_1 : decode k_M_walk 1 = .ok (.iconst 0, 1) := by decide +kernel
theorem d_M_walk_2 : decode k_M_walk 2 = .ok (.sipush 400, 3) := by decide +kernel
theorem d_M_walk_5 : decode k_M_walk 5 = .ok (.invokestatic 56, 3) := by decide +kernel
theorem d_M_walk_8 : decode k_M_walk 8 = .ok (.ifCond .ne 5, 3) := by decide +kernel
theorem d_M_walk_11 : decode k_M_walk 11 = .ok (.iconst (-1), 1) := by decide +kernel
theorem d_M_walk_12 : decode k_M_walk 12 = .ok (.ireturn, 1) := by decide +kernel
theorem d_M_walk_13 : decode k_M_walk 13 = .ok (.aload_n 0, 1) := by decide +kernel
theorem d_M_walk_14 : decode k_M_walk 14 = .ok (.getfield 107, 3) := by decide +kernel
theorem d_M_walk_17 : decode k_M_walk 17 = .ok (.ifCond .ne 6, 3) := by decide +kernel
theorem d_M_walk_20 : decode k_M_walk 20 = .ok (.bipush (-2), 2) := by decide +kernel
theorem d_M_walk_22 : decode k_M_walk 22 = .ok (.ireturn, 1) := by decide +kernel
theorem d_M_walk_23 : decode k_M_walk 23 = .ok (.aload_n 0, 1) := by decide +kernel
theorem d_M_walk_24 : decode k_M_walk 24 = .ok (.iload_n 1, 1) := by decide +kernel
theorem d_M_walk_25 : decode k_M_walk 25 = .ok (.invokevirtual 166, 3) := by decide +kernel
theorem d_M_walk_28 : decode k_M_walk 28 = .ok (.iconst 0, 1) := by decide +kernel
theorem d_M_walk_29 : decode k_M_walk 29 = .ok (.istore_n 3, 1) := by decide +kernel
theorem d_M_walk_30 : decode k_M_walk 30 = .ok (.iconst 0, 1) := by decide +kernel
theorem d_M_walk_31 : decode k_M_walk 31 = .ok (.istore 4, 2) := by decide +kernel
theorem d_M_walk_33 : decode k_M_walk 33 = .ok (.iload_n 3, 1) := by decide +kernel
theorem d_M_walk_34 : decode k_M_walk 34 = .ok (.aload_n 0, 1) := by decide +kernel
theorem d_M_walk_35 : decode k_M_walk 35 = .ok (.getfield 87, 3) := by decide +kernel
theorem d_M_walk_38 : decode k_M_walk 38 = .ok (.if_icmp .ge 278, 3) := by decide +kernel
theorem d_M_walk_41 : decode k_M_walk 41 = .ok (.aload_n 0, 1) := by decide +kernel
theorem d_M_walk_42 : decode k_M_walk 42 = .ok (.getfield 25, 3) := by decide +kernel
theorem d_M_walk_45 : decode k_M_walk 45 = .ok (.iload_n 3, 1) := by decide +kernel
theorem d_M_walk_46 : decode k_M_walk 46 = .ok (.iaload, 1) := by decide +kernel
theorem d_M_walk_47 : decode k_M_walk 47 = .ok (.istore 5, 2) := by decide +kernel
theorem d_M_walk_49 : decode k_M_walk 49 = .ok (.iload 5, 2) := by decide +kernel
theorem d_M_walk_51 : decode k_M_walk 51 = .ok (.bipush 125, 2) := by decide +kernel
theorem d_M_walk_53 : decode k_M_walk 53 = .ok (.if_icmp .ne 71, 3) := by decide +kernel
theorem d_M_walk_56 : decode k_M_walk 56 = .ok (.iinc 4 (-1), 3) := by decide +kernel
theorem d_M_walk_59 : decode k_M_walk 59 = .ok (.aload_n 0, 1) := by decide +kernel
theorem d_M_walk_60 : decode k_M_walk 60 = .ok (.getfield 53, 3) := by decide +kernel
theorem d_M_walk_63 : decode k_M_walk 63 = .ok (.iload 4, 2) := by decide +kernel
theorem d_M_walk_65 : decode k_M_walk 65 = .ok (.iaload, 1) := by decide +kernel
theorem d_M_walk_66 : decode k_M_walk 66 = .ok (.ifCond .lt 13, 3) := by decide +kernel
theorem d_M_walk_69 : decode k_M_walk 69 = .ok (.aload_n 0, 1) := by decide +kernel
theorem d_M_walk_70 : decode k_M_walk 70 = .ok (.getfield 53, 3) := by decide +kernel
theorem d_M_walk_73 : decode k_M_walk 73 = .ok (.iload 4, 2) := by decide +kernel
theorem d_M_walk_75 : decode k_M_walk 75 = .ok (.iaload, 1) := by decide +kernel
theorem d_M_walk_76 : decode k_M_walk 76 = .ok (.goto 6, 3) := by decide +kernel
theorem d_M_walk_79 : decode k_M_walk 79 = .ok (.iload_n 3, 1) := by decide +kernel
theorem d_M_walk_80 : decode k_M_walk 80 = .ok (.iconst 1, 1) := by decide +kernel
theorem d_M_walk_81 : decode k_M_walk 81 = .ok (.iadd, 1) := by decide +kernel
theorem d_M_walk_82 : decode k_M_walk 82 = .ok (.istore_n 3, 1) := by decide +kernel
theorem d_M_walk_83 : decode k_M_walk 83 = .ok (.aload_n 0, 1) := by decide +kernel
theorem d_M_walk_84 : decode k_M_walk 84 = .ok (.getfield 53, 3) := by decide +kernel
theorem d_M_walk_87 : decode k_M_walk 87 = .ok (.iload 4, 2) := by decide +kernel
theorem d_M_walk_89 : decode k_M_walk 89 = .ok (.iaload, 1) := by decide +kernel
theorem d_M_walk_90 : decode k_M_walk 90 = .ok (.iconst (-1), 1) := by decide +kernel
theorem d_M_walk_91 : decode k_M_walk 91 = .ok (.if_icmp .ne (-58), 3) := by decide +kernel
theorem d_M_walk_94 : decode k_M_walk 94 = .ok (.iload_n 3, 1) := by decide +kernel
theorem d_M_walk_95 : decode k_M_walk 95 = .ok (.aload_n 0, 1) := by decide +kernel
theorem d_M_walk_96 : decode k_M_walk 96 = .ok (.getfield 87, 3) := by decide +kernel
theorem d_M_walk_99 : decode k_M_walk 99 = .ok (.if_icmp .ge (-66), 3) := by decide +kernel
theorem d_M_walk_102 : decode k_M_walk 102 = .ok (.aload_n 0, 1) := by decide +kernel
theorem d_M_walk_103 : decode k_M_walk 103 = .ok (.getfield 25, 3) := by decide +kernel
theorem d_M_walk_106 : decode k_M_walk 106 = .ok (.iload_n 3, 1) := by decide +kernel
theorem d_M_walk_107 : decode k_M_walk 107 = .ok (.iaload, 1) := by decide +kernel
theorem d_M_walk_108 : decode k_M_walk 108 = .ok (.bipush 58, 2) := by decide +kernel
theorem d_M_walk_110 : decode k_M_walk 110 = .ok (.if_icmp .ne (-77), 3) := by decide +kernel
theorem d_M_walk_113 : decode k_M_walk 113 = .ok (.aload_n 0, 1) := by decide +kernel
theorem d_M_walk_114 : decode k_M_walk 114 = .ok (.iload_n 3, 1) := by decide +kernel
theorem d_M_walk_115 : decode k_M_walk 115 = .ok (.iconst 1, 1) := by decide +kernel
theorem d_M_walk_116 : decode k_M_walk 116 = .ok (.iadd, 1) := by decide +kernel
theorem d_M_walk_117 : decode k_M_walk 117 = .ok (.invokevirtual 188, 3) := by decide +kernel
theorem d_M_walk_120 : decode k_M_walk 120 = .ok (.istore_n 3, 1) := by decide +kernel
theorem d_M_walk_121 : decode k_M_walk 121 = .ok (.goto (-88), 3) := by decide +kernel
theorem d_M_walk_124 : decode k_M_walk 124 = .ok (.aload_n 0, 1) := by decide +kernel
theorem d_M_walk_125 : decode k_M_walk 125 = .ok (.getfield 163, 3) := by decide +kernel
theorem d_M_walk_128 : decode k_M_walk 128 = .ok (.iload_n 2, 1) := by decide +kernel
theorem d_M_walk_129 : decode k_M_walk 129 = .ok (.if_icmp .ne 6, 3) := by decide +kernel
theorem d_M_walk_132 : decode k_M_walk 132 = .ok (.bipush (-7), 2) := by decide +kernel
theorem d_M_walk_134 : decode k_M_walk 134 = .ok (.ireturn, 1) := by decide +kernel
theorem d_M_walk_135 : decode k_M_walk 135 = .ok (.aload_n 0, 1) := by decide +kernel
theorem d_M_walk_136 : decode k_M_walk 136 = .ok (.dup, 1) := by decide +kernel
theorem d_M_walk_137 : decode k_M_walk 137 = .ok (.getfield 163, 3) := by decide +kernel
theorem d_M_walk_140 : decode k_M_walk 140 = .ok (.iconst 1, 1) := by decide +kernel
theorem d_M_walk_141 : decode k_M_walk 141 = .ok (.iadd, 1) := by decide +kernel
theorem d_M_walk_142 : decode k_M_walk 142 = .ok (.putfield 163, 3) := by decide +kernel
theorem d_M_walk_145 : decode k_M_walk 145 = .ok (.aload_n 0, 1) := by decide +kernel
theorem d_M_walk_146 : decode k_M_walk 146 = .ok (.iload 5, 2) := by decide +kernel
theorem d_M_walk_148 : decode k_M_walk 148 = .ok (.invokestatic 127, 3) := by decide +kernel
theorem d_M_walk_151 : decode k_M_walk 151 = .ok (.ifCond .eq 9, 3) := by decide +kernel
theorem d_M_walk_154 : decode k_M_walk 154 = .ok (.iload_n 3, 1) := by decide +kernel
theorem d_M_walk_155 : decode k_M_walk 155 = .ok (.iconst 2, 1) := by decide +kernel
theorem d_M_walk_156 : decode k_M_walk 156 = .ok (.iadd, 1) := by decide +kernel
theorem d_M_walk_157 : decode k_M_walk 157 = .ok (.goto 6, 3) := by decide +kernel
theorem d_M_walk_160 : decode k_M_walk 160 = .ok (.iload_n 3, 1) := by decide +kernel
theorem d_M_walk_161 : decode k_M_walk 161 = .ok (.iconst 1, 1) := by decide +kernel
theorem d_M_walk_162 : decode k_M_walk 162 = .ok (.iadd, 1) := by decide +kernel
theorem d_M_walk_163 : decode k_M_walk 163 = .ok (.invokevirtual 191, 3) := by decide +kernel
theorem d_M_walk_166 : decode k_M_walk 166 = .ok (.istore 6, 2) := by decide +kernel
theorem d_M_walk_168 : decode k_M_walk 168 = .ok (.iload 5, 2) := by decide +kernel
theorem d_M_walk_170 : decode k_M_walk 170 = .ok (.invokestatic 127, 3) := by decide +kernel
theorem d_M_walk_173 : decode k_M_walk 173 = .ok (.ifCond .eq 17, 3) := by decide +kernel
theorem d_M_walk_176 : decode k_M_walk 176 = .ok (.aload_n 0, 1) := by decide +kernel
theorem d_M_walk_177 : decode k_M_walk 177 = .ok (.getfield 41, 3) := by decide +kernel
theorem d_M_walk_180 : decode k_M_walk 180 = .ok (.iload 5, 2) := by decide +kernel
theorem d_M_walk_182 : decode k_M_walk 182 = .ok (.bipush 97, 2) := by decide +kernel
theorem d_M_walk_184 : decode k_M_walk 184 = .ok (.isub, 1) := by decide +kernel
theorem d_M_walk_185 : decode k_M_walk 185 = .ok (.aload_n 0, 1) := by decide +kernel
theorem d_M_walk_186 : decode k_M_walk 186 = .ok (.getfield 185, 3) := by decide +kernel
theorem d_M_walk_189 : decode k_M_walk 189 = .ok (.iastore, 1) := by decide +kernel
theorem d_M_walk_190 : decode k_M_walk 190 = .ok (.iload 5, 2) := by decide +kernel
theorem d_M_walk_192 : decode k_M_walk 192 = .ok (.bipush 35, 2) := by decide +kernel
theorem d_M_walk_194 : decode k_M_walk 194 = .ok (.if_icmp .ne 11, 3) := by decide +kernel
theorem d_M_walk_197 : decode k_M_walk 197 = .ok (.aload_n 0, 1) := by decide +kernel
theorem d_M_walk_198 : decode k_M_walk 198 = .ok (.aload_n 0, 1) := by decide +kernel
theorem d_M_walk_199 : decode k_M_walk 199 = .ok (.getfield 185, 3) := by decide +kernel
theorem d_M_walk_202 : decode k_M_walk 202 = .ok (.invokevirtual 175, 3) := by decide +kernel
theorem d_M_walk_205 : decode k_M_walk 205 = .ok (.iload 5, 2) := by decide +kernel
theorem d_M_walk_207 : decode k_M_walk 207 = .ok (.invokestatic 127, 3) := by decide +kernel
theorem d_M_walk_210 : decode k_M_walk 210 = .ok (.ifCond .ne 10, 3) := by decide +kernel
theorem d_M_walk_213 : decode k_M_walk 213 = .ok (.iload 5, 2) := by decide +kernel
theorem d_M_walk_215 : decode k_M_walk 215 = .ok (.bipush 35, 2) := by decide +kernel
theorem d_M_walk_217 : decode k_M_walk 217 = .ok (.if_icmp .ne 11, 3) := by decide +kernel
theorem d_M_walk_220 : decode k_M_walk 220 = .ok (.iload 6, 2) := by decide +kernel
theorem d_M_walk_222 : decode k_M_walk 222 = .ok (.iconst 1, 1) := by decide +kernel
theorem d_M_walk_223 : decode k_M_walk 223 = .ok (.iadd, 1) := by decide +kernel
theorem d_M_walk_224 : decode k_M_walk 224 = .ok (.istore_n 3, 1) := by decide +kernel
theorem d_M_walk_225 : decode k_M_walk 225 = .ok (.goto (-192), 3) := by decide +kernel
theorem d_M_walk_228 : decode k_M_walk 228 = .ok (.aload_n 0, 1) := by decide +kernel
theorem d_M_walk_229 : decode k_M_walk 229 = .ok (.getfield 185, 3) := by decide +kernel
theorem d_M_walk_232 : decode k_M_walk 232 = .ok (.ifCond .eq 33, 3) := by decide +kernel
theorem d_M_walk_235 : decode k_M_walk 235 = .ok (.aload_n 0, 1) := by decide +kernel
theorem d_M_walk_236 : decode k_M_walk 236 = .ok (.getfield 53, 3) := by decide +kernel
theorem d_M_walk_239 : decode k_M_walk 239 = .ok (.iload 4, 2) := by decide +kernel
theorem d_M_walk_241 : decode k_M_walk 241 = .ok (.iload 5, 2) := by decide +kernel
theorem d_M_walk_243 : decode k_M_walk 243 = .ok (.bipush 64, 2) := by decide +kernel
theorem d_M_walk_245 : decode k_M_walk 245 = .ok (.if_icmp .ne 7, 3) := by decide +kernel
theorem d_M_walk_248 : decode k_M_walk 248 = .ok (.iload_n 3, 1) := by decide +kernel
theorem d_M_walk_249 : decode k_M_walk 249 = .ok (.goto 4, 3) := by decide +kernel
theorem d_M_walk_252 : decode k_M_walk 252 = .ok (.iconst (-1), 1) := by decide +kernel
theorem d_M_walk_253 : decode k_M_walk 253 = .ok (.iastore, 1) := by decide +kernel
theorem d_M_walk_254 : decode k_M_walk 254 = .ok (.iinc 4 1, 3) := by decide +kernel
theorem d_M_walk_257 : decode k_M_walk 257 = .ok (.iload 6, 2) := by decide +kernel
theorem d_M_walk_259 : decode k_M_walk 259 = .ok (.iconst 1, 1) := by decide +kernel
theorem d_M_walk_260 : decode k_M_walk 260 = .ok (.iadd, 1) := by decide +kernel
theorem d_M_walk_261 : decode k_M_walk 261 = .ok (.istore_n 3, 1) := by decide +kernel
theorem d_M_walk_262 : decode k_M_walk 262 = .ok (.goto (-229), 3) := by decide +kernel
theorem d_M_walk_265 : decode k_M_walk 265 = .ok (.aload_n 0, 1) := by decide +kernel
theorem d_M_walk_266 : decode k_M_walk 266 = .ok (.iload 6, 2) := by decide +kernel
theorem d_M_walk_268 : decode k_M_walk 268 = .ok (.invokevirtual 188, 3) := by decide +kernel
theorem d_M_walk_271 : decode k_M_walk 271 = .ok (.istore_n 3, 1) := by decide +kernel
theorem d_M_walk_272 : decode k_M_walk 272 = .ok (.iload 5, 2) := by decide +kernel
theorem d_M_walk_274 : decode k_M_walk 274 = .ok (.bipush 63, 2) := by decide +kernel
theorem d_M_walk_276 : decode k_M_walk 276 = .ok (.if_icmp .ne 37, 3) := by decide +kernel
theorem d_M_walk_279 : decode k_M_walk 279 = .ok (.iload_n 3, 1) := by decide +kernel
theorem d_M_walk_280 : decode k_M_walk 280 = .ok (.aload_n 0, 1) := by decide +kernel
theorem d_M_walk_281 : decode k_M_walk 281 = .ok (.getfield 87, 3) := by decide +kernel
theorem d_M_walk_284 : decode k_M_walk 284 = .ok (.if_icmp .ge 29, 3) := by decide +kernel
theorem d_M_walk_287 : decode k_M_walk 287 = .ok (.aload_n 0, 1) := by decide +kernel
theorem d_M_walk_288 : decode k_M_walk 288 = .ok (.getfield 25, 3) := by decide +kernel
theorem d_M_walk_291 : decode k_M_walk 291 = .ok (.iload_n 3, 1) := by decide +kernel
theorem d_M_walk_292 : decode k_M_walk 292 = .ok (.iaload, 1) := by decide +kernel
theorem d_M_walk_293 : decode k_M_walk 293 = .ok (.bipush 58, 2) := by decide +kernel
theorem d_M_walk_295 : decode k_M_walk 295 = .ok (.if_icmp .ne 18, 3) := by decide +kernel
theorem d_M_walk_298 : decode k_M_walk 298 = .ok (.aload_n 0, 1) := by decide +kernel
theorem d_M_walk_299 : decode k_M_walk 299 = .ok (.getfield 53, 3) := by decide +kernel
theorem d_M_walk_302 : decode k_M_walk 302 = .ok (.iload 4, 2) := by decide +kernel
theorem d_M_walk_304 : decode k_M_walk 304 = .ok (.bipush (-2), 2) := by decide +kernel
theorem d_M_walk_306 : decode k_M_walk 306 = .ok (.iastore, 1) := by decide +kernel
theorem d_M_walk_307 : decode k_M_walk 307 = .ok (.iinc 4 1, 3) := by decide +kernel
theorem d_M_walk_310 : decode k_M_walk 310 = .ok (.iinc 3 2, 3) := by decide +kernel
theorem d_M_walk_313 : decode k_M_walk 313 = .ok (.goto (-280), 3) := by decide +kernel
theorem d_M_walk_316 : decode k_M_walk 316 = .ok (.aload_n 0, 1) := by decide +kernel
theorem d_M_walk_317 : decode k_M_walk 317 = .ok (.getfield 160, 3) := by decide +kernel
theorem d_M_walk_320 : decode k_M_walk 320 = .ok (.ireturn, 1) := by decide +kernel
theorem d_M_output_0 : decode k_M_output 0 = .ok (.iload_n 1, 1) := by decide +kernel
theorem d_M_output_1 : decode k_M_output 1 = .ok (.iconst 0, 1) := by decide +kernel
theorem d_M_output_2 : decode k_M_output 2 = .ok (.bipush 19, 2) := by decide +kernel
theorem d_M_output_4 : decode k_M_output 4 = .ok (.invokestatic 56, 3) := by decide +kernel
theorem d_M_output_7 : decode k_M_output 7 = .ok (.ifCond .eq 12, 3) := by decide +kernel
theorem d_M_output_10 : decode k_M_output 10 = .ok (.aload_n 0, 1) := by decide +kernel
theorem d_M_output_11 : decode k_M_output 11 = .ok (.getfield 50, 3) := by decide +kernel
theorem d_M_output_14 : decode k_M_output 14 = .ok (.iload_n 1, 1) := by decide +kernel
theorem d_M_output_15 : decode k_M_output 15 = .ok (.iaload, 1) := by decide +kernel
theorem d_M_output_16 : decode k_M_output 16 = .ok (.goto 4, 3) := by decide +kernel
theorem d_M_output_19 : decode k_M_output 19 = .ok (.iconst 0, 1) := by decide +kernel
theorem d_M_output_20 : decode k_M_output 20 = .ok (.ireturn, 1) := by decide +kernel
theorem d_M_tally_0 : decode k_M_tally 0 = .ok (.iconst 0, 1) := by decide +kernel
theorem d_M_tally_1 : decode k_M_tally 1 = .ok (.istore_n 2, 1) := by decide +kernel
theorem d_M_tally_2 : decode k_M_tally 2 = .ok (.iconst 0, 1) := by decide +kernel
theorem d_M_tally_3 : decode k_M_tally 3 = .ok (.istore_n 3, 1) := by decide +kernel
theorem d_M_tally_4 : decode k_M_tally 4 = .ok (.iconst 0, 1) := by decide +kernel
theorem d_M_tally_5 : decode k_M_tally 5 = .ok (.istore 4, 2) := by decide +kernel
theorem d_M_tally_7 : decode k_M_tally 7 = .ok (.iconst 0, 1) := by decide +kernel
theorem d_M_tally_8 : decode k_M_tally 8 = .ok (.istore 5, 2) := by decide +kernel
theorem d_M_tally_10 : decode k_M_tally 10 = .ok (.iconst 0, 1) := by decide +kernel
theorem d_M_tally_11 : decode k_M_tally 11 = .ok (.istore 6, 2) := by decide +kernel
theorem d_M_tally_13 : decode k_M_tally 13 = .ok (.iconst 0, 1) := by decide +kernel
theorem d_M_tally_14 : decode k_M_tally 14 = .ok (.istore 7, 2) := by decide +kernel
theorem d_M_tally_16 : decode k_M_tally 16 = .ok (.iconst 0, 1) := by decide +kernel
theorem d_M_tally_17 : decode k_M_tally 17 = .ok (.istore 8, 2) := by decide +kernel
theorem d_M_tally_19 : decode k_M_tally 19 = .ok (.iload 8, 2) := by decide +kernel
theorem d_M_tally_21 : decode k_M_tally 21 = .ok (.aload_n 0, 1) := by decide +kernel
theorem d_M_tally_22 : decode k_M_tally 22 = .ok (.getfield 87, 3) := by decide +kernel
theorem d_M_tally_25 : decode k_M_tally 25 = .ok (.if_icmp .ge 131, 3) := by decide +kernel
theorem d_M_tally_28 : decode k_M_tally 28 = .ok (.aload_n 0, 1) := by decide +kernel
theorem d_M_tally_29 : decode k_M_tally 29 = .ok (.getfield 107, 3) := by decide +kernel
theorem d_M_tally_32 : decode k_M_tally 32 = .ok (.ifCond .eq 124, 3) := by decide +kernel
theorem d_M_tally_35 : decode k_M_tally 35 = .ok (.aload_n 0, 1) := by decide +kernel
theorem d_M_tally_36 : decode k_M_tally 36 = .ok (.getfield 25, 3) := by decide +kernel
theorem d_M_tally_39 : decode k_M_tally 39 = .ok (.iload 8, 2) := by decide +kernel
theorem d_M_tally_41 : decode k_M_tally 41 = .ok (.iaload, 1) := by decide +kernel
theorem d_M_tally_42 : decode k_M_tally 42 = .ok (.istore 9, 2) := by decide +kernel
theorem d_M_tally_44 : decode k_M_tally 44 = .ok (.iload 9, 2) := by decide +kernel
theorem d_M_tally_46 : decode k_M_tally 46 = .ok (.bipush 64, 2) := by decide +kernel
theorem d_M_tally_48 : decode k_M_tally 48 = .ok (.if_icmp .eq 17, 3) := by decide +kernel
theorem d_M_tally_51 : decode k_M_tally 51 = .ok (.iload 9, 2) := by decide +kernel
theorem d_M_tally_53 : decode k_M_tally 53 = .ok (.bipush 63, 2) := by decide +kernel
theorem d_M_tally_55 : decode k_M_tally 55 = .ok (.if_icmp .eq 10, 3) := by decide +kernel
theorem d_M_tally_58 : decode k_M_tally 58 = .ok (.iload 9, 2) := by decide +kernel
theorem d_M_tally_60 : decode k_M_tally 60 = .ok (.bipush 59, 2) := by decide +kernel
theorem d_M_tally_62 : decode k_M_tally 62 = .ok (.if_icmp .ne 7, 3) := by decide +kernel
theorem d_M_tally_65 : decode k_M_tally 65 = .ok (.iconst 1, 1) := by decide +kernel
theorem d_M_tally_66 : decode k_M_tally 66 = .ok (.goto 4, 3) := by decide +kernel
theorem d_M_tally_69 : decode k_M_tally 69 = .ok (.iconst 0, 1) := by decide +kernel
theorem d_M_tally_70 : decode k_M_tally 70 = .ok (.istore 10, 2) := by decide +kernel
theorem d_M_tally_72 : decode k_M_tally 72 = .ok (.iload 10, 2) := by decide +kernel
theorem d_M_tally_74 : decode k_M_tally 74 = .ok (.ifCond .eq 6, 3) := by decide +kernel
theorem d_M_tally_77 : decode k_M_tally 77 = .ok (.iinc 2 1, 3) := by decide +kernel
theorem d_M_tally_80 : decode k_M_tally 80 = .ok (.iload 10, 2) := by decide +kernel
theorem d_M_tally_82 : decode k_M_tally 82 = .ok (.ifCond .eq 18, 3) := by decide +kernel
theorem d_M_tally_85 : decode k_M_tally 85 = .ok (.iload 6, 2) := by decide +kernel
theorem d_M_tally_87 : decode k_M_tally 87 = .ok (.iconst 1, 1) := by decide +kernel
theorem d_M_tally_88 : decode k_M_tally 88 = .ok (.iadd, 1) := by decide +kernel
theorem d_M_tally_89 : decode k_M_tally 89 = .ok (.iload 7, 2) := by decide +kernel
theorem d_M_tally_91 : decode k_M_tally 91 = .ok (.if_icmp .le 9, 3) := by decide +kernel
theorem d_M_tally_94 : decode k_M_tally 94 = .ok (.iload 6, 2) := by decide +kernel
theorem d_M_tally_96 : decode k_M_tally 96 = .ok (.iconst 1, 1) := by decide +kernel
theorem d_M_tally_97 : decode k_M_tally 97 = .ok (.iadd, 1) := by decide +kernel
theorem d_M_tally_98 : decode k_M_tally 98 = .ok (.istore 7, 2) := by decide +kernel
theorem d_M_tally_100 : decode k_M_tally 100 = .ok (.iload 9, 2) := by decide +kernel
theorem d_M_tally_102 : decode k_M_tally 102 = .ok (.bipush 64, 2) := by decide +kernel
theorem d_M_tally_104 : decode k_M_tally 104 = .ok (.if_icmp .ne 6, 3) := by decide +kernel
theorem d_M_tally_107 : decode k_M_tally 107 = .ok (.iinc 3 1, 3) := by decide +kernel
theorem d_M_tally_110 : decode k_M_tally 110 = .ok (.iload 9, 2) := by decide +kernel
theorem d_M_tally_112 : decode k_M_tally 112 = .ok (.bipush 63, 2) := by decide +kernel
theorem d_M_tally_114 : decode k_M_tally 114 = .ok (.if_icmp .ne 6, 3) := by decide +kernel
theorem d_M_tally_117 : decode k_M_tally 117 = .ok (.iinc 4 1, 3) := by decide +kernel
theorem d_M_tally_120 : decode k_M_tally 120 = .ok (.iload 9, 2) := by decide +kernel
theorem d_M_tally_122 : decode k_M_tally 122 = .ok (.bipush 58, 2) := by decide +kernel
theorem d_M_tally_124 : decode k_M_tally 124 = .ok (.if_icmp .ne 6, 3) := by decide +kernel
theorem d_M_tally_127 : decode k_M_tally 127 = .ok (.iinc 5 1, 3) := by decide +kernel
theorem d_M_tally_130 : decode k_M_tally 130 = .ok (.iload 9, 2) := by decide +kernel
theorem d_M_tally_132 : decode k_M_tally 132 = .ok (.bipush 123, 2) := by decide +kernel
theorem d_M_tally_134 : decode k_M_tally 134 = .ok (.if_icmp .ne 6, 3) := by decide +kernel
theorem d_M_tally_137 : decode k_M_tally 137 = .ok (.iinc 6 1, 3) := by decide +kernel
theorem d_M_tally_140 : decode k_M_tally 140 = .ok (.iload 9, 2) := by decide +kernel
theorem d_M_tally_142 : decode k_M_tally 142 = .ok (.bipush 125, 2) := by decide +kernel
theorem d_M_tally_144 : decode k_M_tally 144 = .ok (.if_icmp .ne 6, 3) := by decide +kernel
theorem d_M_tally_147 : decode k_M_tally 147 = .ok (.iinc 6 (-1), 3) := by decide +kernel
theorem d_M_tally_150 : decode k_M_tally 150 = .ok (.iinc 8 1, 3) := by decide +kernel
theorem d_M_tally_153 : decode k_M_tally 153 = .ok (.goto (-134), 3) := by decide +kernel
theorem d_M_tally_156 : decode k_M_tally 156 = .ok (.iload_n 1, 1) := by decide +kernel
theorem d_M_tally_157 : decode k_M_tally 157 = .ok (.iconst 5, 1) := by decide +kernel
theorem d_M_tally_158 : decode k_M_tally 158 = .ok (.if_icmp .ne 7, 3) := by decide +kernel
theorem d_M_tally_161 : decode k_M_tally 161 = .ok (.iload_n 2, 1) := by decide +kernel
theorem d_M_tally_162 : decode k_M_tally 162 = .ok (.goto 40, 3) := by decide +kernel
theorem d_M_tally_165 : decode k_M_tally 165 = .ok (.iload_n 1, 1) := by decide +kernel
theorem d_M_tally_166 : decode k_M_tally 166 = .ok (.bipush 6, 2) := by decide +kernel
theorem d_M_tally_168 : decode k_M_tally 168 = .ok (.if_icmp .ne 7, 3) := by decide +kernel
theorem d_M_tally_171 : decode k_M_tally 171 = .ok (.iload_n 3, 1) := by decide +kernel
theorem d_M_tally_172 : decode k_M_tally 172 = .ok (.goto 30, 3) := by decide +kernel
theorem d_M_tally_175 : decode k_M_tally 175 = .ok (.iload_n 1, 1) := by decide +kernel
theorem d_M_tally_176 : decode k_M_tally 176 = .ok (.bipush 7, 2) := by decide +kernel
theorem d_M_tally_178 : decode k_M_tally 178 = .ok (.if_icmp .ne 11, 3) := by decide +kernel
theorem d_M_tally_181 : decode k_M_tally 181 = .ok (.iload 4, 2) := by decide +kernel
theorem d_M_tally_183 : decode k_M_tally 183 = .ok (.iload 5, 2) := by decide +kernel
theorem d_M_tally_185 : decode k_M_tally 185 = .ok (.isub, 1) := by decide +kernel
theorem d_M_tally_186 : decode k_M_tally 186 = .ok (.goto 16, 3) := by decide +kernel
theorem d_M_tally_189 : decode k_M_tally 189 = .ok (.iload_n 1, 1) := by decide +kernel
theorem d_M_tally_190 : decode k_M_tally 190 = .ok (.bipush 8, 2) := by decide +kernel
theorem d_M_tally_192 : decode k_M_tally 192 = .ok (.if_icmp .ne 8, 3) := by decide +kernel
theorem d_M_tally_195 : decode k_M_tally 195 = .ok (.iload 5, 2) := by decide +kernel
theorem d_M_tally_197 : decode k_M_tally 197 = .ok (.goto 5, 3) := by decide +kernel
theorem d_M_tally_200 : decode k_M_tally 200 = .ok (.iload 7, 2) := by decide +kernel
theorem d_M_tally_202 : decode k_M_tally 202 = .ok (.ireturn, 1) := by decide +kernel
theorem d_M_count_0 : decode k_M_count 0 = .ok (.iload_n 1, 1) := by decide +kernel
theorem d_M_count_1 : decode k_M_count 1 = .ok (.iconst 5, 1) := by decide +kernel
theorem d_M_count_2 : decode k_M_count 2 = .ok (.bipush 9, 2) := by decide +kernel
theorem d_M_count_4 : decode k_M_count 4 = .ok (.invokestatic 56, 3) := by decide +kernel
theorem d_M_count_7 : decode k_M_count 7 = .ok (.ifCond .eq 9, 3) := by decide +kernel
theorem d_M_count_10 : decode k_M_count 10 = .ok (.aload_n 0, 1) := by decide +kernel
theorem d_M_count_11 : decode k_M_count 11 = .ok (.iload_n 1, 1) := by decide +kernel
theorem d_M_count_12 : decode k_M_count 12 = .ok (.invokevirtual 194, 3) := by decide +kernel
theorem d_M_count_15 : decode k_M_count 15 = .ok (.ireturn, 1) := by decide +kernel
theorem d_M_count_16 : decode k_M_count 16 = .ok (.iload_n 1, 1) := by decide +kernel
theorem d_M_count_17 : decode k_M_count 17 = .ok (.bipush 10, 2) := by decide +kernel
theorem d_M_count_19 : decode k_M_count 19 = .ok (.bipush 15, 2) := by decide +kernel
theorem d_M_count_21 : decode k_M_count 21 = .ok (.invokestatic 56, 3) := by decide +kernel
theorem d_M_count_24 : decode k_M_count 24 = .ok (.ifCond .eq 13, 3) := by decide +kernel
theorem d_M_count_27 : decode k_M_count 27 = .ok (.aload_n 0, 1) := by decide +kernel
theorem d_M_count_28 : decode k_M_count 28 = .ok (.getfield 41, 3) := by decide +kernel
theorem d_M_count_31 : decode k_M_count 31 = .ok (.iload_n 1, 1) := by decide +kernel
theorem d_M_count_32 : decode k_M_count 32 = .ok (.bipush 10, 2) := by decide +kernel
theorem d_M_count_34 : decode k_M_count 34 = .ok (.isub, 1) := by decide +kernel
theorem d_M_count_35 : decode k_M_count 35 = .ok (.iaload, 1) := by decide +kernel
theorem d_M_count_36 : decode k_M_count 36 = .ok (.ireturn, 1) := by decide +kernel
theorem d_M_count_37 : decode k_M_count 37 = .ok (.iload_n 1, 1) := by decide +kernel
theorem d_M_count_38 : decode k_M_count 38 = .ok (.tableswitch 79 0 4 #[34, 34, 34, 62, 62], 34) := by decide +kernel
theorem d_M_count_72 : decode k_M_count 72 = .ok (.iload_n 1, 1) := by decide +kernel
theorem d_M_count_73 : decode k_M_count 73 = .ok (.ifCond .ne 10, 3) := by decide +kernel
theorem d_M_count_76 : decode k_M_count 76 = .ok (.aload_n 0, 1) := by decide +kernel
theorem d_M_count_77 : decode k_M_count 77 = .ok (.getfield 64, 3) := by decide +kernel
theorem d_M_count_80 : decode k_M_count 80 = .ok (.goto 19, 3) := by decide +kernel
theorem d_M_count_83 : decode k_M_count 83 = .ok (.iload_n 1, 1) := by decide +kernel
theorem d_M_count_84 : decode k_M_count 84 = .ok (.iconst 1, 1) := by decide +kernel
theorem d_M_count_85 : decode k_M_count 85 = .ok (.if_icmp .ne 10, 3) := by decide +kernel
theorem d_M_count_88 : decode k_M_count 88 = .ok (.aload_n 0, 1) := by decide +kernel
theorem d_M_count_89 : decode k_M_count 89 = .ok (.getfield 74, 3) := by decide +kernel
theorem d_M_count_92 : decode k_M_count 92 = .ok (.goto 7, 3) := by decide +kernel
theorem d_M_count_95 : decode k_M_count 95 = .ok (.aload_n 0, 1) := by decide +kernel
theorem d_M_count_96 : decode k_M_count 96 = .ok (.getfield 87, 3) := by decide +kernel
theorem d_M_count_99 : decode k_M_count 99 = .ok (.ireturn, 1) := by decide +kernel
theorem d_M_count_100 : decode k_M_count 100 = .ok (.iload_n 1, 1) := by decide +kernel
theorem d_M_count_101 : decode k_M_count 101 = .ok (.iconst 3, 1) := by decide +kernel
theorem d_M_count_102 : decode k_M_count 102 = .ok (.if_icmp .ne 10, 3) := by decide +kernel
theorem d_M_count_105 : decode k_M_count 105 = .ok (.aload_n 0, 1) := by decide +kernel
theorem d_M_count_106 : decode k_M_count 106 = .ok (.getfield 160, 3) := by decide +kernel
theorem d_M_count_109 : decode k_M_count 109 = .ok (.goto 7, 3) := by decide +kernel
theorem d_M_count_112 : decode k_M_count 112 = .ok (.aload_n 0, 1) := by decide +kernel
theorem d_M_count_113 : decode k_M_count 113 = .ok (.getfield 163, 3) := by decide +kernel
theorem d_M_count_116 : decode k_M_count 116 = .ok (.ireturn, 1) := by decide +kernel
theorem d_M_count_117 : decode k_M_count 117 = .ok (.iconst (-1), 1) := by decide +kernel
theorem d_M_count_118 : decode k_M_count 118 = .ok (.ireturn, 1) := by decide +kernel
theorem d_Characters_init_0 : decode k_Characters_init 0 = .ok (.aload_n 0, 1) := by decide +kernel
theorem d_Characters_init_1 : decode k_Characters_init 1 = .ok (.invokespecial 3, 3) := by decide +kernel
theorem d_Characters_init_4 : decode k_Characters_init 4 = .ok (.aload_n 0, 1) := by decide +kernel
theorem d_Characters_init_5 : decode k_Characters_init 5 = .ok (.iload_n 1, 1) := by decide +kernel
theorem d_Characters_init_6 : decode k_Characters_init 6 = .ok (.newarray .char, 2) := by decide +kernel
theorem d_Characters_init_8 : decode k_Characters_init 8 = .ok (.putfield 9, 3) := by decide +kernel
theorem d_Characters_init_11 : decode k_Characters_init 11 = .ok (.aload_n 0, 1) := by decide +kernel
theorem d_Characters_init_12 : decode k_Characters_init 12 = .ok (.iconst 0, 1) := by decide +kernel
theorem d_Characters_init_13 : decode k_Characters_init 13 = .ok (.putfield 15, 3) := by decide +kernel
theorem d_Characters_init_16 : decode k_Characters_init 16 = .ok (.return_, 1) := by decide +kernel
theorem d_Characters_size_0 : decode k_Characters_size 0 = .ok (.aload_n 0, 1) := by decide +kernel
theorem d_Characters_size_1 : decode k_Characters_size 1 = .ok (.getfield 15, 3) := by decide +kernel
theorem d_Characters_size_4 : decode k_Characters_size 4 = .ok (.ireturn, 1) := by decide +kernel
theorem d_Characters_at_0 : decode k_Characters_at 0 = .ok (.iload_n 1, 1) := by decide +kernel
theorem d_Characters_at_1 : decode k_Characters_at 1 = .ok (.ifCond .lt 20, 3) := by decide +kernel
theorem d_Characters_at_4 : decode k_Characters_at 4 = .ok (.iload_n 1, 1) := by decide +kernel
theorem d_Characters_at_5 : decode k_Characters_at 5 = .ok (.aload_n 0, 1) := by decide +kernel
theorem d_Characters_at_6 : decode k_Characters_at 6 = .ok (.getfield 15, 3) := by decide +kernel
theorem d_Characters_at_9 : decode k_Characters_at 9 = .ok (.if_icmp .ge 12, 3) := by decide +kernel
theorem d_Characters_at_12 : decode k_Characters_at 12 = .ok (.aload_n 0, 1) := by decide +kernel
theorem d_Characters_at_13 : decode k_Characters_at 13 = .ok (.getfield 9, 3) := by decide +kernel
theorem d_Characters_at_16 : decode k_Characters_at 16 = .ok (.iload_n 1, 1) := by decide +kernel
theorem d_Characters_at_17 : decode k_Characters_at 17 = .ok (.caload, 1) := by decide +kernel
theorem d_Characters_at_18 : decode k_Characters_at 18 = .ok (.goto 5, 3) := by decide +kernel
theorem d_Characters_at_21 : decode k_Characters_at 21 = .ok (.bipush (-2), 2) := by decide +kernel
theorem d_Characters_at_23 : decode k_Characters_at 23 = .ok (.ireturn, 1) := by decide +kernel
theorem d_Characters_add_0 : decode k_Characters_add 0 = .ok (.aload_n 0, 1) := by decide +kernel
theorem d_Characters_add_1 : decode k_Characters_add 1 = .ok (.getfield 15, 3) := by decide +kernel
theorem d_Characters_add_4 : decode k_Characters_add 4 = .ok (.aload_n 0, 1) := by decide +kernel
theorem d_Characters_add_5 : decode k_Characters_add 5 = .ok (.getfield 9, 3) := by decide +kernel
theorem d_Characters_add_8 : decode k_Characters_add 8 = .ok (.arraylength, 1) := by decide +kernel
theorem d_Characters_add_9 : decode k_Characters_add 9 = .ok (.if_icmp .lt 5, 3) := by decide +kernel
theorem d_Characters_add_12 : decode k_Characters_add 12 = .ok (.iconst 0, 1) := by decide +kernel
theorem d_Characters_add_13 : decode k_Characters_add 13 = .ok (.ireturn, 1) := by decide +kernel
theorem d_Characters_add_14 : decode k_Characters_add 14 = .ok (.aload_n 0, 1) := by decide +kernel
theorem d_Characters_add_15 : decode k_Characters_add 15 = .ok (.getfield 9, 3) := by decide +kernel
theorem d_Characters_add_18 : decode k_Characters_add 18 = .ok (.aload_n 0, 1) := by decide +kernel
theorem d_Characters_add_19 : decode k_Characters_add 19 = .ok (.getfield 15, 3) := by decide +kernel
theorem d_Characters_add_22 : decode k_Characters_add 22 = .ok (.iload_n 1, 1) := by decide +kernel
theorem d_Characters_add_23 : decode k_Characters_add 23 = .ok (.i2c, 1) := by decide +kernel
theorem d_Characters_add_24 : decode k_Characters_add 24 = .ok (.castore, 1) := by decide +kernel
theorem d_Characters_add_25 : decode k_Characters_add 25 = .ok (.aload_n 0, 1) := by decide +kernel
theorem d_Characters_add_26 : decode k_Characters_add 26 = .ok (.dup, 1) := by decide +kernel
theorem d_Characters_add_27 : decode k_Characters_add 27 = .ok (.getfield 15, 3) := by decide +kernel
theorem d_Characters_add_30 : decode k_Characters_add 30 = .ok (.iconst 1, 1) := by decide +kernel
theorem d_Characters_add_31 : decode k_Characters_add 31 = .ok (.iadd, 1) := by decide +kernel
theorem d_Characters_add_32 : decode k_Characters_add 32 = .ok (.putfield 15, 3) := by decide +kernel
theorem d_Characters_add_35 : decode k_Characters_add 35 = .ok (.iconst 1, 1) := by decide +kernel
theorem d_Characters_add_36 : decode k_Characters_add 36 = .ok (.ireturn, 1) := by decide +kernel
theorem d_Characters_drop_0 : decode k_Characters_drop 0 = .ok (.aload_n 0, 1) := by decide +kernel
theorem d_Characters_drop_1 : decode k_Characters_drop 1 = .ok (.iconst 0, 1) := by decide +kernel
theorem d_Characters_drop_2 : decode k_Characters_drop 2 = .ok (.putfield 15, 3) := by decide +kernel
theorem d_Characters_drop_5 : decode k_Characters_drop 5 = .ok (.return_, 1) := by decide +kernel
theorem d_Characters_become_0 : decode k_Characters_become 0 = .ok (.aload_n 0, 1) := by decide +kernel
theorem d_Characters_become_1 : decode k_Characters_become 1 = .ok (.aload_n 1, 1) := by decide +kernel
theorem d_Characters_become_2 : decode k_Characters_become 2 = .ok (.getfield 15, 3) := by decide +kernel
theorem d_Characters_become_5 : decode k_Characters_become 5 = .ok (.aload_n 0, 1) := by decide +kernel
theorem d_Characters_become_6 : decode k_Characters_become 6 = .ok (.getfield 9, 3) := by decide +kernel
theorem d_Characters_become_9 : decode k_Characters_become 9 = .ok (.arraylength, 1) := by decide +kernel
theorem d_Characters_become_10 : decode k_Characters_become 10 = .ok (.invokestatic 19, 3) := by decide +kernel
theorem d_Characters_become_13 : decode k_Characters_become 13 = .ok (.putfield 15, 3) := by decide +kernel
theorem d_Characters_become_16 : decode k_Characters_become 16 = .ok (.aload_n 1, 1) := by decide +kernel
theorem d_Characters_become_17 : decode k_Characters_become 17 = .ok (.getfield 9, 3) := by decide +kernel
theorem d_Characters_become_20 : decode k_Characters_become 20 = .ok (.iconst 0, 1) := by decide +kernel
theorem d_Characters_become_21 : decode k_Characters_become 21 = .ok (.aload_n 0, 1) := by decide +kernel
theorem d_Characters_become_22 : decode k_Characters_become 22 = .ok (.getfield 9, 3) := by decide +kernel
theorem d_Characters_become_25 : decode k_Characters_become 25 = .ok (.iconst 0, 1) := by decide +kernel
theorem d_Characters_become_26 : decode k_Characters_become 26 = .ok (.aload_n 0, 1) := by decide +kernel
theorem d_Characters_become_27 : decode k_Characters_become 27 = .ok (.getfield 15, 3) := by decide +kernel
theorem d_Characters_become_30 : decode k_Characters_become 30 = .ok (.invokestatic 25, 3) := by decide +kernel
theorem d_Characters_become_33 : decode k_Characters_become 33 = .ok (.return_, 1) := by decide +kernel
theorem d_Draft_init_0 : decode k_Draft_init 0 = .ok (.aload_n 0, 1) := by decide +kernel
theorem d_Draft_init_1 : decode k_Draft_init 1 = .ok (.invokespecial 3, 3) := by decide +kernel
theorem d_Draft_init_4 : decode k_Draft_init 4 = .ok (.aload_n 0, 1) := by decide +kernel
theorem d_Draft_init_5 : decode k_Draft_init 5 = .ok (.new 9, 3) := by decide +kernel
theorem d_Draft_init_8 : decode k_Draft_init 8 = .ok (.dup, 1) := by decide +kernel
theorem d_Draft_init_9 : decode k_Draft_init 9 = .ok (.bipush 120, 2) := by decide +kernel
theorem d_Draft_init_11 : decode k_Draft_init 11 = .ok (.invokespecial 11, 3) := by decide +kernel
theorem d_Draft_init_14 : decode k_Draft_init 14 = .ok (.putfield 14, 3) := by decide +kernel
theorem d_Draft_init_17 : decode k_Draft_init 17 = .ok (.aload_n 0, 1) := by decide +kernel
theorem d_Draft_init_18 : decode k_Draft_init 18 = .ok (.new 20, 3) := by decide +kernel
theorem d_Draft_init_21 : decode k_Draft_init 21 = .ok (.dup, 1) := by decide +kernel
theorem d_Draft_init_22 : decode k_Draft_init 22 = .ok (.bipush 31, 2) := by decide +kernel
theorem d_Draft_init_24 : decode k_Draft_init 24 = .ok (.invokespecial 22, 3) := by decide +kernel
theorem d_Draft_init_27 : decode k_Draft_init 27 = .ok (.putfield 23, 3) := by decide +kernel
theorem d_Draft_init_30 : decode k_Draft_init 30 = .ok (.aload_n 0, 1) := by decide +kernel
theorem d_Draft_init_31 : decode k_Draft_init 31 = .ok (.iconst 0, 1) := by decide +kernel
theorem d_Draft_init_32 : decode k_Draft_init 32 = .ok (.putfield 27, 3) := by decide +kernel
theorem d_Draft_init_35 : decode k_Draft_init 35 = .ok (.return_, 1) := by decide +kernel
theorem d_Draft_row_0 : decode k_Draft_row 0 = .ok (.aload_n 0, 1) := by decide +kernel
theorem d_Draft_row_1 : decode k_Draft_row 1 = .ok (.getfield 14, 3) := by decide +kernel
theorem d_Draft_row_4 : decode k_Draft_row 4 = .ok (.areturn, 1) := by decide +kernel
theorem d_Draft_made_0 : decode k_Draft_made 0 = .ok (.aload_n 0, 1) := by decide +kernel
theorem d_Draft_made_1 : decode k_Draft_made 1 = .ok (.getfield 23, 3) := by decide +kernel
theorem d_Draft_made_4 : decode k_Draft_made 4 = .ok (.areturn, 1) := by decide +kernel
theorem d_Draft_translate_0 : decode k_Draft_translate 0 = .ok (.aload_n 0, 1) := by decide +kernel
theorem d_Draft_translate_1 : decode k_Draft_translate 1 = .ok (.getfield 23, 3) := by decide +kernel
theorem d_Draft_translate_4 : decode k_Draft_translate 4 = .ok (.invokevirtual 31, 3) := by decide +kernel
theorem d_Draft_translate_7 : decode k_Draft_translate 7 = .ok (.aload_n 0, 1) := by decide +kernel
theorem d_Draft_translate_8 : decode k_Draft_translate 8 = .ok (.iconst 0, 1) := by decide +kernel
theorem d_Draft_translate_9 : decode k_Draft_translate 9 = .ok (.putfield 27, 3) := by decide +kernel
theorem d_Draft_translate_12 : decode k_Draft_translate 12 = .ok (.aload_n 0, 1) := by decide +kernel
theorem d_Draft_translate_13 : decode k_Draft_translate 13 = .ok (.iconst 0, 1) := by decide +kernel
theorem d_Draft_translate_14 : decode k_Draft_translate 14 = .ok (.invokevirtual 34, 3) := by decide +kernel
theorem d_Draft_translate_17 : decode k_Draft_translate 17 = .ok (.ifCond .eq 21, 3) := by decide +kernel
theorem d_Draft_translate_20 : decode k_Draft_translate 20 = .ok (.aload_n 0, 1) := by decide +kernel
theorem d_Draft_translate_21 : decode k_Draft_translate 21 = .ok (.getfield 27, 3) := by decide +kernel
theorem d_Draft_translate_24 : decode k_Draft_translate 24 = .ok (.aload_n 0, 1) := by decide +kernel
theorem d_Draft_translate_25 : decode k_Draft_translate 25 = .ok (.getfield 14, 3) := by decide +kernel
theorem d_Draft_translate_28 : decode k_Draft_translate 28 = .ok (.invokevirtual 38, 3) := by decide +kernel
theorem d_Draft_translate_31 : decode k_Draft_translate 31 = .ok (.if_icmp .ne 7, 3) := by decide +kernel
theorem d_Draft_translate_34 : decode k_Draft_translate 34 = .ok (.iconst 1, 1) := by decide +kernel
theorem d_Draft_translate_35 : decode k_Draft_translate 35 = .ok (.goto 4, 3) := by decide +kernel
theorem d_Draft_translate_38 : decode k_Draft_translate 38 = .ok (.iconst 0, 1) := by decide +kernel
theorem d_Draft_translate_39 : decode k_Draft_translate 39 = .ok (.istore_n 1, 1) := by decide +kernel
theorem d_Draft_translate_40 : decode k_Draft_translate 40 = .ok (.iload_n 1, 1) := by decide +kernel
theorem d_Draft_translate_41 : decode k_Draft_translate 41 = .ok (.ifCond .eq 20, 3) := by decide +kernel
theorem d_Draft_translate_44 : decode k_Draft_translate 44 = .ok (.aload_n 0, 1) := by decide +kernel
theorem d_Draft_translate_45 : decode k_Draft_translate 45 = .ok (.getfield 23, 3) := by decide +kernel
theorem d_Draft_translate_48 : decode k_Draft_translate 48 = .ok (.invokevirtual 42, 3) := by decide +kernel
theorem d_Draft_translate_51 : decode k_Draft_translate 51 = .ok (.bipush 30, 2) := by decide +kernel
theorem d_Draft_translate_53 : decode k_Draft_translate 53 = .ok (.if_icmp .gt 8, 3) := by decide +kernel
theorem d_Draft_translate_56 : decode k_Draft_translate 56 = .ok (.bipush (-2), 2) := by decide +kernel
theorem d_Draft_translate_58 : decode k_Draft_translate 58 = .ok (.goto 7, 3) := by decide +kernel
theorem d_Draft_translate_61 : decode k_Draft_translate 61 = .ok (.aload_n 0, 1) := by decide +kernel
theorem d_Draft_translate_62 : decode k_Draft_translate 62 = .ok (.getfield 27, 3) := by decide +kernel
theorem d_Draft_translate_65 : decode k_Draft_translate 65 = .ok (.ireturn, 1) := by decide +kernel
theorem d_Draft_takeStatements_0 : decode k_Draft_takeStatements 0 = .ok (.iconst 0, 1) := by decide +kernel
theorem d_Draft_takeStatements_1 : decode k_Draft_takeStatements 1 = .ok (.istore_n 2, 1) := by decide +kernel
theorem d_Draft_takeStatements_2 : decode k_Draft_takeStatements 2 = .ok (.iload_n 2, 1) := by decide +kernel
theorem d_Draft_takeStatements_3 : decode k_Draft_takeStatements 3 = .ok (.bipush 120, 2) := by decide +kernel
theorem d_Draft_takeStatements_5 : decode k_Draft_takeStatements 5 = .ok (.if_icmp .ge 49, 3) := by decide +kernel
theorem d_Draft_takeStatements_8 : decode k_Draft_takeStatements 8 = .ok (.aload_n 0, 1) := by decide +kernel
theorem d_Draft_takeStatements_9 : decode k_Draft_takeStatements 9 = .ok (.getfield 27, 3) := by decide +kernel
theorem d_Draft_takeStatements_12 : decode k_Draft_takeStatements 12 = .ok (.aload_n 0, 1) := by decide +kernel
theorem d_Draft_takeStatements_13 : decode k_Draft_takeStatements 13 = .ok (.getfield 14, 3) := by decide +kernel
theorem d_Draft_takeStatements_16 : decode k_Draft_takeStatements 16 = .ok (.invokevirtual 38, 3) := by decide +kernel
theorem d_Draft_takeStatements_19 : decode k_Draft_takeStatements 19 = .ok (.if_icmp .ge 35, 3) := by decide +kernel
theorem d_Draft_takeStatements_22 : decode k_Draft_takeStatements 22 = .ok (.aload_n 0, 1) := by decide +kernel
theorem d_Draft_takeStatements_23 : decode k_Draft_takeStatements 23 = .ok (.getfield 14, 3) := by decide +kernel
theorem d_Draft_takeStatements_26 : decode k_Draft_takeStatements 26 = .ok (.aload_n 0, 1) := by decide +kernel
theorem d_Draft_takeStatements_27 : decode k_Draft_takeStatements 27 = .ok (.getfield 27, 3) := by decide +kernel
theorem d_Draft_takeStatements_30 : decode k_Draft_takeStatements 30 = .ok (.invokevirtual 43, 3) := by decide +kernel
theorem d_Draft_takeStatements_33 : decode k_Draft_takeStatements 33 = .ok (.bipush 125, 2) := by decide +kernel
theorem d_Draft_takeStatements_35 : decode k_Draft_takeStatements 35 = .ok (.if_icmp .eq 19, 3) := by decide +kernel
theorem d_Draft_takeStatements_38 : decode k_Draft_takeStatements 38 = .ok (.aload_n 0, 1) := by decide +kernel
theorem d_Draft_takeStatements_39 : decode k_Draft_takeStatements 39 = .ok (.iload_n 1, 1) := by decide +kernel
theorem d_Draft_takeStatements_40 : decode k_Draft_takeStatements 40 = .ok (.invokevirtual 46, 3) := by decide +kernel
theorem d_Draft_takeStatements_43 : decode k_Draft_takeStatements 43 = .ok (.ifCond .ne 5, 3) := by decide +kernel
theorem d_Draft_takeStatements_46 : decode k_Draft_takeStatements 46 = .ok (.iconst 0, 1) := by decide +kernel
theorem d_Draft_takeStatements_47 : decode k_Draft_takeStatements 47 = .ok (.ireturn, 1) := by decide +kernel
theorem d_Draft_takeStatements_48 : decode k_Draft_takeStatements 48 = .ok (.iinc 2 1, 3) := by decide +kernel
theorem d_Draft_takeStatements_51 : decode k_Draft_takeStatements 51 = .ok (.goto (-49), 3) := by decide +kernel
theorem d_Draft_takeStatements_54 : decode k_Draft_takeStatements 54 = .ok (.iconst 1, 1) := by decide +kernel
theorem d_Draft_takeStatements_55 : decode k_Draft_takeStatements 55 = .ok (.ireturn, 1) := by decide +kernel
theorem d_Draft_takeStatement_0 : decode k_Draft_takeStatement 0 = .ok (.iload_n 1, 1) := by decide +kernel
theorem d_Draft_takeStatement_1 : decode k_Draft_takeStatement 1 = .ok (.bipush 6, 2) := by decide +kernel
theorem d_Draft_takeStatement_3 : decode k_Draft_takeStatement 3 = .ok (.if_icmp .lt 5, 3) := by decide +kernel
theorem d_Draft_takeStatement_6 : decode k_Draft_takeStatement 6 = .ok (.iconst 0, 1) := by decide +kernel
theorem d_Draft_takeStatement_7 : decode k_Draft_takeStatement 7 = .ok (.ireturn, 1) := by decide +kernel
theorem d_Draft_takeStatement_8 : decode k_Draft_takeStatement 8 = .ok (.aload_n 0, 1) := by decide +kernel
theorem d_Draft_takeStatement_9 : decode k_Draft_takeStatement 9 = .ok (.getfield 14, 3) := by decide +kernel
theorem d_Draft_takeStatement_12 : decode k_Draft_takeStatement 12 = .ok (.aload_n 0, 1) := by decide +kernel
theorem d_Draft_takeStatement_13 : decode k_Draft_takeStatement 13 = .ok (.getfield 27, 3) := by decide +kernel
theorem d_Draft_takeStatement_16 : decode k_Draft_takeStatement 16 = .ok (.invokevirtual 43, 3) := by decide +kernel
theorem d_Draft_takeStatement_19 : decode k_Draft_takeStatement 19 = .ok (.istore_n 2, 1) := by decide +kernel
theorem d_Draft_takeStatement_20 : decode k_Draft_takeStatement 20 = .ok (.iload_n 2, 1) := by decide +kernel
theorem d_Draft_takeStatement_21 : decode k_Draft_takeStatement 21 = .ok (.invokestatic 49, 3) := by decide +kernel
theorem d_Draft_takeStatement_24 : decode k_Draft_takeStatement 24 = .ok (.ifCond .eq 12, 3) := by decide +kernel
theorem d_Draft_takeStatement_27 : decode k_Draft_takeStatement 27 = .ok (.aload_n 0, 1) := by decide +kernel
theorem d_Draft_takeStatement_28 : decode k_Draft_takeStatement 28 = .ok (.iload_n 2, 1) := by decide +kernel
theorem d_Draft_takeStatement_29 : decode k_Draft_takeStatement 29 = .ok (.bipush 97, 2) := by decide +kernel
theorem d_Draft_takeStatement_31 : decode k_Draft_takeStatement 31 = .ok (.isub, 1) := by decide +kernel
theorem d_Draft_takeStatement_32 : decode k_Draft_takeStatement 32 = .ok (.invokevirtual 52, 3) := by decide +kernel
theorem d_Draft_takeStatement_35 : decode k_Draft_takeStatement 35 = .ok (.ireturn, 1) := by decide +kernel
theorem d_Draft_takeStatement_36 : decode k_Draft_takeStatement 36 = .ok (.iload_n 2, 1) := by decide +kernel
theorem d_Draft_takeStatement_37 : decode k_Draft_takeStatement 37 = .ok (.lookupswitch 52 #[(35, 35), (63, 46), (64, 40)], 35) := by decide +kernel
theorem d_Draft_takeStatement_72 : decode k_Draft_takeStatement 72 = .ok (.aload_n 0, 1) := by decide +kernel
theorem d_Draft_takeStatement_73 : decode k_Draft_takeStatement 73 = .ok (.invokevirtual 55, 3) := by decide +kernel
theorem d_Draft_takeStatement_76 : decode k_Draft_takeStatement 76 = .ok (.ireturn, 1) := by decide +kernel
theorem d_Draft_takeStatement_77 : decode k_Draft_takeStatement 77 = .ok (.aload_n 0, 1) := by decide +kernel
theorem d_Draft_takeStatement_78 : decode k_Draft_takeStatement 78 = .ok (.iload_n 1, 1) := by decide +kernel
theorem d_Draft_takeStatement_79 : decode k_Draft_takeStatement 79 = .ok (.invokevirtual 59, 3) := by decide +kernel
theorem d_Draft_takeStatement_82 : decode k_Draft_takeStatement 82 = .ok (.ireturn, 1) := by decide +kernel
theorem d_Draft_takeStatement_83 : decode k_Draft_takeStatement 83 = .ok (.aload_n 0, 1) := by decide +kernel
theorem d_Draft_takeStatement_84 : decode k_Draft_takeStatement 84 = .ok (.iload_n 1, 1) := by decide +kernel
theorem d_Draft_takeStatement_85 : decode k_Draft_takeStatement 85 = .ok (.invokevirtual 62, 3) := by decide +kernel
theorem d_Draft_takeStatement_88 : decode k_Draft_takeStatement 88 = .ok (.ireturn, 1) := by decide +kernel
theorem d_Draft_takeStatement_89 : decode k_Draft_takeStatement 89 = .ok (.iconst 0, 1) := by decide +kernel
theorem d_Draft_takeStatement_90 : decode k_Draft_takeStatement 90 = .ok (.ireturn, 1) := by decide +kernel
theorem d_Draft_takeStore_0 : decode k_Draft_takeStore 0 = .ok (.aload_n 0, 1) := by decide +kernel
theorem d_Draft_takeStore_1 : decode k_Draft_takeStore 1 = .ok (.dup, 1) := by decide +kernel
theorem d_Draft_takeStore_2 : decode k_Draft_takeStore 2 = .ok (.getfield 27, 3) := by decide +kernel
theorem d_Draft_takeStore_5 : decode k_Draft_takeStore 5 = .ok (.iconst 1, 1) := by decide +kernel
theorem d_Draft_takeStore_6 : decode k_Draft_takeStore 6 = .ok (.iadd, 1) := by decide +kernel
theorem d_Draft_takeStore_7 : decode k_Draft_takeStore 7 = .ok (.putfield 27, 3) := by decide +kernel
theorem d_Draft_takeStore_10 : decode k_Draft_takeStore 10 = .ok (.aload_n 0, 1) := by decide +kernel
theorem d_Draft_takeStore_11 : decode k_Draft_takeStore 11 = .ok (.bipush 61, 2) := by decide +kernel
theorem d_Draft_takeStore_13 : decode k_Draft_takeStore 13 = .ok (.invokevirtual 65, 3) := by decide +kernel
theorem d_Draft_takeStore_16 : decode k_Draft_takeStore 16 = .ok (.ifCond .eq 20, 3) := by decide +kernel
theorem d_Draft_takeStore_19 : decode k_Draft_takeStore 19 = .ok (.aload_n 0, 1) := by decide +kernel
theorem d_Draft_takeStore_20 : decode k_Draft_takeStore 20 = .ok (.iconst 0, 1) := by decide +kernel
theorem d_Draft_takeStore_21 : decode k_Draft_takeStore 21 = .ok (.invokevirtual 69, 3) := by decide +kernel
theorem d_Draft_takeStore_24 : decode k_Draft_takeStore 24 = .ok (.ifCond .eq 12, 3) := by decide +kernel
theorem d_Draft_takeStore_27 : decode k_Draft_takeStore 27 = .ok (.aload_n 0, 1) := by decide +kernel
theorem d_Draft_takeStore_28 : decode k_Draft_takeStore 28 = .ok (.bipush 59, 2) := by decide +kernel
theorem d_Draft_takeStore_30 : decode k_Draft_takeStore 30 = .ok (.invokevirtual 65, 3) := by decide +kernel
theorem d_Draft_takeStore_33 : decode k_Draft_takeStore 33 = .ok (.ifCond .ne 5, 3) := by decide +kernel
theorem d_Draft_takeStore_36 : decode k_Draft_takeStore 36 = .ok (.iconst 0, 1) := by decide +kernel
theorem d_Draft_takeStore_37 : decode k_Draft_takeStore 37 = .ok (.ireturn, 1) := by decide +kernel
theorem d_Draft_takeStore_38 : decode k_Draft_takeStore 38 = .ok (.aload_n 0, 1) := by decide +kernel
theorem d_Draft_takeStore_39 : decode k_Draft_takeStore 39 = .ok (.getfield 23, 3) := by decide +kernel
theorem d_Draft_takeStore_42 : decode k_Draft_takeStore 42 = .ok (.iconst 2, 1) := by decide +kernel
theorem d_Draft_takeStore_43 : decode k_Draft_takeStore 43 = .ok (.iload_n 1, 1) := by decide +kernel
theorem d_Draft_takeStore_44 : decode k_Draft_takeStore 44 = .ok (.invokevirtual 72, 3) := by decide +kernel
theorem d_Draft_takeStore_47 : decode k_Draft_takeStore 47 = .ok (.pop, 1) := by decide +kernel
theorem d_Draft_takeStore_48 : decode k_Draft_takeStore 48 = .ok (.iconst 1, 1) := by decide +kernel
theorem d_Draft_takeStore_49 : decode k_Draft_takeStore 49 = .ok (.ireturn, 1) := by decide +kernel
theorem d_Draft_takePrint_0 : decode k_Draft_takePrint 0 = .ok (.aload_n 0, 1) := by decide +kernel
theorem d_Draft_takePrint_1 : decode k_Draft_takePrint 1 = .ok (.dup, 1) := by decide +kernel
theorem d_Draft_takePrint_2 : decode k_Draft_takePrint 2 = .ok (.getfield 27, 3) := by decide +kernel
theorem d_Draft_takePrint_5 : decode k_Draft_takePrint 5 = .ok (.iconst 1, 1) := by decide +kernel
theorem d_Draft_takePrint_6 : decode k_Draft_takePrint 6 = .ok (.iadd, 1) := by decide +kernel
theorem d_Draft_takePrint_7 : decode k_Draft_takePrint 7 = .ok (.putfield 27, 3) := by decide +kernel
theorem d_Draft_takePrint_10 : decode k_Draft_takePrint 10 = .ok (.aload_n 0, 1) := by decide +kernel
theorem d_Draft_takePrint_11 : decode k_Draft_takePrint 11 = .ok (.iconst 0, 1) := by decide +kernel
theorem d_Draft_takePrint_12 : decode k_Draft_takePrint 12 = .ok (.invokevirtual 69, 3) := by decide +kernel
theorem d_Draft_takePrint_15 : decode k_Draft_takePrint 15 = .ok (.ifCond .eq 12, 3) := by decide +kernel
theorem d_Draft_takePrint_18 : decode k_Draft_takePrint 18 = .ok (.aload_n 0, 1) := by decide +kernel
theorem d_Draft_takePrint_19 : decode k_Draft_takePrint 19 = .ok (.bipush 59, 2) := by decide +kernel
theorem d_Draft_takePrint_21 : decode k_Draft_takePrint 21 = .ok (.invokevirtual 65, 3) := by decide +kernel
theorem d_Draft_takePrint_24 : decode k_Draft_takePrint 24 = .ok (.ifCond .ne 5, 3) := by decide +kernel
theorem d_Draft_takePrint_27 : decode k_Draft_takePrint 27 = .ok (.iconst 0, 1) := by decide +kernel
theorem d_Draft_takePrint_28 : decode k_Draft_takePrint 28 = .ok (.ireturn, 1) := by decide +kernel
theorem d_Draft_takePrint_29 : decode k_Draft_takePrint 29 = .ok (.aload_n 0, 1) := by decide +kernel
theorem d_Draft_takePrint_30 : decode k_Draft_takePrint 30 = .ok (.getfield 23, 3) := by decide +kernel
theorem d_Draft_takePrint_33 : decode k_Draft_takePrint 33 = .ok (.bipush 10, 2) := by decide +kernel
theorem d_Draft_takePrint_35 : decode k_Draft_takePrint 35 = .ok (.iconst 0, 1) := by decide +kernel
theorem d_Draft_takePrint_36 : decode k_Draft_takePrint 36 = .ok (.invokevirtual 72, 3) := by decide +kernel
theorem d_Draft_takePrint_39 : decode k_Draft_takePrint 39 = .ok (.pop, 1) := by decide +kernel
theorem d_Draft_takePrint_40 : decode k_Draft_takePrint 40 = .ok (.iconst 1, 1) := by decide +kernel
theorem d_Draft_takePrint_41 : decode k_Draft_takePrint 41 = .ok (.ireturn, 1) := by decide +kernel
theorem d_Draft_takeWhile_0 : decode k_Draft_takeWhile 0 = .ok (.aload_n 0, 1) := by decide +kernel
theorem d_Draft_takeWhile_1 : decode k_Draft_takeWhile 1 = .ok (.getfield 23, 3) := by decide +kernel
theorem d_Draft_takeWhile_4 : decode k_Draft_takeWhile 4 = .ok (.invokevirtual 42, 3) := by decide +kernel
theorem d_Draft_takeWhile_7 : decode k_Draft_takeWhile 7 = .ok (.istore_n 2, 1) := by decide +kernel
theorem d_Draft_takeWhile_8 : decode k_Draft_takeWhile 8 = .ok (.aload_n 0, 1) := by decide +kernel
theorem d_Draft_takeWhile_9 : decode k_Draft_takeWhile 9 = .ok (.iload_n 1, 1) := by decide +kernel
theorem d_Draft_takeWhile_10 : decode k_Draft_takeWhile 10 = .ok (.invokevirtual 76, 3) := by decide +kernel
theorem d_Draft_takeWhile_13 : decode k_Draft_takeWhile 13 = .ok (.istore_n 3, 1) := by decide +kernel
theorem d_Draft_takeWhile_14 : decode k_Draft_takeWhile 14 = .ok (.iload_n 3, 1) := by decide +kernel
theorem d_Draft_takeWhile_15 : decode k_Draft_takeWhile 15 = .ok (.iconst (-1), 1) := by decide +kernel
theorem d_Draft_takeWhile_16 : decode k_Draft_takeWhile 16 = .ok (.if_icmp .ne 5, 3) := by decide +kernel
theorem d_Draft_takeWhile_19 : decode k_Draft_takeWhile 19 = .ok (.iconst 0, 1) := by decide +kernel
theorem d_Draft_takeWhile_20 : decode k_Draft_takeWhile 20 = .ok (.ireturn, 1) := by decide +kernel
theorem d_Draft_takeWhile_21 : decode k_Draft_takeWhile 21 = .ok (.aload_n 0, 1) := by decide +kernel
theorem d_Draft_takeWhile_22 : decode k_Draft_takeWhile 22 = .ok (.getfield 23, 3) := by decide +kernel
theorem d_Draft_takeWhile_25 : decode k_Draft_takeWhile 25 = .ok (.bipush 8, 2) := by decide +kernel
theorem d_Draft_takeWhile_27 : decode k_Draft_takeWhile 27 = .ok (.iload_n 2, 1) := by decide +kernel
theorem d_Draft_takeWhile_28 : decode k_Draft_takeWhile 28 = .ok (.invokevirtual 72, 3) := by decide +kernel
theorem d_Draft_takeWhile_31 : decode k_Draft_takeWhile 31 = .ok (.pop, 1) := by decide +kernel
theorem d_Draft_takeWhile_32 : decode k_Draft_takeWhile 32 = .ok (.aload_n 0, 1) := by decide +kernel
theorem d_Draft_takeWhile_33 : decode k_Draft_takeWhile 33 = .ok (.getfield 23, 3) := by decide +kernel
theorem d_Draft_takeWhile_36 : decode k_Draft_takeWhile 36 = .ok (.iload_n 3, 1) := by decide +kernel
theorem d_Draft_takeWhile_37 : decode k_Draft_takeWhile 37 = .ok (.bipush 9, 2) := by decide +kernel
theorem d_Draft_takeWhile_39 : decode k_Draft_takeWhile 39 = .ok (.aload_n 0, 1) := by decide +kernel
theorem d_Draft_takeWhile_40 : decode k_Draft_takeWhile 40 = .ok (.getfield 23, 3) := by decide +kernel
theorem d_Draft_takeWhile_43 : decode k_Draft_takeWhile 43 = .ok (.invokevirtual 42, 3) := by decide +kernel
theorem d_Draft_takeWhile_46 : decode k_Draft_takeWhile 46 = .ok (.invokevirtual 79, 3) := by decide +kernel
theorem d_Draft_takeWhile_49 : decode k_Draft_takeWhile 49 = .ok (.iconst 1, 1) := by decide +kernel
theorem d_Draft_takeWhile_50 : decode k_Draft_takeWhile 50 = .ok (.ireturn, 1) := by decide +kernel
theorem d_Draft_takeIf_0 : decode k_Draft_takeIf 0 = .ok (.aload_n 0, 1) := by decide +kernel
theorem d_Draft_takeIf_1 : decode k_Draft_takeIf 1 = .ok (.iload_n 1, 1) := by decide +kernel
theorem d_Draft_takeIf_2 : decode k_Draft_takeIf 2 = .ok (.invokevirtual 76, 3) := by decide +kernel
theorem d_Draft_takeIf_5 : decode k_Draft_takeIf 5 = .ok (.istore_n 2, 1) := by decide +kernel
theorem d_Draft_takeIf_6 : decode k_Draft_takeIf 6 = .ok (.iload_n 2, 1) := by decide +kernel
theorem d_Draft_takeIf_7 : decode k_Draft_takeIf 7 = .ok (.iconst (-1), 1) := by decide +kernel
theorem d_Draft_takeIf_8 : decode k_Draft_takeIf 8 = .ok (.if_icmp .ne 5, 3) := by decide +kernel
theorem d_Draft_takeIf_11 : decode k_Draft_takeIf 11 = .ok (.iconst 0, 1) := by decide +kernel
theorem d_Draft_takeIf_12 : decode k_Draft_takeIf 12 = .ok (.ireturn, 1) := by decide +kernel
theorem d_Draft_takeIf_13 : decode k_Draft_takeIf 13 = .ok (.aload_n 0, 1) := by decide +kernel
theorem d_Draft_takeIf_14 : decode k_Draft_takeIf 14 = .ok (.bipush 58, 2) := by decide +kernel
theorem d_Draft_takeIf_16 : decode k_Draft_takeIf 16 = .ok (.invokevirtual 65, 3) := by decide +kernel
theorem d_Draft_takeIf_19 : decode k_Draft_takeIf 19 = .ok (.ifCond .ne 22, 3) := by decide +kernel
theorem d_Draft_takeIf_22 : decode k_Draft_takeIf 22 = .ok (.aload_n 0, 1) := by decide +kernel
theorem d_Draft_takeIf_23 : decode k_Draft_takeIf 23 = .ok (.getfield 23, 3) := by decide +kernel
theorem d_Draft_takeIf_26 : decode k_Draft_takeIf 26 = .ok (.iload_n 2, 1) := by decide +kernel
theorem d_Draft_takeIf_27 : decode k_Draft_takeIf 27 = .ok (.bipush 9, 2) := by decide +kernel
theorem d_Draft_takeIf_29 : decode k_Draft_takeIf 29 = .ok (.aload_n 0, 1) := by decide +kernel
theorem d_Draft_takeIf_30 : decode k_Draft_takeIf 30 = .ok (.getfield 23, 3) := by decide +kernel
theorem d_Draft_takeIf_33 : decode k_Draft_takeIf 33 = .ok (.invokevirtual 42, 3) := by decide +kernel
theorem d_Draft_takeIf_36 : decode k_Draft_takeIf 36 = .ok (.invokevirtual 79, 3) := by decide +kernel
theorem d_Draft_takeIf_39 : decode k_Draft_takeIf 39 = .ok (.iconst 1, 1) := by decide +kernel
theorem d_Draft_takeIf_40 : decode k_Draft_takeIf 40 = .ok (.ireturn, 1) := by decide +kernel
theorem d_Draft_takeIf_41 : decode k_Draft_takeIf 41 = .ok (.aload_n 0, 1) := by decide +kernel
theorem d_Draft_takeIf_42 : decode k_Draft_takeIf 42 = .ok (.getfield 23, 3) := by decide +kernel
theorem d_Draft_takeIf_45 : decode k_Draft_takeIf 45 = .ok (.invokevirtual 42, 3) := by decide +kernel
theorem d_Draft_takeIf_48 : decode k_Draft_takeIf 48 = .ok (.istore_n 3, 1) := by decide +kernel
theorem d_Draft_takeIf_49 : decode k_Draft_takeIf 49 = .ok (.aload_n 0, 1) := by decide +kernel
theorem d_Draft_takeIf_50 : decode k_Draft_takeIf 50 = .ok (.getfield 23, 3) := by decide +kernel
theorem d_Draft_takeIf_53 : decode k_Draft_takeIf 53 = .ok (.bipush 8, 2) := by decide +kernel
theorem d_Draft_takeIf_55 : decode k_Draft_takeIf 55 = .ok (.iconst 0, 1) := by decide +kernel
theorem d_Draft_takeIf_56 : decode k_Draft_takeIf 56 = .ok (.invokevirtual 72, 3) := by decide +kernel
theorem d_Draft_takeIf_59 : decode k_Draft_takeIf 59 = .ok (.pop, 1) := by decide +kernel
theorem d_Draft_takeIf_60 : decode k_Draft_takeIf 60 = .ok (.aload_n 0, 1) := by decide +kernel
theorem d_Draft_takeIf_61 : decode k_Draft_takeIf 61 = .ok (.getfield 23, 3) := by decide +kernel
theorem d_Draft_takeIf_64 : decode k_Draft_takeIf 64 = .ok (.iload_n 2, 1) := by decide +kernel
theorem d_Draft_takeIf_65 : decode k_Draft_takeIf 65 = .ok (.bipush 9, 2) := by decide +kernel
theorem d_Draft_takeIf_67 : decode k_Draft_takeIf 67 = .ok (.aload_n 0, 1) := by decide +kernel
theorem d_Draft_takeIf_68 : decode k_Draft_takeIf 68 = .ok (.getfield 23, 3) := by decide +kernel
theorem d_Draft_takeIf_71 : decode k_Draft_takeIf 71 = .ok (.invokevirtual 42, 3) := by decide +kernel
theorem d_Draft_takeIf_74 : decode k_Draft_takeIf 74 = .ok (.invokevirtual 79, 3) := by decide +kernel
theorem d_Draft_takeIf_77 : decode k_Draft_takeIf 77 = .ok (.aload_n 0, 1) := by decide +kernel
theorem d_Draft_takeIf_78 : decode k_Draft_takeIf 78 = .ok (.iload_n 1, 1) := by decide +kernel
theorem d_Draft_takeIf_79 : decode k_Draft_takeIf 79 = .ok (.invokevirtual 83, 3) := by decide +kernel
theorem d_Draft_takeIf_82 : decode k_Draft_takeIf 82 = .ok (.ifCond .ne 5, 3) := by decide +kernel
theorem d_Draft_takeIf_85 : decode k_Draft_takeIf 85 = .ok (.iconst 0, 1) := by decide +kernel
theorem d_Draft_takeIf_86 : decode k_Draft_takeIf 86 = .ok (.ireturn, 1) := by decide +kernel
theorem d_Draft_takeIf_87 : decode k_Draft_takeIf 87 = .ok (.aload_n 0, 1) := by decide +kernel
theorem d_Draft_takeIf_88 : decode k_Draft_takeIf 88 = .ok (.getfield 23, 3) := by decide +kernel
theorem d_Draft_takeIf_91 : decode k_Draft_takeIf 91 = .ok (.iload_n 3, 1) := by decide +kernel
theorem d_Draft_takeIf_92 : decode k_Draft_takeIf 92 = .ok (.bipush 8, 2) := by decide +kernel
theorem d_Draft_takeIf_94 : decode k_Draft_takeIf 94 = .ok (.aload_n 0, 1) := by decide +kernel
theorem d_Draft_takeIf_95 : decode k_Draft_takeIf 95 = .ok (.getfield 23, 3) := by decide +kernel
theorem d_Draft_takeIf_98 : decode k_Draft_takeIf 98 = .ok (.invokevirtual 42, 3) := by decide +kernel
theorem d_Draft_takeIf_101 : decode k_Draft_takeIf 101 = .ok (.invokevirtual 79, 3) := by decide +kernel
theorem d_Draft_takeIf_104 : decode k_Draft_takeIf 104 = .ok (.iconst 1, 1) := by decide +kernel
theorem d_Draft_takeIf_105 : decode k_Draft_takeIf 105 = .ok (.ireturn, 1) := by decide +kernel
