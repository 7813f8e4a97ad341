theorem d_M_verify_0 : decode k_M_verify 0 = .ok (.iconst 0, 1) := by decide +kernel
theorem d_M_verify_1 : decode k_M_verify 1 = .ok (.istore_n 1, 1) := by decide +kernel
theorem d_M_verify_2 : decode k_M_verify 2 = .ok (.iload_n 1, 1) := by decide +kernel
theorem d_M_verify_3 : decode k_M_verify 3 = .ok (.aload_n 0, 1) := by decide +kernel
theorem d_M_verify_4 : decode k_M_verify 4 = .ok (.getfield 64, 3) := by decide +kernel
theorem d_M_verify_7 : decode k_M_verify 7 = .ok (.if_icmp .gt 19, 3) := by decide +kernel
theorem d_M_verify_10 : decode k_M_verify 10 = .ok (.aload_n 0, 1) := by decide +kernel
theorem d_M_verify_11 : decode k_M_verify 11 = .ok (.iload_n 1, 1) := by decide +kernel
theorem d_M_verify_12 : decode k_M_verify 12 = .ok (.invokevirtual 84, 3) := by decide +kernel
theorem d_M_verify_15 : decode k_M_verify 15 = .ok (.ifCond .eq 5, 3) := by decide +kernel
theorem d_M_verify_18 : decode k_M_verify 18 = .ok (.iload_n 1, 1) := by decide +kernel
theorem d_M_verify_19 : decode k_M_verify 19 = .ok (.ireturn, 1) := by decide +kernel
theorem d_M_verify_20 : decode k_M_verify 20 = .ok (.iinc 1 1, 3) := by decide +kernel
theorem d_M_verify_23 : decode k_M_verify 23 = .ok (.goto (-21), 3) := by decide +kernel
theorem d_M_verify_26 : decode k_M_verify 26 = .ok (.bipush (-2), 2) := by decide +kernel
theorem d_M_verify_28 : decode k_M_verify 28 = .ok (.ireturn, 1) := by decide +kernel
theorem d_M_write_0 : decode k_M_write 0 = .ok (.aload_n 0, 1) := by decide +kernel
theorem d_M_write_1 : decode k_M_write 1 = .ok (.getfield 25, 3) := by decide +kernel
theorem d_M_write_4 : decode k_M_write 4 = .ok (.aload_n 0, 1) := by decide +kernel
theorem d_M_write_5 : decode k_M_write 5 = .ok (.getfield 87, 3) := by decide +kernel
theorem d_M_write_8 : decode k_M_write 8 = .ok (.iload_n 1, 1) := by decide +kernel
theorem d_M_write_9 : decode k_M_write 9 = .ok (.iastore, 1) := by decide +kernel
theorem d_M_write_10 : decode k_M_write 10 = .ok (.aload_n 0, 1) := by decide +kernel
theorem d_M_write_11 : decode k_M_write 11 = .ok (.dup, 1) := by decide +kernel
theorem d_M_write_12 : decode k_M_write 12 = .ok (.getfield 87, 3) := by decide +kernel
theorem d_M_write_15 : decode k_M_write 15 = .ok (.iconst 1, 1) := by decide +kernel
theorem d_M_write_16 : decode k_M_write 16 = .ok (.iadd, 1) := by decide +kernel
theorem d_M_write_17 : decode k_M_write 17 = .ok (.putfield 87, 3) := by decide +kernel
theorem d_M_write_20 : decode k_M_write 20 = .ok (.return_, 1) := by decide +kernel
theorem d_M_push_0 : decode k_M_push 0 = .ok (.aload_n 0, 1) := by decide +kernel
theorem d_M_push_1 : decode k_M_push 1 = .ok (.getfield 32, 3) := by decide +kernel
theorem d_M_push_4 : decode k_M_push 4 = .ok (.aload_n 0, 1) := by decide +kernel
theorem d_M_push_5 : decode k_M_push 5 = .ok (.getfield 90, 3) := by decide +kernel
theorem d_M_push_8 : decode k_M_push 8 = .ok (.iload_n 1, 1) := by decide +kernel
theorem d_M_push_9 : decode k_M_push 9 = .ok (.iastore, 1) := by decide +kernel
theorem d_M_push_10 : decode k_M_push 10 = .ok (.aload_n 0, 1) := by decide +kernel
theorem d_M_push_11 : decode k_M_push 11 = .ok (.getfield 35, 3) := by decide +kernel
theorem d_M_push_14 : decode k_M_push 14 = .ok (.aload_n 0, 1) := by decide +kernel
theorem d_M_push_15 : decode k_M_push 15 = .ok (.getfield 90, 3) := by decide +kernel
theorem d_M_push_18 : decode k_M_push 18 = .ok (.iload_n 2, 1) := by decide +kernel
theorem d_M_push_19 : decode k_M_push 19 = .ok (.iastore, 1) := by decide +kernel
theorem d_M_push_20 : decode k_M_push 20 = .ok (.aload_n 0, 1) := by decide +kernel
theorem d_M_push_21 : decode k_M_push 21 = .ok (.dup, 1) := by decide +kernel
theorem d_M_push_22 : decode k_M_push 22 = .ok (.getfield 90, 3) := by decide +kernel
theorem d_M_push_25 : decode k_M_push 25 = .ok (.iconst 1, 1) := by decide +kernel
theorem d_M_push_26 : decode k_M_push 26 = .ok (.iadd, 1) := by decide +kernel
theorem d_M_push_27 : decode k_M_push 27 = .ok (.putfield 90, 3) := by decide +kernel
theorem d_M_push_30 : decode k_M_push 30 = .ok (.return_, 1) := by decide +kernel
theorem d_M_startOf_0 : decode k_M_startOf 0 = .ok (.iconst 1, 1) := by decide +kernel
theorem d_M_startOf_1 : decode k_M_startOf 1 = .ok (.istore_n 2, 1) := by decide +kernel
theorem d_M_startOf_2 : decode k_M_startOf 2 = .ok (.iload_n 1, 1) := by decide +kernel
theorem d_M_startOf_3 : decode k_M_startOf 3 = .ok (.istore_n 3, 1) := by decide +kernel
theorem d_M_startOf_4 : decode k_M_startOf 4 = .ok (.iload_n 2, 1) := by decide +kernel
theorem d_M_startOf_5 : decode k_M_startOf 5 = .ok (.ifCond .le 42, 3) := by decide +kernel
theorem d_M_startOf_8 : decode k_M_startOf 8 = .ok (.iload_n 2, 1) := by decide +kernel
theorem d_M_startOf_9 : decode k_M_startOf 9 = .ok (.aload_n 0, 1) := by decide +kernel
theorem d_M_startOf_10 : decode k_M_startOf 10 = .ok (.getfield 7, 3) := by decide +kernel
theorem d_M_startOf_13 : decode k_M_startOf 13 = .ok (.iload_n 3, 1) := by decide +kernel
theorem d_M_startOf_14 : decode k_M_startOf 14 = .ok (.iaload, 1) := by decide +kernel
theorem d_M_startOf_15 : decode k_M_startOf 15 = .ok (.iconst 2, 1) := by decide +kernel
theorem d_M_startOf_16 : decode k_M_startOf 16 = .ok (.if_icmp .ge 7, 3) := by decide +kernel
theorem d_M_startOf_19 : decode k_M_startOf 19 = .ok (.iconst (-1), 1) := by decide +kernel
theorem d_M_startOf_20 : decode k_M_startOf 20 = .ok (.goto 19, 3) := by decide +kernel
theorem d_M_startOf_23 : decode k_M_startOf 23 = .ok (.aload_n 0, 1) := by decide +kernel
theorem d_M_startOf_24 : decode k_M_startOf 24 = .ok (.getfield 7, 3) := by decide +kernel
theorem d_M_startOf_27 : decode k_M_startOf 27 = .ok (.iload_n 3, 1) := by decide +kernel
theorem d_M_startOf_28 : decode k_M_startOf 28 = .ok (.iaload, 1) := by decide +kernel
theorem d_M_startOf_29 : decode k_M_startOf 29 = .ok (.bipush 7, 2) := by decide +kernel
theorem d_M_startOf_31 : decode k_M_startOf 31 = .ok (.if_icmp .ne 7, 3) := by decide +kernel
theorem d_M_startOf_34 : decode k_M_startOf 34 = .ok (.iconst 0, 1) := by decide +kernel
theorem d_M_startOf_35 : decode k_M_startOf 35 = .ok (.goto 4, 3) := by decide +kernel
theorem d_M_startOf_38 : decode k_M_startOf 38 = .ok (.iconst 1, 1) := by decide +kernel
theorem d_M_startOf_39 : decode k_M_startOf 39 = .ok (.iadd, 1) := by decide +kernel
theorem d_M_startOf_40 : decode k_M_startOf 40 = .ok (.istore_n 2, 1) := by decide +kernel
theorem d_M_startOf_41 : decode k_M_startOf 41 = .ok (.iinc 3 (-1), 3) := by decide +kernel
theorem d_M_startOf_44 : decode k_M_startOf 44 = .ok (.goto (-40), 3) := by decide +kernel
theorem d_M_startOf_47 : decode k_M_startOf 47 = .ok (.iload_n 3, 1) := by decide +kernel
theorem d_M_startOf_48 : decode k_M_startOf 48 = .ok (.iconst 1, 1) := by decide +kernel
theorem d_M_startOf_49 : decode k_M_startOf 49 = .ok (.iadd, 1) := by decide +kernel
theorem d_M_startOf_50 : decode k_M_startOf 50 = .ok (.ireturn, 1) := by decide +kernel
theorem d_M_tell_0 : decode k_M_tell 0 = .ok (.aload_n 0, 1) := by decide +kernel
theorem d_M_tell_1 : decode k_M_tell 1 = .ok (.getfield 90, 3) := by decide +kernel
theorem d_M_tell_4 : decode k_M_tell 4 = .ok (.istore_n 2, 1) := by decide +kernel
theorem d_M_tell_5 : decode k_M_tell 5 = .ok (.aload_n 0, 1) := by decide +kernel
theorem d_M_tell_6 : decode k_M_tell 6 = .ok (.iconst 2, 1) := by decide +kernel
theorem d_M_tell_7 : decode k_M_tell 7 = .ok (.iload_n 1, 1) := by decide +kernel
theorem d_M_tell_8 : decode k_M_tell 8 = .ok (.invokevirtual 93, 3) := by decide +kernel
theorem d_M_tell_11 : decode k_M_tell 11 = .ok (.aload_n 0, 1) := by decide +kernel
theorem d_M_tell_12 : decode k_M_tell 12 = .ok (.getfield 90, 3) := by decide +kernel
theorem d_M_tell_15 : decode k_M_tell 15 = .ok (.iload_n 2, 1) := by decide +kernel
theorem d_M_tell_16 : decode k_M_tell 16 = .ok (.if_icmp .le 243, 3) := by decide +kernel
theorem d_M_tell_19 : decode k_M_tell 19 = .ok (.aload_n 0, 1) := by decide +kernel
theorem d_M_tell_20 : decode k_M_tell 20 = .ok (.dup, 1) := by decide +kernel
theorem d_M_tell_21 : decode k_M_tell 21 = .ok (.getfield 90, 3) := by decide +kernel
theorem d_M_tell_24 : decode k_M_tell 24 = .ok (.iconst 1, 1) := by decide +kernel
theorem d_M_tell_25 : decode k_M_tell 25 = .ok (.isub, 1) := by decide +kernel
theorem d_M_tell_26 : decode k_M_tell 26 = .ok (.putfield 90, 3) := by decide +kernel
theorem d_M_tell_29 : decode k_M_tell 29 = .ok (.aload_n 0, 1) := by decide +kernel
theorem d_M_tell_30 : decode k_M_tell 30 = .ok (.getfield 35, 3) := by decide +kernel
theorem d_M_tell_33 : decode k_M_tell 33 = .ok (.aload_n 0, 1) := by decide +kernel
theorem d_M_tell_34 : decode k_M_tell 34 = .ok (.getfield 90, 3) := by decide +kernel
theorem d_M_tell_37 : decode k_M_tell 37 = .ok (.iaload, 1) := by decide +kernel
theorem d_M_tell_38 : decode k_M_tell 38 = .ok (.istore_n 3, 1) := by decide +kernel
theorem d_M_tell_39 : decode k_M_tell 39 = .ok (.aload_n 0, 1) := by decide +kernel
theorem d_M_tell_40 : decode k_M_tell 40 = .ok (.getfield 32, 3) := by decide +kernel
theorem d_M_tell_43 : decode k_M_tell 43 = .ok (.aload_n 0, 1) := by decide +kernel
theorem d_M_tell_44 : decode k_M_tell 44 = .ok (.getfield 90, 3) := by decide +kernel
theorem d_M_tell_47 : decode k_M_tell 47 = .ok (.iaload, 1) := by decide +kernel
theorem d_M_tell_48 : decode k_M_tell 48 = .ok (.iconst 1, 1) := by decide +kernel
theorem d_M_tell_49 : decode k_M_tell 49 = .ok (.if_icmp .ne 11, 3) := by decide +kernel
theorem d_M_tell_52 : decode k_M_tell 52 = .ok (.aload_n 0, 1) := by decide +kernel
theorem d_M_tell_53 : decode k_M_tell 53 = .ok (.iload_n 3, 1) := by decide +kernel
theorem d_M_tell_54 : decode k_M_tell 54 = .ok (.invokevirtual 97, 3) := by decide +kernel
theorem d_M_tell_57 : decode k_M_tell 57 = .ok (.goto 199, 3) := by decide +kernel
theorem d_M_tell_60 : decode k_M_tell 60 = .ok (.aload_n 0, 1) := by decide +kernel
theorem d_M_tell_61 : decode k_M_tell 61 = .ok (.getfield 7, 3) := by decide +kernel
theorem d_M_tell_64 : decode k_M_tell 64 = .ok (.iload_n 3, 1) := by decide +kernel
theorem d_M_tell_65 : decode k_M_tell 65 = .ok (.iaload, 1) := by decide +kernel
theorem d_M_tell_66 : decode k_M_tell 66 = .ok (.ifCond .ne 49, 3) := by decide +kernel
theorem d_M_tell_69 : decode k_M_tell 69 = .ok (.aload_n 0, 1) := by decide +kernel
theorem d_M_tell_70 : decode k_M_tell 70 = .ok (.getfield 13, 3) := by decide +kernel
theorem d_M_tell_73 : decode k_M_tell 73 = .ok (.iload_n 3, 1) := by decide +kernel
theorem d_M_tell_74 : decode k_M_tell 74 = .ok (.iaload, 1) := by decide +kernel
theorem d_M_tell_75 : decode k_M_tell 75 = .ok (.bipush 9, 2) := by decide +kernel
theorem d_M_tell_77 : decode k_M_tell 77 = .ok (.if_icmp .le 19, 3) := by decide +kernel
theorem d_M_tell_80 : decode k_M_tell 80 = .ok (.aload_n 0, 1) := by decide +kernel
theorem d_M_tell_81 : decode k_M_tell 81 = .ok (.bipush 48, 2) := by decide +kernel
theorem d_M_tell_83 : decode k_M_tell 83 = .ok (.aload_n 0, 1) := by decide +kernel
theorem d_M_tell_84 : decode k_M_tell 84 = .ok (.getfield 13, 3) := by decide +kernel
theorem d_M_tell_87 : decode k_M_tell 87 = .ok (.iload_n 3, 1) := by decide +kernel
theorem d_M_tell_88 : decode k_M_tell 88 = .ok (.iaload, 1) := by decide +kernel
theorem d_M_tell_89 : decode k_M_tell 89 = .ok (.bipush 10, 2) := by decide +kernel
theorem d_M_tell_91 : decode k_M_tell 91 = .ok (.idiv, 1) := by decide +kernel
theorem d_M_tell_92 : decode k_M_tell 92 = .ok (.iadd, 1) := by decide +kernel
theorem d_M_tell_93 : decode k_M_tell 93 = .ok (.invokevirtual 97, 3) := by decide +kernel
theorem d_M_tell_96 : decode k_M_tell 96 = .ok (.aload_n 0, 1) := by decide +kernel
theorem d_M_tell_97 : decode k_M_tell 97 = .ok (.bipush 48, 2) := by decide +kernel
theorem d_M_tell_99 : decode k_M_tell 99 = .ok (.aload_n 0, 1) := by decide +kernel
theorem d_M_tell_100 : decode k_M_tell 100 = .ok (.getfield 13, 3) := by decide +kernel
theorem d_M_tell_103 : decode k_M_tell 103 = .ok (.iload_n 3, 1) := by decide +kernel
theorem d_M_tell_104 : decode k_M_tell 104 = .ok (.iaload, 1) := by decide +kernel
theorem d_M_tell_105 : decode k_M_tell 105 = .ok (.bipush 10, 2) := by decide +kernel
theorem d_M_tell_107 : decode k_M_tell 107 = .ok (.irem, 1) := by decide +kernel
theorem d_M_tell_108 : decode k_M_tell 108 = .ok (.iadd, 1) := by decide +kernel
theorem d_M_tell_109 : decode k_M_tell 109 = .ok (.invokevirtual 97, 3) := by decide +kernel
theorem d_M_tell_112 : decode k_M_tell 112 = .ok (.goto 144, 3) := by decide +kernel
theorem d_M_tell_115 : decode k_M_tell 115 = .ok (.aload_n 0, 1) := by decide +kernel
theorem d_M_tell_116 : decode k_M_tell 116 = .ok (.getfield 7, 3) := by decide +kernel
theorem d_M_tell_119 : decode k_M_tell 119 = .ok (.iload_n 3, 1) := by decide +kernel
theorem d_M_tell_120 : decode k_M_tell 120 = .ok (.iaload, 1) := by decide +kernel
theorem d_M_tell_121 : decode k_M_tell 121 = .ok (.iconst 1, 1) := by decide +kernel
theorem d_M_tell_122 : decode k_M_tell 122 = .ok (.if_icmp .ne 19, 3) := by decide +kernel
theorem d_M_tell_125 : decode k_M_tell 125 = .ok (.aload_n 0, 1) := by decide +kernel
theorem d_M_tell_126 : decode k_M_tell 126 = .ok (.bipush 97, 2) := by decide +kernel
theorem d_M_tell_128 : decode k_M_tell 128 = .ok (.aload_n 0, 1) := by decide +kernel
theorem d_M_tell_129 : decode k_M_tell 129 = .ok (.getfield 13, 3) := by decide +kernel
theorem d_M_tell_132 : decode k_M_tell 132 = .ok (.iload_n 3, 1) := by decide +kernel
theorem d_M_tell_133 : decode k_M_tell 133 = .ok (.iaload, 1) := by decide +kernel
theorem d_M_tell_134 : decode k_M_tell 134 = .ok (.iadd, 1) := by decide +kernel
theorem d_M_tell_135 : decode k_M_tell 135 = .ok (.invokevirtual 97, 3) := by decide +kernel
theorem d_M_tell_138 : decode k_M_tell 138 = .ok (.goto 118, 3) := by decide +kernel
theorem d_M_tell_141 : decode k_M_tell 141 = .ok (.aload_n 0, 1) := by decide +kernel
theorem d_M_tell_142 : decode k_M_tell 142 = .ok (.getfield 7, 3) := by decide +kernel
theorem d_M_tell_145 : decode k_M_tell 145 = .ok (.iload_n 3, 1) := by decide +kernel
theorem d_M_tell_146 : decode k_M_tell 146 = .ok (.iaload, 1) := by decide +kernel
theorem d_M_tell_147 : decode k_M_tell 147 = .ok (.bipush 7, 2) := by decide +kernel
theorem d_M_tell_149 : decode k_M_tell 149 = .ok (.if_icmp .ne 20, 3) := by decide +kernel
theorem d_M_tell_152 : decode k_M_tell 152 = .ok (.aload_n 0, 1) := by decide +kernel
theorem d_M_tell_153 : decode k_M_tell 153 = .ok (.bipush 33, 2) := by decide +kernel
theorem d_M_tell_155 : decode k_M_tell 155 = .ok (.invokevirtual 97, 3) := by decide +kernel
theorem d_M_tell_158 : decode k_M_tell 158 = .ok (.aload_n 0, 1) := by decide +kernel
theorem d_M_tell_159 : decode k_M_tell 159 = .ok (.iconst 2, 1) := by decide +kernel
theorem d_M_tell_160 : decode k_M_tell 160 = .ok (.iload_n 3, 1) := by decide +kernel
theorem d_M_tell_161 : decode k_M_tell 161 = .ok (.iconst 1, 1) := by decide +kernel
theorem d_M_tell_162 : decode k_M_tell 162 = .ok (.isub, 1) := by decide +kernel
theorem d_M_tell_163 : decode k_M_tell 163 = .ok (.invokevirtual 93, 3) := by decide +kernel
theorem d_M_tell_166 : decode k_M_tell 166 = .ok (.goto 90, 3) := by decide +kernel
theorem d_M_tell_169 : decode k_M_tell 169 = .ok (.aload_n 0, 1) := by decide +kernel
theorem d_M_tell_170 : decode k_M_tell 170 = .ok (.bipush 40, 2) := by decide +kernel
theorem d_M_tell_172 : decode k_M_tell 172 = .ok (.invokevirtual 97, 3) := by decide +kernel
theorem d_M_tell_175 : decode k_M_tell 175 = .ok (.aload_n 0, 1) := by decide +kernel
theorem d_M_tell_176 : decode k_M_tell 176 = .ok (.iconst 1, 1) := by decide +kernel
theorem d_M_tell_177 : decode k_M_tell 177 = .ok (.bipush 41, 2) := by decide +kernel
theorem d_M_tell_179 : decode k_M_tell 179 = .ok (.invokevirtual 93, 3) := by decide +kernel
theorem d_M_tell_182 : decode k_M_tell 182 = .ok (.aload_n 0, 1) := by decide +kernel
theorem d_M_tell_183 : decode k_M_tell 183 = .ok (.iconst 2, 1) := by decide +kernel
theorem d_M_tell_184 : decode k_M_tell 184 = .ok (.iload_n 3, 1) := by decide +kernel
theorem d_M_tell_185 : decode k_M_tell 185 = .ok (.iconst 1, 1) := by decide +kernel
theorem d_M_tell_186 : decode k_M_tell 186 = .ok (.isub, 1) := by decide +kernel
theorem d_M_tell_187 : decode k_M_tell 187 = .ok (.invokevirtual 93, 3) := by decide +kernel
theorem d_M_tell_190 : decode k_M_tell 190 = .ok (.aload_n 0, 1) := by decide +kernel
theorem d_M_tell_191 : decode k_M_tell 191 = .ok (.iconst 1, 1) := by decide +kernel
theorem d_M_tell_192 : decode k_M_tell 192 = .ok (.aload_n 0, 1) := by decide +kernel
theorem d_M_tell_193 : decode k_M_tell 193 = .ok (.getfield 7, 3) := by decide +kernel
theorem d_M_tell_196 : decode k_M_tell 196 = .ok (.iload_n 3, 1) := by decide +kernel
theorem d_M_tell_197 : decode k_M_tell 197 = .ok (.iaload, 1) := by decide +kernel
theorem d_M_tell_198 : decode k_M_tell 198 = .ok (.iconst 3, 1) := by decide +kernel
theorem d_M_tell_199 : decode k_M_tell 199 = .ok (.if_icmp .ne 8, 3) := by decide +kernel
theorem d_M_tell_202 : decode k_M_tell 202 = .ok (.bipush 43, 2) := by decide +kernel
theorem d_M_tell_204 : decode k_M_tell 204 = .ok (.goto 35, 3) := by decide +kernel
theorem d_M_tell_207 : decode k_M_tell 207 = .ok (.aload_n 0, 1) := by decide +kernel
theorem d_M_tell_208 : decode k_M_tell 208 = .ok (.getfield 7, 3) := by decide +kernel
theorem d_M_tell_211 : decode k_M_tell 211 = .ok (.iload_n 3, 1) := by decide +kernel
theorem d_M_tell_212 : decode k_M_tell 212 = .ok (.iaload, 1) := by decide +kernel
theorem d_M_tell_213 : decode k_M_tell 213 = .ok (.iconst 4, 1) := by decide +kernel
theorem d_M_tell_214 : decode k_M_tell 214 = .ok (.if_icmp .ne 8, 3) := by decide +kernel
theorem d_M_tell_217 : decode k_M_tell 217 = .ok (.bipush 45, 2) := by decide +kernel
theorem d_M_tell_219 : decode k_M_tell 219 = .ok (.goto 20, 3) := by decide +kernel
theorem d_M_tell_222 : decode k_M_tell 222 = .ok (.aload_n 0, 1) := by decide +kernel
theorem d_M_tell_223 : decode k_M_tell 223 = .ok (.getfield 7, 3) := by decide +kernel
theorem d_M_tell_226 : decode k_M_tell 226 = .ok (.iload_n 3, 1) := by decide +kernel
theorem d_M_tell_227 : decode k_M_tell 227 = .ok (.iaload, 1) := by decide +kernel
theorem d_M_tell_228 : decode k_M_tell 228 = .ok (.iconst 5, 1) := by decide +kernel
theorem d_M_tell_229 : decode k_M_tell 229 = .ok (.if_icmp .ne 8, 3) := by decide +kernel
theorem d_M_tell_232 : decode k_M_tell 232 = .ok (.bipush 42, 2) := by decide +kernel
theorem d_M_tell_234 : decode k_M_tell 234 = .ok (.goto 5, 3) := by decide +kernel
theorem d_M_tell_237 : decode k_M_tell 237 = .ok (.bipush 60, 2) := by decide +kernel
theorem d_M_tell_239 : decode k_M_tell 239 = .ok (.invokevirtual 93, 3) := by decide +kernel
theorem d_M_tell_242 : decode k_M_tell 242 = .ok (.aload_n 0, 1) := by decide +kernel
theorem d_M_tell_243 : decode k_M_tell 243 = .ok (.iconst 2, 1) := by decide +kernel
theorem d_M_tell_244 : decode k_M_tell 244 = .ok (.aload_n 0, 1) := by decide +kernel
theorem d_M_tell_245 : decode k_M_tell 245 = .ok (.iload_n 3, 1) := by decide +kernel
theorem d_M_tell_246 : decode k_M_tell 246 = .ok (.iconst 1, 1) := by decide +kernel
theorem d_M_tell_247 : decode k_M_tell 247 = .ok (.isub, 1) := by decide +kernel
theorem d_M_tell_248 : decode k_M_tell 248 = .ok (.invokevirtual 101, 3) := by decide +kernel
theorem d_M_tell_251 : decode k_M_tell 251 = .ok (.iconst 1, 1) := by decide +kernel
theorem d_M_tell_252 : decode k_M_tell 252 = .ok (.isub, 1) := by decide +kernel
theorem d_M_tell_253 : decode k_M_tell 253 = .ok (.invokevirtual 93, 3) := by decide +kernel
theorem d_M_tell_256 : decode k_M_tell 256 = .ok (.goto (-245), 3) := by decide +kernel
theorem d_M_tell_259 : decode k_M_tell 259 = .ok (.return_, 1) := by decide +kernel
theorem d_M_range_0 : decode k_M_range 0 = .ok (.iload_n 1, 1) := by decide +kernel
theorem d_M_range_1 : decode k_M_range 1 = .ok (.iload_n 2, 1) := by decide +kernel
theorem d_M_range_2 : decode k_M_range 2 = .ok (.if_icmp .ne 5, 3) := by decide +kernel
theorem d_M_range_5 : decode k_M_range 5 = .ok (.iconst 1, 1) := by decide +kernel
theorem d_M_range_6 : decode k_M_range 6 = .ok (.ireturn, 1) := by decide +kernel
theorem d_M_range_7 : decode k_M_range 7 = .ok (.iload_n 1, 1) := by decide +kernel
theorem d_M_range_8 : decode k_M_range 8 = .ok (.istore_n 3, 1) := by decide +kernel
theorem d_M_range_9 : decode k_M_range 9 = .ok (.aload_n 0, 1) := by decide +kernel
theorem d_M_range_10 : decode k_M_range 10 = .ok (.getfield 7, 3) := by decide +kernel
theorem d_M_range_13 : decode k_M_range 13 = .ok (.iload_n 3, 1) := by decide +kernel
theorem d_M_range_14 : decode k_M_range 14 = .ok (.iaload, 1) := by decide +kernel
theorem d_M_range_15 : decode k_M_range 15 = .ok (.iconst 2, 1) := by decide +kernel
theorem d_M_range_16 : decode k_M_range 16 = .ok (.if_icmp .eq 42, 3) := by decide +kernel
theorem d_M_range_19 : decode k_M_range 19 = .ok (.aload_n 0, 1) := by decide +kernel
theorem d_M_range_20 : decode k_M_range 20 = .ok (.getfield 7, 3) := by decide +kernel
theorem d_M_range_23 : decode k_M_range 23 = .ok (.iload_n 3, 1) := by decide +kernel
theorem d_M_range_24 : decode k_M_range 24 = .ok (.iaload, 1) := by decide +kernel
theorem d_M_range_25 : decode k_M_range 25 = .ok (.bipush 10, 2) := by decide +kernel
theorem d_M_range_27 : decode k_M_range 27 = .ok (.if_icmp .eq 31, 3) := by decide +kernel
theorem d_M_range_30 : decode k_M_range 30 = .ok (.aload_n 0, 1) := by decide +kernel
theorem d_M_range_31 : decode k_M_range 31 = .ok (.getfield 7, 3) := by decide +kernel
theorem d_M_range_34 : decode k_M_range 34 = .ok (.iload_n 3, 1) := by decide +kernel
theorem d_M_range_35 : decode k_M_range 35 = .ok (.iaload, 1) := by decide +kernel
theorem d_M_range_36 : decode k_M_range 36 = .ok (.bipush 9, 2) := by decide +kernel
theorem d_M_range_38 : decode k_M_range 38 = .ok (.if_icmp .eq 20, 3) := by decide +kernel
theorem d_M_range_41 : decode k_M_range 41 = .ok (.aload_n 0, 1) := by decide +kernel
theorem d_M_range_42 : decode k_M_range 42 = .ok (.getfield 7, 3) := by decide +kernel
theorem d_M_range_45 : decode k_M_range 45 = .ok (.iload_n 3, 1) := by decide +kernel
theorem d_M_range_46 : decode k_M_range 46 = .ok (.iaload, 1) := by decide +kernel
theorem d_M_range_47 : decode k_M_range 47 = .ok (.bipush 8, 2) := by decide +kernel
theorem d_M_range_49 : decode k_M_range 49 = .ok (.if_icmp .eq 9, 3) := by decide +kernel
theorem d_M_range_52 : decode k_M_range 52 = .ok (.iinc 3 1, 3) := by decide +kernel
theorem d_M_range_55 : decode k_M_range 55 = .ok (.goto (-46), 3) := by decide +kernel
theorem d_M_range_58 : decode k_M_range 58 = .ok (.aload_n 0, 1) := by decide +kernel
theorem d_M_range_59 : decode k_M_range 59 = .ok (.iload_n 3, 1) := by decide +kernel
theorem d_M_range_60 : decode k_M_range 60 = .ok (.putfield 28, 3) := by decide +kernel
theorem d_M_range_63 : decode k_M_range 63 = .ok (.aload_n 0, 1) := by decide +kernel
theorem d_M_range_64 : decode k_M_range 64 = .ok (.getfield 7, 3) := by decide +kernel
theorem d_M_range_67 : decode k_M_range 67 = .ok (.iload_n 3, 1) := by decide +kernel
theorem d_M_range_68 : decode k_M_range 68 = .ok (.iaload, 1) := by decide +kernel
theorem d_M_range_69 : decode k_M_range 69 = .ok (.bipush 8, 2) := by decide +kernel
theorem d_M_range_71 : decode k_M_range 71 = .ok (.if_icmp .ne 5, 3) := by decide +kernel
theorem d_M_range_74 : decode k_M_range 74 = .ok (.iconst 0, 1) := by decide +kernel
theorem d_M_range_75 : decode k_M_range 75 = .ok (.ireturn, 1) := by decide +kernel
theorem d_M_range_76 : decode k_M_range 76 = .ok (.aload_n 0, 1) := by decide +kernel
theorem d_M_range_77 : decode k_M_range 77 = .ok (.getfield 13, 3) := by decide +kernel
theorem d_M_range_80 : decode k_M_range 80 = .ok (.iload_n 3, 1) := by decide +kernel
theorem d_M_range_81 : decode k_M_range 81 = .ok (.iaload, 1) := by decide +kernel
theorem d_M_range_82 : decode k_M_range 82 = .ok (.istore 4, 2) := by decide +kernel
theorem d_M_range_84 : decode k_M_range 84 = .ok (.aload_n 0, 1) := by decide +kernel
theorem d_M_range_85 : decode k_M_range 85 = .ok (.getfield 7, 3) := by decide +kernel
theorem d_M_range_88 : decode k_M_range 88 = .ok (.iload_n 3, 1) := by decide +kernel
theorem d_M_range_89 : decode k_M_range 89 = .ok (.iaload, 1) := by decide +kernel
theorem d_M_range_90 : decode k_M_range 90 = .ok (.bipush 9, 2) := by decide +kernel
theorem d_M_range_92 : decode k_M_range 92 = .ok (.if_icmp .eq 71, 3) := by decide +kernel
theorem d_M_range_95 : decode k_M_range 95 = .ok (.aload_n 0, 1) := by decide +kernel
theorem d_M_range_96 : decode k_M_range 96 = .ok (.aload_n 0, 1) := by decide +kernel
theorem d_M_range_97 : decode k_M_range 97 = .ok (.getfield 7, 3) := by decide +kernel
theorem d_M_range_100 : decode k_M_range 100 = .ok (.iload_n 3, 1) := by decide +kernel
theorem d_M_range_101 : decode k_M_range 101 = .ok (.iaload, 1) := by decide +kernel
theorem d_M_range_102 : decode k_M_range 102 = .ok (.iconst 2, 1) := by decide +kernel
theorem d_M_range_103 : decode k_M_range 103 = .ok (.if_icmp .ne 11, 3) := by decide +kernel
theorem d_M_range_106 : decode k_M_range 106 = .ok (.bipush 97, 2) := by decide +kernel
theorem d_M_range_108 : decode k_M_range 108 = .ok (.iload 4, 2) := by decide +kernel
theorem d_M_range_110 : decode k_M_range 110 = .ok (.iadd, 1) := by decide +kernel
theorem d_M_range_111 : decode k_M_range 111 = .ok (.goto 5, 3) := by decide +kernel
theorem d_M_range_114 : decode k_M_range 114 = .ok (.bipush 35, 2) := by decide +kernel
theorem d_M_range_116 : decode k_M_range 116 = .ok (.invokevirtual 97, 3) := by decide +kernel
theorem d_M_range_119 : decode k_M_range 119 = .ok (.aload_n 0, 1) := by decide +kernel
theorem d_M_range_120 : decode k_M_range 120 = .ok (.getfield 7, 3) := by decide +kernel
theorem d_M_range_123 : decode k_M_range 123 = .ok (.iload_n 3, 1) := by decide +kernel
theorem d_M_range_124 : decode k_M_range 124 = .ok (.iaload, 1) := by decide +kernel
theorem d_M_range_125 : decode k_M_range 125 = .ok (.iconst 2, 1) := by decide +kernel
theorem d_M_range_126 : decode k_M_range 126 = .ok (.if_icmp .ne 9, 3) := by decide +kernel
theorem d_M_range_129 : decode k_M_range 129 = .ok (.aload_n 0, 1) := by decide +kernel
theorem d_M_range_130 : decode k_M_range 130 = .ok (.bipush 61, 2) := by decide +kernel
theorem d_M_range_132 : decode k_M_range 132 = .ok (.invokevirtual 97, 3) := by decide +kernel
theorem d_M_range_135 : decode k_M_range 135 = .ok (.aload_n 0, 1) := by decide +kernel
theorem d_M_range_136 : decode k_M_range 136 = .ok (.iload_n 3, 1) := by decide +kernel
theorem d_M_range_137 : decode k_M_range 137 = .ok (.iconst 1, 1) := by decide +kernel
theorem d_M_range_138 : decode k_M_range 138 = .ok (.isub, 1) := by decide +kernel
theorem d_M_range_139 : decode k_M_range 139 = .ok (.invokevirtual 104, 3) := by decide +kernel
theorem d_M_range_142 : decode k_M_range 142 = .ok (.aload_n 0, 1) := by decide +kernel
theorem d_M_range_143 : decode k_M_range 143 = .ok (.bipush 59, 2) := by decide +kernel
theorem d_M_range_145 : decode k_M_range 145 = .ok (.invokevirtual 97, 3) := by decide +kernel
theorem d_M_range_148 : decode k_M_range 148 = .ok (.aload_n 0, 1) := by decide +kernel
theorem d_M_range_149 : decode k_M_range 149 = .ok (.iconst 0, 1) := by decide +kernel
theorem d_M_range_150 : decode k_M_range 150 = .ok (.iload_n 3, 1) := by decide +kernel
theorem d_M_range_151 : decode k_M_range 151 = .ok (.iconst 1, 1) := by decide +kernel
theorem d_M_range_152 : decode k_M_range 152 = .ok (.iadd, 1) := by decide +kernel
theorem d_M_range_153 : decode k_M_range 153 = .ok (.bipush 64, 2) := by decide +kernel
theorem d_M_range_155 : decode k_M_range 155 = .ok (.iload_n 2, 1) := by decide +kernel
theorem d_M_range_156 : decode k_M_range 156 = .ok (.imul, 1) := by decide +kernel
theorem d_M_range_157 : decode k_M_range 157 = .ok (.iadd, 1) := by decide +kernel
theorem d_M_range_158 : decode k_M_range 158 = .ok (.invokevirtual 93, 3) := by decide +kernel
theorem d_M_range_161 : decode k_M_range 161 = .ok (.iconst 1, 1) := by decide +kernel
theorem d_M_range_162 : decode k_M_range 162 = .ok (.ireturn, 1) := by decide +kernel
theorem d_M_range_163 : decode k_M_range 163 = .ok (.iload 4, 2) := by decide +kernel
theorem d_M_range_165 : decode k_M_range 165 = .ok (.iload_n 3, 1) := by decide +kernel
theorem d_M_range_166 : decode k_M_range 166 = .ok (.if_icmp .le 9, 3) := by decide +kernel
theorem d_M_range_169 : decode k_M_range 169 = .ok (.iload 4, 2) := by decide +kernel
theorem d_M_range_171 : decode k_M_range 171 = .ok (.iload_n 2, 1) := by decide +kernel
theorem d_M_range_172 : decode k_M_range 172 = .ok (.if_icmp .le 5, 3) := by decide +kernel
theorem d_M_range_175 : decode k_M_range 175 = .ok (.iconst 0, 1) := by decide +kernel
theorem d_M_range_176 : decode k_M_range 176 = .ok (.ireturn, 1) := by decide +kernel
theorem d_M_range_177 : decode k_M_range 177 = .ok (.iload 4, 2) := by decide +kernel
theorem d_M_range_179 : decode k_M_range 179 = .ok (.iconst 1, 1) := by decide +kernel
theorem d_M_range_180 : decode k_M_range 180 = .ok (.isub, 1) := by decide +kernel
theorem d_M_range_181 : decode k_M_range 181 = .ok (.iload_n 3, 1) := by decide +kernel
theorem d_M_range_182 : decode k_M_range 182 = .ok (.if_icmp .le 21, 3) := by decide +kernel
theorem d_M_range_185 : decode k_M_range 185 = .ok (.aload_n 0, 1) := by decide +kernel
theorem d_M_range_186 : decode k_M_range 186 = .ok (.getfield 7, 3) := by decide +kernel
theorem d_M_range_189 : decode k_M_range 189 = .ok (.iload 4, 2) := by decide +kernel
theorem d_M_range_191 : decode k_M_range 191 = .ok (.iconst 1, 1) := by decide +kernel
theorem d_M_range_192 : decode k_M_range 192 = .ok (.isub, 1) := by decide +kernel
theorem d_M_range_193 : decode k_M_range 193 = .ok (.iaload, 1) := by decide +kernel
theorem d_M_range_194 : decode k_M_range 194 = .ok (.bipush 8, 2) := by decide +kernel
theorem d_M_range_196 : decode k_M_range 196 = .ok (.if_icmp .ne 7, 3) := by decide +kernel
theorem d_M_range_199 : decode k_M_range 199 = .ok (.iconst 1, 1) := by decide +kernel
theorem d_M_range_200 : decode k_M_range 200 = .ok (.goto 4, 3) := by decide +kernel
theorem d_M_range_203 : decode k_M_range 203 = .ok (.iconst 0, 1) := by decide +kernel
theorem d_M_range_204 : decode k_M_range 204 = .ok (.istore 5, 2) := by decide +kernel
theorem d_M_range_206 : decode k_M_range 206 = .ok (.iload 5, 2) := by decide +kernel
theorem d_M_range_208 : decode k_M_range 208 = .ok (.ifCond .eq 20, 3) := by decide +kernel
theorem d_M_range_211 : decode k_M_range 211 = .ok (.aload_n 0, 1) := by decide +kernel
theorem d_M_range_212 : decode k_M_range 212 = .ok (.getfield 13, 3) := by decide +kernel
theorem d_M_range_215 : decode k_M_range 215 = .ok (.iload 4, 2) := by decide +kernel
theorem d_M_range_217 : decode k_M_range 217 = .ok (.iconst 1, 1) := by decide +kernel
theorem d_M_range_218 : decode k_M_range 218 = .ok (.isub, 1) := by decide +kernel
theorem d_M_range_219 : decode k_M_range 219 = .ok (.iaload, 1) := by decide +kernel
theorem d_M_range_220 : decode k_M_range 220 = .ok (.iload_n 1, 1) := by decide +kernel
theorem d_M_range_221 : decode k_M_range 221 = .ok (.if_icmp .ne 7, 3) := by decide +kernel
theorem d_M_range_224 : decode k_M_range 224 = .ok (.iconst 1, 1) := by decide +kernel
theorem d_M_range_225 : decode k_M_range 225 = .ok (.goto 4, 3) := by decide +kernel
theorem d_M_range_228 : decode k_M_range 228 = .ok (.iconst 0, 1) := by decide +kernel
theorem d_M_range_229 : decode k_M_range 229 = .ok (.istore 6, 2) := by decide +kernel
theorem d_M_range_231 : decode k_M_range 231 = .ok (.iload 5, 2) := by decide +kernel
theorem d_M_range_233 : decode k_M_range 233 = .ok (.ifCond .eq 30, 3) := by decide +kernel
theorem d_M_range_236 : decode k_M_range 236 = .ok (.iload 6, 2) := by decide +kernel
theorem d_M_range_238 : decode k_M_range 238 = .ok (.ifCond .ne 25, 3) := by decide +kernel
theorem d_M_range_241 : decode k_M_range 241 = .ok (.aload_n 0, 1) := by decide +kernel
theorem d_M_range_242 : decode k_M_range 242 = .ok (.getfield 13, 3) := by decide +kernel
theorem d_M_range_245 : decode k_M_range 245 = .ok (.iload 4, 2) := by decide +kernel
theorem d_M_range_247 : decode k_M_range 247 = .ok (.iconst 1, 1) := by decide +kernel
theorem d_M_range_248 : decode k_M_range 248 = .ok (.isub, 1) := by decide +kernel
theorem d_M_range_249 : decode k_M_range 249 = .ok (.iaload, 1) := by decide +kernel
theorem d_M_range_250 : decode k_M_range 250 = .ok (.iload 4, 2) := by decide +kernel
theorem d_M_range_252 : decode k_M_range 252 = .ok (.iload_n 2, 1) := by decide +kernel
theorem d_M_range_253 : decode k_M_range 253 = .ok (.invokestatic 56, 3) := by decide +kernel
theorem d_M_range_256 : decode k_M_range 256 = .ok (.ifCond .eq 7, 3) := by decide +kernel
theorem d_M_range_259 : decode k_M_range 259 = .ok (.iconst 1, 1) := by decide +kernel
theorem d_M_range_260 : decode k_M_range 260 = .ok (.goto 4, 3) := by decide +kernel
theorem d_M_range_263 : decode k_M_range 263 = .ok (.iconst 0, 1) := by decide +kernel
theorem d_M_range_264 : decode k_M_range 264 = .ok (.istore 7, 2) := by decide +kernel
theorem d_M_range_266 : decode k_M_range 266 = .ok (.aload_n 0, 1) := by decide +kernel
theorem d_M_range_267 : decode k_M_range 267 = .ok (.iload 6, 2) := by decide +kernel
theorem d_M_range_269 : decode k_M_range 269 = .ok (.ifCond .eq 8, 3) := by decide +kernel
theorem d_M_range_272 : decode k_M_range 272 = .ok (.bipush 64, 2) := by decide +kernel
theorem d_M_range_274 : decode k_M_range 274 = .ok (.goto 5, 3) := by decide +kernel
theorem d_M_range_277 : decode k_M_range 277 = .ok (.bipush 63, 2) := by decide +kernel
theorem d_M_range_279 : decode k_M_range 279 = .ok (.invokevirtual 97, 3) := by decide +kernel
theorem d_M_range_282 : decode k_M_range 282 = .ok (.aload_n 0, 1) := by decide +kernel
theorem d_M_range_283 : decode k_M_range 283 = .ok (.iload_n 3, 1) := by decide +kernel
theorem d_M_range_284 : decode k_M_range 284 = .ok (.iconst 1, 1) := by decide +kernel
theorem d_M_range_285 : decode k_M_range 285 = .ok (.isub, 1) := by decide +kernel
theorem d_M_range_286 : decode k_M_range 286 = .ok (.invokevirtual 104, 3) := by decide +kernel
theorem d_M_range_289 : decode k_M_range 289 = .ok (.aload_n 0, 1) := by decide +kernel
theorem d_M_range_290 : decode k_M_range 290 = .ok (.bipush 123, 2) := by decide +kernel
theorem d_M_range_292 : decode k_M_range 292 = .ok (.invokevirtual 97, 3) := by decide +kernel
theorem d_M_range_295 : decode k_M_range 295 = .ok (.aload_n 0, 1) := by decide +kernel
theorem d_M_range_296 : decode k_M_range 296 = .ok (.iconst 0, 1) := by decide +kernel
theorem d_M_range_297 : decode k_M_range 297 = .ok (.iload 7, 2) := by decide +kernel
theorem d_M_range_299 : decode k_M_range 299 = .ok (.ifCond .eq 15, 3) := by decide +kernel
theorem d_M_range_302 : decode k_M_range 302 = .ok (.aload_n 0, 1) := by decide +kernel
theorem d_M_range_303 : decode k_M_range 303 = .ok (.getfield 13, 3) := by decide +kernel
theorem d_M_range_306 : decode k_M_range 306 = .ok (.iload 4, 2) := by decide +kernel
theorem d_M_range_308 : decode k_M_range 308 = .ok (.iconst 1, 1) := by decide +kernel
theorem d_M_range_309 : decode k_M_range 309 = .ok (.isub, 1) := by decide +kernel
theorem d_M_range_310 : decode k_M_range 310 = .ok (.iaload, 1) := by decide +kernel
theorem d_M_range_311 : decode k_M_range 311 = .ok (.goto 5, 3) := by decide +kernel
theorem d_M_range_314 : decode k_M_range 314 = .ok (.iload 4, 2) := by decide +kernel
theorem d_M_range_316 : decode k_M_range 316 = .ok (.bipush 64, 2) := by decide +kernel
theorem d_M_range_318 : decode k_M_range 318 = .ok (.iload_n 2, 1) := by decide +kernel
theorem d_M_range_319 : decode k_M_range 319 = .ok (.imul, 1) := by decide +kernel
theorem d_M_range_320 : decode k_M_range 320 = .ok (.iadd, 1) := by decide +kernel
theorem d_M_range_321 : decode k_M_range 321 = .ok (.invokevirtual 93, 3) := by decide +kernel
theorem d_M_range_324 : decode k_M_range 324 = .ok (.aload_n 0, 1) := by decide +kernel
theorem d_M_range_325 : decode k_M_range 325 = .ok (.iconst 1, 1) := by decide +kernel
theorem d_M_range_326 : decode k_M_range 326 = .ok (.bipush 125, 2) := by decide +kernel
theorem d_M_range_328 : decode k_M_range 328 = .ok (.invokevirtual 93, 3) := by decide +kernel
theorem d_M_range_331 : decode k_M_range 331 = .ok (.iload 7, 2) := by decide +kernel
theorem d_M_range_333 : decode k_M_range 333 = .ok (.ifCond .eq 44, 3) := by decide +kernel
theorem d_M_range_336 : decode k_M_range 336 = .ok (.aload_n 0, 1) := by decide +kernel
theorem d_M_range_337 : decode k_M_range 337 = .ok (.iconst 0, 1) := by decide +kernel
theorem d_M_range_338 : decode k_M_range 338 = .ok (.iload 4, 2) := by decide +kernel
theorem d_M_range_340 : decode k_M_range 340 = .ok (.bipush 64, 2) := by decide +kernel
theorem d_M_range_342 : decode k_M_range 342 = .ok (.aload_n 0, 1) := by decide +kernel
theorem d_M_range_343 : decode k_M_range 343 = .ok (.getfield 13, 3) := by decide +kernel
theorem d_M_range_346 : decode k_M_range 346 = .ok (.iload 4, 2) := by decide +kernel
theorem d_M_range_348 : decode k_M_range 348 = .ok (.iconst 1, 1) := by decide +kernel
theorem d_M_range_349 : decode k_M_range 349 = .ok (.isub, 1) := by decide +kernel
theorem d_M_range_350 : decode k_M_range 350 = .ok (.iaload, 1) := by decide +kernel
theorem d_M_range_351 : decode k_M_range 351 = .ok (.imul, 1) := by decide +kernel
theorem d_M_range_352 : decode k_M_range 352 = .ok (.iadd, 1) := by decide +kernel
theorem d_M_range_353 : decode k_M_range 353 = .ok (.invokevirtual 93, 3) := by decide +kernel
theorem d_M_range_356 : decode k_M_range 356 = .ok (.aload_n 0, 1) := by decide +kernel
theorem d_M_range_357 : decode k_M_range 357 = .ok (.iconst 1, 1) := by decide +kernel
theorem d_M_range_358 : decode k_M_range 358 = .ok (.bipush 123, 2) := by decide +kernel
theorem d_M_range_360 : decode k_M_range 360 = .ok (.invokevirtual 93, 3) := by decide +kernel
theorem d_M_range_363 : decode k_M_range 363 = .ok (.aload_n 0, 1) := by decide +kernel
theorem d_M_range_364 : decode k_M_range 364 = .ok (.iconst 1, 1) := by decide +kernel
theorem d_M_range_365 : decode k_M_range 365 = .ok (.bipush 58, 2) := by decide +kernel
theorem d_M_range_367 : decode k_M_range 367 = .ok (.invokevirtual 93, 3) := by decide +kernel
theorem d_M_range_370 : decode k_M_range 370 = .ok (.aload_n 0, 1) := by decide +kernel
theorem d_M_range_371 : decode k_M_range 371 = .ok (.iconst 1, 1) := by decide +kernel
theorem d_M_range_372 : decode k_M_range 372 = .ok (.bipush 125, 2) := by decide +kernel
theorem d_M_range_374 : decode k_M_range 374 = .ok (.invokevirtual 93, 3) := by decide +kernel
theorem d_M_range_377 : decode k_M_range 377 = .ok (.aload_n 0, 1) := by decide +kernel
theorem d_M_range_378 : decode k_M_range 378 = .ok (.iconst 0, 1) := by decide +kernel
theorem d_M_range_379 : decode k_M_range 379 = .ok (.iload_n 3, 1) := by decide +kernel
theorem d_M_range_380 : decode k_M_range 380 = .ok (.iconst 1, 1) := by decide +kernel
theorem d_M_range_381 : decode k_M_range 381 = .ok (.iadd, 1) := by decide +kernel
theorem d_M_range_382 : decode k_M_range 382 = .ok (.bipush 64, 2) := by decide +kernel
theorem d_M_range_384 : decode k_M_range 384 = .ok (.iload 5, 2) := by decide +kernel
theorem d_M_range_386 : decode k_M_range 386 = .ok (.ifCond .eq 20, 3) := by decide +kernel
theorem d_M_range_389 : decode k_M_range 389 = .ok (.iload 6, 2) := by decide +kernel
theorem d_M_range_391 : decode k_M_range 391 = .ok (.ifCond .ne 8, 3) := by decide +kernel
theorem d_M_range_394 : decode k_M_range 394 = .ok (.iload 7, 2) := by decide +kernel
theorem d_M_range_396 : decode k_M_range 396 = .ok (.ifCond .eq 10, 3) := by decide +kernel
theorem d_M_range_399 : decode k_M_range 399 = .ok (.iload 4, 2) := by decide +kernel
theorem d_M_range_401 : decode k_M_range 401 = .ok (.iconst 1, 1) := by decide +kernel
theorem d_M_range_402 : decode k_M_range 402 = .ok (.isub, 1) := by decide +kernel
theorem d_M_range_403 : decode k_M_range 403 = .ok (.goto 5, 3) := by decide +kernel
theorem d_M_range_406 : decode k_M_range 406 = .ok (.iload 4, 2) := by decide +kernel
theorem d_M_range_408 : decode k_M_range 408 = .ok (.imul, 1) := by decide +kernel
theorem d_M_range_409 : decode k_M_range 409 = .ok (.iadd, 1) := by decide +kernel
theorem d_M_range_410 : decode k_M_range 410 = .ok (.invokevirtual 93, 3) := by decide +kernel
theorem d_M_range_413 : decode k_M_range 413 = .ok (.iconst 1, 1) := by decide +kernel
theorem d_M_range_414 : decode k_M_range 414 = .ok (.ireturn, 1) := by decide +kernel
theorem d_M_lift_0 : decode k_M_lift 0 = .ok (.aload_n 0, 1) := by decide +kernel
theorem d_M_lift_1 : decode k_M_lift 1 = .ok (.iconst 0, 1) := by decide +kernel
theorem d_M_lift_2 : decode k_M_lift 2 = .ok (.putfield 107, 3) := by decide +kernel
theorem d_M_lift_5 : decode k_M_lift 5 = .ok (.aload_n 0, 1) := by decide +kernel
theorem d_M_lift_6 : decode k_M_lift 6 = .ok (.iconst 0, 1) := by decide +kernel
theorem d_M_lift_7 : decode k_M_lift 7 = .ok (.putfield 87, 3) := by decide +kernel
theorem d_M_lift_10 : decode k_M_lift 10 = .ok (.aload_n 0, 1) := by decide +kernel
theorem d_M_lift_11 : decode k_M_lift 11 = .ok (.aload_n 0, 1) := by decide +kernel
theorem d_M_lift_12 : decode k_M_lift 12 = .ok (.invokevirtual 111, 3) := by decide +kernel
theorem d_M_lift_15 : decode k_M_lift 15 = .ok (.putfield 28, 3) := by decide +kernel
theorem d_M_lift_18 : decode k_M_lift 18 = .ok (.aload_n 0, 1) := by decide +kernel
theorem d_M_lift_19 : decode k_M_lift 19 = .ok (.getfield 28, 3) := by decide +kernel
theorem d_M_lift_22 : decode k_M_lift 22 = .ok (.ifCond .lt 6, 3) := by decide +kernel
theorem d_M_lift_25 : decode k_M_lift 25 = .ok (.bipush (-4), 2) := by decide +kernel
theorem d_M_lift_27 : decode k_M_lift 27 = .ok (.ireturn, 1) := by decide +kernel
theorem d_M_lift_28 : decode k_M_lift 28 = .ok (.aload_n 0, 1) := by decide +kernel
theorem d_M_lift_29 : decode k_M_lift 29 = .ok (.iconst 0, 1) := by decide +kernel
theorem d_M_lift_30 : decode k_M_lift 30 = .ok (.putfield 90, 3) := by decide +kernel
theorem d_M_lift_33 : decode k_M_lift 33 = .ok (.aload_n 0, 1) := by decide +kernel
theorem d_M_lift_34 : decode k_M_lift 34 = .ok (.iconst 0, 1) := by decide +kernel
theorem d_M_lift_35 : decode k_M_lift 35 = .ok (.bipush 64, 2) := by decide +kernel
theorem d_M_lift_37 : decode k_M_lift 37 = .ok (.aload_n 0, 1) := by decide +kernel
theorem d_M_lift_38 : decode k_M_lift 38 = .ok (.getfield 64, 3) := by decide +kernel
theorem d_M_lift_41 : decode k_M_lift 41 = .ok (.imul, 1) := by decide +kernel
theorem d_M_lift_42 : decode k_M_lift 42 = .ok (.invokevirtual 93, 3) := by decide +kernel
theorem d_M_lift_45 : decode k_M_lift 45 = .ok (.iconst 1, 1) := by decide +kernel
theorem d_M_lift_46 : decode k_M_lift 46 = .ok (.istore_n 1, 1) := by decide +kernel
theorem d_M_lift_47 : decode k_M_lift 47 = .ok (.aload_n 0, 1) := by decide +kernel
theorem d_M_lift_48 : decode k_M_lift 48 = .ok (.getfield 90, 3) := by decide +kernel
theorem d_M_lift_51 : decode k_M_lift 51 = .ok (.ifCond .le 78, 3) := by decide +kernel
theorem d_M_lift_54 : decode k_M_lift 54 = .ok (.iload_n 1, 1) := by decide +kernel
theorem d_M_lift_55 : decode k_M_lift 55 = .ok (.ifCond .eq 74, 3) := by decide +kernel
theorem d_M_lift_58 : decode k_M_lift 58 = .ok (.aload_n 0, 1) := by decide +kernel
theorem d_M_lift_59 : decode k_M_lift 59 = .ok (.dup, 1) := by decide +kernel
theorem d_M_lift_60 : decode k_M_lift 60 = .ok (.getfield 90, 3) := by decide +kernel
theorem d_M_lift_63 : decode k_M_lift 63 = .ok (.iconst 1, 1) := by decide +kernel
theorem d_M_lift_64 : decode k_M_lift 64 = .ok (.isub, 1) := by decide +kernel
theorem d_M_lift_65 : decode k_M_lift 65 = .ok (.putfield 90, 3) := by decide +kernel
theorem d_M_lift_68 : decode k_M_lift 68 = .ok (.aload_n 0, 1) := by decide +kernel
theorem d_M_lift_69 : decode k_M_lift 69 = .ok (.getfield 32, 3) := by decide +kernel
theorem d_M_lift_72 : decode k_M_lift 72 = .ok (.aload_n 0, 1) := by decide +kernel
theorem d_M_lift_73 : decode k_M_lift 73 = .ok (.getfield 90, 3) := by decide +kernel
theorem d_M_lift_76 : decode k_M_lift 76 = .ok (.iaload, 1) := by decide +kernel
theorem d_M_lift_77 : decode k_M_lift 77 = .ok (.iconst 1, 1) := by decide +kernel
theorem d_M_lift_78 : decode k_M_lift 78 = .ok (.if_icmp .ne 19, 3) := by decide +kernel
theorem d_M_lift_81 : decode k_M_lift 81 = .ok (.aload_n 0, 1) := by decide +kernel
theorem d_M_lift_82 : decode k_M_lift 82 = .ok (.aload_n 0, 1) := by decide +kernel
theorem d_M_lift_83 : decode k_M_lift 83 = .ok (.getfield 35, 3) := by decide +kernel
theorem d_M_lift_86 : decode k_M_lift 86 = .ok (.aload_n 0, 1) := by decide +kernel
theorem d_M_lift_87 : decode k_M_lift 87 = .ok (.getfield 90, 3) := by decide +kernel
theorem d_M_lift_90 : decode k_M_lift 90 = .ok (.iaload, 1) := by decide +kernel
theorem d_M_lift_91 : decode k_M_lift 91 = .ok (.invokevirtual 97, 3) := by decide +kernel
theorem d_M_lift_94 : decode k_M_lift 94 = .ok (.goto (-47), 3) := by decide +kernel
theorem d_M_lift_97 : decode k_M_lift 97 = .ok (.aload_n 0, 1) := by decide +kernel
theorem d_M_lift_98 : decode k_M_lift 98 = .ok (.aload_n 0, 1) := by decide +kernel
theorem d_M_lift_99 : decode k_M_lift 99 = .ok (.getfield 35, 3) := by decide +kernel
theorem d_M_lift_102 : decode k_M_lift 102 = .ok (.aload_n 0, 1) := by decide +kernel
theorem d_M_lift_103 : decode k_M_lift 103 = .ok (.getfield 90, 3) := by decide +kernel
theorem d_M_lift_106 : decode k_M_lift 106 = .ok (.iaload, 1) := by decide +kernel
theorem d_M_lift_107 : decode k_M_lift 107 = .ok (.bipush 64, 2) := by decide +kernel
theorem d_M_lift_109 : decode k_M_lift 109 = .ok (.irem, 1) := by decide +kernel
theorem d_M_lift_110 : decode k_M_lift 110 = .ok (.aload_n 0, 1) := by decide +kernel
theorem d_M_lift_111 : decode k_M_lift 111 = .ok (.getfield 35, 3) := by decide +kernel
theorem d_M_lift_114 : decode k_M_lift 114 = .ok (.aload_n 0, 1) := by decide +kernel
theorem d_M_lift_115 : decode k_M_lift 115 = .ok (.getfield 90, 3) := by decide +kernel
theorem d_M_lift_118 : decode k_M_lift 118 = .ok (.iaload, 1) := by decide +kernel
theorem d_M_lift_119 : decode k_M_lift 119 = .ok (.bipush 64, 2) := by decide +kernel
theorem d_M_lift_121 : decode k_M_lift 121 = .ok (.idiv, 1) := by decide +kernel
theorem d_M_lift_122 : decode k_M_lift 122 = .ok (.invokevirtual 115, 3) := by decide +kernel
theorem d_M_lift_125 : decode k_M_lift 125 = .ok (.istore_n 1, 1) := by decide +kernel
theorem d_M_lift_126 : decode k_M_lift 126 = .ok (.goto (-79), 3) := by decide +kernel
theorem d_M_lift_129 : decode k_M_lift 129 = .ok (.iload_n 1, 1) := by decide +kernel
theorem d_M_lift_130 : decode k_M_lift 130 = .ok (.ifCond .ne 11, 3) := by decide +kernel
theorem d_M_lift_133 : decode k_M_lift 133 = .ok (.aload_n 0, 1) := by decide +kernel
theorem d_M_lift_134 : decode k_M_lift 134 = .ok (.iconst 0, 1) := by decide +kernel
theorem d_M_lift_135 : decode k_M_lift 135 = .ok (.putfield 87, 3) := by decide +kernel
theorem d_M_lift_138 : decode k_M_lift 138 = .ok (.bipush (-5), 2) := by decide +kernel
theorem d_M_lift_140 : decode k_M_lift 140 = .ok (.ireturn, 1) := by decide +kernel
theorem d_M_lift_141 : decode k_M_lift 141 = .ok (.aload_n 0, 1) := by decide +kernel
theorem d_M_lift_142 : decode k_M_lift 142 = .ok (.bipush (-2), 2) := by decide +kernel
theorem d_M_lift_144 : decode k_M_lift 144 = .ok (.putfield 28, 3) := by decide +kernel
theorem d_M_lift_147 : decode k_M_lift 147 = .ok (.aload_n 0, 1) := by decide +kernel
theorem d_M_lift_148 : decode k_M_lift 148 = .ok (.iconst 1, 1) := by decide +kernel
theorem d_M_lift_149 : decode k_M_lift 149 = .ok (.putfield 107, 3) := by decide +kernel
theorem d_M_lift_152 : decode k_M_lift 152 = .ok (.aload_n 0, 1) := by decide +kernel
theorem d_M_lift_153 : decode k_M_lift 153 = .ok (.getfield 87, 3) := by decide +kernel
theorem d_M_lift_156 : decode k_M_lift 156 = .ok (.ireturn, 1) := by decide +kernel
theorem d_M_text_0 : decode k_M_text 0 = .ok (.iload_n 1, 1) := by decide +kernel
theorem d_M_text_1 : decode k_M_text 1 = .ok (.iconst (-1), 1) := by decide +kernel
theorem d_M_text_2 : decode k_M_text 2 = .ok (.if_icmp .ne 10, 3) := by decide +kernel
theorem d_M_text_5 : decode k_M_text 5 = .ok (.aload_n 0, 1) := by decide +kernel
theorem d_M_text_6 : decode k_M_text 6 = .ok (.getfield 87, 3) := by decide +kernel
theorem d_M_text_9 : decode k_M_text 9 = .ok (.goto 28, 3) := by decide +kernel
theorem d_M_text_12 : decode k_M_text 12 = .ok (.iload_n 1, 1) := by decide +kernel
theorem d_M_text_13 : decode k_M_text 13 = .ok (.iconst 0, 1) := by decide +kernel
theorem d_M_text_14 : decode k_M_text 14 = .ok (.aload_n 0, 1) := by decide +kernel
theorem d_M_text_15 : decode k_M_text 15 = .ok (.getfield 87, 3) := by decide +kernel
theorem d_M_text_18 : decode k_M_text 18 = .ok (.iconst 1, 1) := by decide +kernel
theorem d_M_text_19 : decode k_M_text 19 = .ok (.isub, 1) := by decide +kernel
theorem d_M_text_20 : decode k_M_text 20 = .ok (.invokestatic 56, 3) := by decide +kernel
theorem d_M_text_23 : decode k_M_text 23 = .ok (.ifCond .eq 12, 3) := by decide +kernel
theorem d_M_text_26 : decode k_M_text 26 = .ok (.aload_n 0, 1) := by decide +kernel
theorem d_M_text_27 : decode k_M_text 27 = .ok (.getfield 25, 3) := by decide +kernel
theorem d_M_text_30 : decode k_M_text 30 = .ok (.iload_n 1, 1) := by decide +kernel
theorem d_M_text_31 : decode k_M_text 31 = .ok (.iaload, 1) := by decide +kernel
theorem d_M_text_32 : decode k_M_text 32 = .ok (.goto 5, 3) := by decide +kernel
theorem d_M_text_35 : decode k_M_text 35 = .ok (.bipush (-2), 2) := by decide +kernel
theorem d_M_text_37 : decode k_M_text 37 = .ok (.ireturn, 1) := by decide +kernel
theorem d_M_where_0 : decode k_M_where 0 = .ok (.aload_n 0, 1) := by decide +kernel
theorem d_M_where_1 : decode k_M_where 1 = .ok (.getfield 28, 3) := by decide +kernel
theorem d_M_where_4 : decode k_M_where 4 = .ok (.ireturn, 1) := by decide +kernel
theorem d_M_letter_0 : decode k_M_letter 0 = .ok (.iload_n 1, 1) := by decide +kernel
theorem d_M_letter_1 : decode k_M_letter 1 = .ok (.bipush 33, 2) := by decide +kernel
theorem d_M_letter_3 : decode k_M_letter 3 = .ok (.bipush 126, 2) := by decide +kernel
theorem d_M_letter_5 : decode k_M_letter 5 = .ok (.invokestatic 56, 3) := by decide +kernel
theorem d_M_letter_8 : decode k_M_letter 8 = .ok (.ifCond .ne 5, 3) := by decide +kernel
theorem d_M_letter_11 : decode k_M_letter 11 = .ok (.iconst (-1), 1) := by decide +kernel
theorem d_M_letter_12 : decode k_M_letter 12 = .ok (.ireturn, 1) := by decide +kernel
theorem d_M_letter_13 : decode k_M_letter 13 = .ok (.aload_n 0, 1) := by decide +kernel
theorem d_M_letter_14 : decode k_M_letter 14 = .ok (.getfield 74, 3) := by decide +kernel
theorem d_M_letter_17 : decode k_M_letter 17 = .ok (.bipush 120, 2) := by decide +kernel
theorem d_M_letter_19 : decode k_M_letter 19 = .ok (.if_icmp .ne 6, 3) := by decide +kernel
theorem d_M_letter_22 : decode k_M_letter 22 = .ok (.bipush (-3), 2) := by decide +kernel
theorem d_M_letter_24 : decode k_M_letter 24 = .ok (.ireturn, 1) := by decide +kernel
theorem d_M_letter_25 : decode k_M_letter 25 = .ok (.aload_n 0, 1) := by decide +kernel
theorem d_M_letter_26 : decode k_M_letter 26 = .ok (.getfield 22, 3) := by decide +kernel
theorem d_M_letter_29 : decode k_M_letter 29 = .ok (.aload_n 0, 1) := by decide +kernel
theorem d_M_letter_30 : decode k_M_letter 30 = .ok (.getfield 74, 3) := by decide +kernel
theorem d_M_letter_33 : decode k_M_letter 33 = .ok (.iload_n 1, 1) := by decide +kernel
theorem d_M_letter_34 : decode k_M_letter 34 = .ok (.iastore, 1) := by decide +kernel
theorem d_M_letter_35 : decode k_M_letter 35 = .ok (.aload_n 0, 1) := by decide +kernel
theorem d_M_letter_36 : decode k_M_letter 36 = .ok (.dup, 1) := by decide +kernel
theorem d_M_letter_37 : decode k_M_letter 37 = .ok (.getfield 74, 3) := by decide +kernel
theorem d_M_letter_40 : decode k_M_letter 40 = .ok (.iconst 1, 1) := by decide +kernel
theorem d_M_letter_41 : decode k_M_letter 41 = .ok (.iadd, 1) := by decide +kernel
theorem d_M_letter_42 : decode k_M_letter 42 = .ok (.putfield 74, 3) := by decide +kernel
theorem d_M_letter_45 : decode k_M_letter 45 = .ok (.aload_n 0, 1) := by decide +kernel
theorem d_M_letter_46 : decode k_M_letter 46 = .ok (.getfield 74, 3) := by decide +kernel
theorem d_M_letter_49 : decode k_M_letter 49 = .ok (.ireturn, 1) := by decide +kernel
theorem d_M_copy_0 : decode k_M_copy 0 = .ok (.aload_n 0, 1) := by decide +kernel
theorem d_M_copy_1 : decode k_M_copy 1 = .ok (.getfield 87, 3) := by decide +kernel
theorem d_M_copy_4 : decode k_M_copy 4 = .ok (.bipush 120, 2) := by decide +kernel
theorem d_M_copy_6 : decode k_M_copy 6 = .ok (.if_icmp .le 6, 3) := by decide +kernel
theorem d_M_copy_9 : decode k_M_copy 9 = .ok (.bipush (-3), 2) := by decide +kernel
theorem d_M_copy_11 : decode k_M_copy 11 = .ok (.ireturn, 1) := by decide +kernel
theorem d_M_copy_12 : decode k_M_copy 12 = .ok (.iconst 0, 1) := by decide +kernel
theorem d_M_copy_13 : decode k_M_copy 13 = .ok (.istore_n 1, 1) := by decide +kernel
theorem d_M_copy_14 : decode k_M_copy 14 = .ok (.iload_n 1, 1) := by decide +kernel
theorem d_M_copy_15 : decode k_M_copy 15 = .ok (.aload_n 0, 1) := by decide +kernel
theorem d_M_copy_16 : decode k_M_copy 16 = .ok (.getfield 87, 3) := by decide +kernel
theorem d_M_copy_19 : decode k_M_copy 19 = .ok (.if_icmp .ge 21, 3) := by decide +kernel
theorem d_M_copy_22 : decode k_M_copy 22 = .ok (.aload_n 0, 1) := by decide +kernel
theorem d_M_copy_23 : decode k_M_copy 23 = .ok (.getfield 22, 3) := by decide +kernel
theorem d_M_copy_26 : decode k_M_copy 26 = .ok (.iload_n 1, 1) := by decide +kernel
theorem d_M_copy_27 : decode k_M_copy 27 = .ok (.aload_n 0, 1) := by decide +kernel
theorem d_M_copy_28 : decode k_M_copy 28 = .ok (.getfield 25, 3) := by decide +kernel
theorem d_M_copy_31 : decode k_M_copy 31 = .ok (.iload_n 1, 1) := by decide +kernel
theorem d_M_copy_32 : decode k_M_copy 32 = .ok (.iaload, 1) := by decide +kernel
theorem d_M_copy_33 : decode k_M_copy 33 = .ok (.iastore, 1) := by decide +kernel
theorem d_M_copy_34 : decode k_M_copy 34 = .ok (.iinc 1 1, 3) := by decide +kernel
theorem d_M_copy_37 : decode k_M_copy 37 = .ok (.goto (-23), 3) := by decide +kernel
theorem d_M_copy_40 : decode k_M_copy 40 = .ok (.aload_n 0, 1) := by decide +kernel
theorem d_M_copy_41 : decode k_M_copy 41 = .ok (.aload_n 0, 1) := by decide +kernel
theorem d_M_copy_42 : decode k_M_copy 42 = .ok (.getfield 87, 3) := by decide +kernel
theorem d_M_copy_45 : decode k_M_copy 45 = .ok (.putfield 74, 3) := by decide +kernel
theorem d_M_copy_48 : decode k_M_copy 48 = .ok (.aload_n 0, 1) := by decide +kernel
theorem d_M_copy_49 : decode k_M_copy 49 = .ok (.getfield 87, 3) := by decide +kernel
theorem d_M_copy_52 : decode k_M_copy 52 = .ok (.ireturn, 1) := by decide +kernel
theorem d_M_emit_0 : decode k_M_emit 0 = .ok (.aload_n 0, 1) := by decide +kernel
theorem d_M_emit_1 : decode k_M_emit 1 = .ok (.getfield 16, 3) := by decide +kernel
theorem d_M_emit_4 : decode k_M_emit 4 = .ok (.aload_n 0, 1) := by decide +kernel
theorem d_M_emit_5 : decode k_M_emit 5 = .ok (.getfield 118, 3) := by decide +kernel
theorem d_M_emit_8 : decode k_M_emit 8 = .ok (.iload_n 1, 1) := by decide +kernel
theorem d_M_emit_9 : decode k_M_emit 9 = .ok (.iastore, 1) := by decide +kernel
theorem d_M_emit_10 : decode k_M_emit 10 = .ok (.aload_n 0, 1) := by decide +kernel
theorem d_M_emit_11 : decode k_M_emit 11 = .ok (.getfield 19, 3) := by decide +kernel
theorem d_M_emit_14 : decode k_M_emit 14 = .ok (.aload_n 0, 1) := by decide +kernel
theorem d_M_emit_15 : decode k_M_emit 15 = .ok (.getfield 118, 3) := by decide +kernel
theorem d_M_emit_18 : decode k_M_emit 18 = .ok (.iload_n 2, 1) := by decide +kernel
theorem d_M_emit_19 : decode k_M_emit 19 = .ok (.iastore, 1) := by decide +kernel
theorem d_M_emit_20 : decode k_M_emit 20 = .ok (.aload_n 0, 1) := by decide +kernel
theorem d_M_emit_21 : decode k_M_emit 21 = .ok (.dup, 1) := by decide +kernel
theorem d_M_emit_22 : decode k_M_emit 22 = .ok (.getfield 118, 3) := by decide +kernel
theorem d_M_emit_25 : decode k_M_emit 25 = .ok (.iconst 1, 1) := by decide +kernel
theorem d_M_emit_26 : decode k_M_emit 26 = .ok (.iadd, 1) := by decide +kernel
theorem d_M_emit_27 : decode k_M_emit 27 = .ok (.putfield 118, 3) := by decide +kernel
theorem d_M_emit_30 : decode k_M_emit 30 = .ok (.return_, 1) := by decide +kernel
theorem d_M_next_0 : decode k_M_next 0 = .ok (.aload_n 0, 1) := by decide +kernel
theorem d_M_next_1 : decode k_M_next 1 = .ok (.getfield 121, 3) := by decide +kernel
theorem d_M_next_4 : decode k_M_next 4 = .ok (.aload_n 0, 1) := by decide +kernel
theorem d_M_next_5 : decode k_M_next 5 = .ok (.getfield 74, 3) := by decide +kernel
theorem d_M_next_8 : decode k_M_next 8 = .ok (.if_icmp .ge 15, 3) := by decide +kernel
theorem d_M_next_11 : decode k_M_next 11 = .ok (.aload_n 0, 1) := by decide +kernel
theorem d_M_next_12 : decode k_M_next 12 = .ok (.getfield 22, 3) := by decide +kernel
theorem d_M_next_15 : decode k_M_next 15 = .ok (.aload_n 0, 1) := by decide +kernel
theorem d_M_next_16 : decode k_M_next 16 = .ok (.getfield 121, 3) := by decide +kernel
theorem d_M_next_19 : decode k_M_next 19 = .ok (.iaload, 1) := by decide +kernel
theorem d_M_next_20 : decode k_M_next 20 = .ok (.goto 4, 3) := by decide +kernel
theorem d_M_next_23 : decode k_M_next 23 = .ok (.iconst (-1), 1) := by decide +kernel
theorem d_M_next_24 : decode k_M_next 24 = .ok (.ireturn, 1) := by decide +kernel
theorem d_M_isDigit_0 : decode k_M_isDigit 0 = .ok (.iload_n 0, 1) := by decide +kernel
theorem d_M_isDigit_1 : decode k_M_isDigit 1 = .ok (.bipush 48, 2) := by decide +kernel
theorem d_M_isDigit_3 : decode k_M_isDigit 3 = .ok (.bipush 57, 2) := by decide +kernel
theorem d_M_isDigit_5 : decode k_M_isDigit 5 = .ok (.invokestatic 56, 3) := by decide +kernel
theorem d_M_isDigit_8 : decode k_M_isDigit 8 = .ok (.ireturn, 1) := by decide +kernel
theorem d_M_isLetter_0 : decode k_M_isLetter 0 = .ok (.iload_n 0, 1) := by decide +kernel
theorem d_M_isLetter_1 : decode k_M_isLetter 1 = .ok (.bipush 97, 2) := by decide +kernel
theorem d_M_isLetter_3 : decode k_M_isLetter 3 = .ok (.bipush 102, 2) := by decide +kernel
theorem d_M_isLetter_5 : decode k_M_isLetter 5 = .ok (.invokestatic 56, 3) := by decide +kernel
theorem d_M_isLetter_8 : decode k_M_isLetter 8 = .ok (.ireturn, 1) := by decide +kernel
theorem d_M_list_0 : decode k_M_list 0 = .ok (.aload_n 0, 1) := by decide +kernel
theorem d_M_list_1 : decode k_M_list 1 = .ok (.invokevirtual 124, 3) := by decide +kernel
theorem d_M_list_4 : decode k_M_list 4 = .ok (.istore_n 2, 1) := by decide +kernel
theorem d_M_list_5 : decode k_M_list 5 = .ok (.iload_n 2, 1) := by decide +kernel
theorem d_M_list_6 : decode k_M_list 6 = .ok (.ifCond .ge 13, 3) := by decide +kernel
theorem d_M_list_9 : decode k_M_list 9 = .ok (.iload_n 1, 1) := by decide +kernel
theorem d_M_list_10 : decode k_M_list 10 = .ok (.ifCond .ne 7, 3) := by decide +kernel
theorem d_M_list_13 : decode k_M_list 13 = .ok (.iconst 1, 1) := by decide +kernel
theorem d_M_list_14 : decode k_M_list 14 = .ok (.goto 4, 3) := by decide +kernel
theorem d_M_list_17 : decode k_M_list 17 = .ok (.iconst 0, 1) := by decide +kernel
theorem d_M_list_18 : decode k_M_list 18 = .ok (.ireturn, 1) := by decide +kernel
theorem d_M_list_19 : decode k_M_list 19 = .ok (.iload_n 2, 1) := by decide +kernel
theorem d_M_list_20 : decode k_M_list 20 = .ok (.bipush 125, 2) := by decide +kernel
theorem d_M_list_22 : decode k_M_list 22 = .ok (.if_icmp .ne 9, 3) := by decide +kernel
theorem d_M_list_25 : decode k_M_list 25 = .ok (.iload_n 1, 1) := by decide +kernel
theorem d_M_list_26 : decode k_M_list 26 = .ok (.ifCond .le 5, 3) := by decide +kernel
theorem d_M_list_29 : decode k_M_list 29 = .ok (.iconst 1, 1) := by decide +kernel
theorem d_M_list_30 : decode k_M_list 30 = .ok (.ireturn, 1) := by decide +kernel
theorem d_M_list_31 : decode k_M_list 31 = .ok (.iload_n 1, 1) := by decide +kernel
theorem d_M_list_32 : decode k_M_list 32 = .ok (.iconst 5, 1) := by decide +kernel
theorem d_M_list_33 : decode k_M_list 33 = .ok (.if_icmp .gt 28, 3) := by decide +kernel
theorem d_M_list_36 : decode k_M_list 36 = .ok (.iload_n 2, 1) := by decide +kernel
theorem d_M_list_37 : decode k_M_list 37 = .ok (.invokestatic 127, 3) := by decide +kernel
theorem d_M_list_40 : decode k_M_list 40 = .ok (.ifCond .ne 23, 3) := by decide +kernel
theorem d_M_list_43 : decode k_M_list 43 = .ok (.iload_n 2, 1) := by decide +kernel
theorem d_M_list_44 : decode k_M_list 44 = .ok (.bipush 35, 2) := by decide +kernel
theorem d_M_list_46 : decode k_M_list 46 = .ok (.if_icmp .eq 17, 3) := by decide +kernel
theorem d_M_list_49 : decode k_M_list 49 = .ok (.iload_n 2, 1) := by decide +kernel
theorem d_M_list_50 : decode k_M_list 50 = .ok (.bipush 64, 2) := by decide +kernel
theorem d_M_list_52 : decode k_M_list 52 = .ok (.if_icmp .eq 11, 3) := by decide +kernel
theorem d_M_list_55 : decode k_M_list 55 = .ok (.iload_n 2, 1) := by decide +kernel
theorem d_M_list_56 : decode k_M_list 56 = .ok (.bipush 63, 2) := by decide +kernel
theorem d_M_list_58 : decode k_M_list 58 = .ok (.if_icmp .eq 5, 3) := by decide +kernel
theorem d_M_list_61 : decode k_M_list 61 = .ok (.iconst 0, 1) := by decide +kernel
theorem d_M_list_62 : decode k_M_list 62 = .ok (.ireturn, 1) := by decide +kernel
theorem d_M_list_63 : decode k_M_list 63 = .ok (.aload_n 0, 1) := by decide +kernel
theorem d_M_list_64 : decode k_M_list 64 = .ok (.dup, 1) := by decide +kernel
theorem d_M_list_65 : decode k_M_list 65 = .ok (.getfield 121, 3) := by decide +kernel
theorem d_M_list_68 : decode k_M_list 68 = .ok (.iconst 1, 1) := by decide +kernel
theorem d_M_list_69 : decode k_M_list 69 = .ok (.iadd, 1) := by decide +kernel
theorem d_M_list_70 : decode k_M_list 70 = .ok (.putfield 121, 3) := by decide +kernel
theorem d_M_list_73 : decode k_M_list 73 = .ok (.aload_n 0, 1) := by decide +kernel
theorem d_M_list_74 : decode k_M_list 74 = .ok (.iconst 0, 1) := by decide +kernel
theorem d_M_list_75 : decode k_M_list 75 = .ok (.iload_n 1, 1) := by decide +kernel
theorem d_M_list_76 : decode k_M_list 76 = .ok (.invokevirtual 93, 3) := by decide +kernel
theorem d_M_list_79 : decode k_M_list 79 = .ok (.iload_n 2, 1) := by decide +kernel
theorem d_M_list_80 : decode k_M_list 80 = .ok (.invokestatic 127, 3) := by decide +kernel
theorem d_M_list_83 : decode k_M_list 83 = .ok (.ifCond .ne 9, 3) := by decide +kernel
theorem d_M_list_86 : decode k_M_list 86 = .ok (.iload_n 2, 1) := by decide +kernel
theorem d_M_list_87 : decode k_M_list 87 = .ok (.bipush 35, 2) := by decide +kernel
theorem d_M_list_89 : decode k_M_list 89 = .ok (.if_icmp .ne 57, 3) := by decide +kernel
theorem d_M_list_92 : decode k_M_list 92 = .ok (.aload_n 0, 1) := by decide +kernel
theorem d_M_list_93 : decode k_M_list 93 = .ok (.iconst 4, 1) := by decide +kernel
theorem d_M_list_94 : decode k_M_list 94 = .ok (.iload_n 2, 1) := by decide +kernel
theorem d_M_list_95 : decode k_M_list 95 = .ok (.invokestatic 127, 3) := by decide +kernel
theorem d_M_list_98 : decode k_M_list 98 = .ok (.ifCond .eq 15, 3) := by decide +kernel
theorem d_M_list_101 : decode k_M_list 101 = .ok (.iconst 2, 1) := by decide +kernel
theorem d_M_list_102 : decode k_M_list 102 = .ok (.bipush 16, 2) := by decide +kernel
theorem d_M_list_104 : decode k_M_list 104 = .ok (.iload_n 2, 1) := by decide +kernel
theorem d_M_list_105 : decode k_M_list 105 = .ok (.bipush 97, 2) := by decide +kernel
theorem d_M_list_107 : decode k_M_list 107 = .ok (.isub, 1) := by decide +kernel
theorem d_M_list_108 : decode k_M_list 108 = .ok (.imul, 1) := by decide +kernel
theorem d_M_list_109 : decode k_M_list 109 = .ok (.iadd, 1) := by decide +kernel
theorem d_M_list_110 : decode k_M_list 110 = .ok (.goto 5, 3) := by decide +kernel
theorem d_M_list_113 : decode k_M_list 113 = .ok (.bipush 10, 2) := by decide +kernel
theorem d_M_list_115 : decode k_M_list 115 = .ok (.invokevirtual 93, 3) := by decide +kernel
theorem d_M_list_118 : decode k_M_list 118 = .ok (.aload_n 0, 1) := by decide +kernel
theorem d_M_list_119 : decode k_M_list 119 = .ok (.iconst 1, 1) := by decide +kernel
theorem d_M_list_120 : decode k_M_list 120 = .ok (.bipush 59, 2) := by decide +kernel
theorem d_M_list_122 : decode k_M_list 122 = .ok (.invokevirtual 93, 3) := by decide +kernel
theorem d_M_list_125 : decode k_M_list 125 = .ok (.aload_n 0, 1) := by decide +kernel
theorem d_M_list_126 : decode k_M_list 126 = .ok (.iconst 2, 1) := by decide +kernel
theorem d_M_list_127 : decode k_M_list 127 = .ok (.iconst 0, 1) := by decide +kernel
theorem d_M_list_128 : decode k_M_list 128 = .ok (.invokevirtual 93, 3) := by decide +kernel
theorem d_M_list_131 : decode k_M_list 131 = .ok (.iload_n 2, 1) := by decide +kernel
theorem d_M_list_132 : decode k_M_list 132 = .ok (.bipush 35, 2) := by decide +kernel
theorem d_M_list_134 : decode k_M_list 134 = .ok (.if_icmp .eq 10, 3) := by decide +kernel
theorem d_M_list_137 : decode k_M_list 137 = .ok (.aload_n 0, 1) := by decide +kernel
theorem d_M_list_138 : decode k_M_list 138 = .ok (.iconst 1, 1) := by decide +kernel
theorem d_M_list_139 : decode k_M_list 139 = .ok (.bipush 61, 2) := by decide +kernel
theorem d_M_list_141 : decode k_M_list 141 = .ok (.invokevirtual 93, 3) := by decide +kernel
theorem d_M_list_144 : decode k_M_list 144 = .ok (.iconst 1, 1) := by decide +kernel
theorem d_M_list_145 : decode k_M_list 145 = .ok (.ireturn, 1) := by decide +kernel
theorem d_M_list_146 : decode k_M_list 146 = .ok (.aload_n 0, 1) := by decide +kernel
theorem d_M_list_147 : decode k_M_list 147 = .ok (.iload_n 2, 1) := by decide +kernel
theorem d_M_list_148 : decode k_M_list 148 = .ok (.bipush 64, 2) := by decide +kernel
theorem d_M_list_150 : decode k_M_list 150 = .ok (.if_icmp .ne 8, 3) := by decide +kernel
theorem d_M_list_153 : decode k_M_list 153 = .ok (.bipush 6, 2) := by decide +kernel
theorem d_M_list_155 : decode k_M_list 155 = .ok (.goto 5, 3) := by decide +kernel
theorem d_M_list_158 : decode k_M_list 158 = .ok (.bipush 7, 2) := by decide +kernel
theorem d_M_list_160 : decode k_M_list 160 = .ok (.iload_n 2, 1) := by decide +kernel
theorem d_M_list_161 : decode k_M_list 161 = .ok (.bipush 64, 2) := by decide +kernel
theorem d_M_list_163 : decode k_M_list 163 = .ok (.if_icmp .ne 10, 3) := by decide +kernel
theorem d_M_list_166 : decode k_M_list 166 = .ok (.aload_n 0, 1) := by decide +kernel
theorem d_M_list_167 : decode k_M_list 167 = .ok (.getfield 118, 3) := by decide +kernel
theorem d_M_list_170 : decode k_M_list 170 = .ok (.goto 4, 3) := by decide +kernel
theorem d_M_list_173 : decode k_M_list 173 = .ok (.iload_n 1, 1) := by decide +kernel
theorem d_M_list_174 : decode k_M_list 174 = .ok (.invokevirtual 93, 3) := by decide +kernel
theorem d_M_list_177 : decode k_M_list 177 = .ok (.aload_n 0, 1) := by decide +kernel
theorem d_M_list_178 : decode k_M_list 178 = .ok (.iconst 1, 1) := by decide +kernel
theorem d_M_list_179 : decode k_M_list 179 = .ok (.bipush 125, 2) := by decide +kernel
theorem d_M_list_181 : decode k_M_list 181 = .ok (.invokevirtual 93, 3) := by decide +kernel
theorem d_M_list_184 : decode k_M_list 184 = .ok (.aload_n 0, 1) := by decide +kernel
theorem d_M_list_185 : decode k_M_list 185 = .ok (.iconst 0, 1) := by decide +kernel
theorem d_M_list_186 : decode k_M_list 186 = .ok (.iload_n 1, 1) := by decide +kernel
theorem d_M_list_187 : decode k_M_list 187 = .ok (.iconst 1, 1) := by decide +kernel
theorem d_M_list_188 : decode k_M_list 188 = .ok (.iadd, 1) := by decide +kernel
theorem d_M_list_189 : decode k_M_list 189 = .ok (.invokevirtual 93, 3) := by decide +kernel
theorem d_M_list_192 : decode k_M_list 192 = .ok (.aload_n 0, 1) := by decide +kernel
theorem d_M_list_193 : decode k_M_list 193 = .ok (.iconst 5, 1) := by decide +kernel
theorem d_M_list_194 : decode k_M_list 194 = .ok (.bipush 9, 2) := by decide +kernel
theorem d_M_list_196 : decode k_M_list 196 = .ok (.invokevirtual 93, 3) := by decide +kernel
theorem d_M_list_199 : decode k_M_list 199 = .ok (.aload_n 0, 1) := by decide +kernel
theorem d_M_list_200 : decode k_M_list 200 = .ok (.iconst 1, 1) := by decide +kernel
theorem d_M_list_201 : decode k_M_list 201 = .ok (.bipush 123, 2) := by decide +kernel
theorem d_M_list_203 : decode k_M_list 203 = .ok (.invokevirtual 93, 3) := by decide +kernel
theorem d_M_list_206 : decode k_M_list 206 = .ok (.aload_n 0, 1) := by decide +kernel
theorem d_M_list_207 : decode k_M_list 207 = .ok (.iconst 2, 1) := by decide +kernel
theorem d_M_list_208 : decode k_M_list 208 = .ok (.iconst 0, 1) := by decide +kernel
theorem d_M_list_209 : decode k_M_list 209 = .ok (.invokevirtual 93, 3) := by decide +kernel
theorem d_M_list_212 : decode k_M_list 212 = .ok (.iconst 1, 1) := by decide +kernel
theorem d_M_list_213 : decode k_M_list 213 = .ok (.ireturn, 1) := by decide +kernel
