theorem d_Tree_grow_0 : decode k_Tree_grow 0 = .ok (.iconst (-1), 1) := by decide +kernel
theorem d_Tree_grow_1 : decode k_Tree_grow 1 = .ok (.istore 4, 2) := by decide +kernel
theorem d_Tree_grow_3 : decode k_Tree_grow 3 = .ok (.iconst (-1), 1) := by decide +kernel
theorem d_Tree_grow_4 : decode k_Tree_grow 4 = .ok (.istore 5, 2) := by decide +kernel
theorem d_Tree_grow_6 : decode k_Tree_grow 6 = .ok (.iload_n 1, 1) := by decide +kernel
theorem d_Tree_grow_7 : decode k_Tree_grow 7 = .ok (.istore 6, 2) := by decide +kernel
theorem d_Tree_grow_9 : decode k_Tree_grow 9 = .ok (.iconst 0, 1) := by decide +kernel
theorem d_Tree_grow_10 : decode k_Tree_grow 10 = .ok (.istore 7, 2) := by decide +kernel
theorem d_Tree_grow_12 : decode k_Tree_grow 12 = .ok (.iload 7, 2) := by decide +kernel
theorem d_Tree_grow_14 : decode k_Tree_grow 14 = .ok (.bipush 15, 2) := by decide +kernel
theorem d_Tree_grow_16 : decode k_Tree_grow 16 = .ok (.if_icmp .ge 69, 3) := by decide +kernel
theorem d_Tree_grow_19 : decode k_Tree_grow 19 = .ok (.iload 6, 2) := by decide +kernel
theorem d_Tree_grow_21 : decode k_Tree_grow 21 = .ok (.iload_n 2, 1) := by decide +kernel
theorem d_Tree_grow_22 : decode k_Tree_grow 22 = .ok (.if_icmp .ge 63, 3) := by decide +kernel
theorem d_Tree_grow_25 : decode k_Tree_grow 25 = .ok (.aload_n 0, 1) := by decide +kernel
theorem d_Tree_grow_26 : decode k_Tree_grow 26 = .ok (.iload 6, 2) := by decide +kernel
theorem d_Tree_grow_28 : decode k_Tree_grow 28 = .ok (.iload_n 2, 1) := by decide +kernel
theorem d_Tree_grow_29 : decode k_Tree_grow 29 = .ok (.iload_n 3, 1) := by decide +kernel
theorem d_Tree_grow_30 : decode k_Tree_grow 30 = .ok (.invokevirtual 73, 3) := by decide +kernel
theorem d_Tree_grow_33 : decode k_Tree_grow 33 = .ok (.istore 8, 2) := by decide +kernel
theorem d_Tree_grow_35 : decode k_Tree_grow 35 = .ok (.iload 8, 2) := by decide +kernel
theorem d_Tree_grow_37 : decode k_Tree_grow 37 = .ok (.iconst (-1), 1) := by decide +kernel
theorem d_Tree_grow_38 : decode k_Tree_grow 38 = .ok (.if_icmp .ne 6, 3) := by decide +kernel
theorem d_Tree_grow_41 : decode k_Tree_grow 41 = .ok (.goto 44, 3) := by decide +kernel
theorem d_Tree_grow_44 : decode k_Tree_grow 44 = .ok (.iload 5, 2) := by decide +kernel
theorem d_Tree_grow_46 : decode k_Tree_grow 46 = .ok (.iconst (-1), 1) := by decide +kernel
theorem d_Tree_grow_47 : decode k_Tree_grow 47 = .ok (.if_icmp .ne 10, 3) := by decide +kernel
theorem d_Tree_grow_50 : decode k_Tree_grow 50 = .ok (.iload 8, 2) := by decide +kernel
theorem d_Tree_grow_52 : decode k_Tree_grow 52 = .ok (.istore 4, 2) := by decide +kernel
theorem d_Tree_grow_54 : decode k_Tree_grow 54 = .ok (.goto 12, 3) := by decide +kernel
theorem d_Tree_grow_57 : decode k_Tree_grow 57 = .ok (.aload_n 0, 1) := by decide +kernel
theorem d_Tree_grow_58 : decode k_Tree_grow 58 = .ok (.getfield 39, 3) := by decide +kernel
theorem d_Tree_grow_61 : decode k_Tree_grow 61 = .ok (.iload 5, 2) := by decide +kernel
theorem d_Tree_grow_63 : decode k_Tree_grow 63 = .ok (.iload 8, 2) := by decide +kernel
theorem d_Tree_grow_65 : decode k_Tree_grow 65 = .ok (.iastore, 1) := by decide +kernel
theorem d_Tree_grow_66 : decode k_Tree_grow 66 = .ok (.iload 8, 2) := by decide +kernel
theorem d_Tree_grow_68 : decode k_Tree_grow 68 = .ok (.istore 5, 2) := by decide +kernel
theorem d_Tree_grow_70 : decode k_Tree_grow 70 = .ok (.aload_n 0, 1) := by decide +kernel
theorem d_Tree_grow_71 : decode k_Tree_grow 71 = .ok (.getfield 30, 3) := by decide +kernel
theorem d_Tree_grow_74 : decode k_Tree_grow 74 = .ok (.iload 8, 2) := by decide +kernel
theorem d_Tree_grow_76 : decode k_Tree_grow 76 = .ok (.iaload, 1) := by decide +kernel
theorem d_Tree_grow_77 : decode k_Tree_grow 77 = .ok (.istore 6, 2) := by decide +kernel
theorem d_Tree_grow_79 : decode k_Tree_grow 79 = .ok (.iinc 7 1, 3) := by decide +kernel
theorem d_Tree_grow_82 : decode k_Tree_grow 82 = .ok (.goto (-70), 3) := by decide +kernel
theorem d_Tree_grow_85 : decode k_Tree_grow 85 = .ok (.iload 4, 2) := by decide +kernel
theorem d_Tree_grow_87 : decode k_Tree_grow 87 = .ok (.ireturn, 1) := by decide +kernel
theorem d_Tree_growStatement_0 : decode k_Tree_growStatement 0 = .ok (.aload_n 0, 1) := by decide +kernel
theorem d_Tree_growStatement_1 : decode k_Tree_growStatement 1 = .ok (.getfield 52, 3) := by decide +kernel
theorem d_Tree_growStatement_4 : decode k_Tree_growStatement 4 = .ok (.bipush (-2), 2) := by decide +kernel
theorem d_Tree_growStatement_6 : decode k_Tree_growStatement 6 = .ok (.if_icmp .eq 5, 3) := by decide +kernel
theorem d_Tree_growStatement_9 : decode k_Tree_growStatement 9 = .ok (.iconst (-1), 1) := by decide +kernel
theorem d_Tree_growStatement_10 : decode k_Tree_growStatement 10 = .ok (.ireturn, 1) := by decide +kernel
theorem d_Tree_growStatement_11 : decode k_Tree_growStatement 11 = .ok (.aload_n 0, 1) := by decide +kernel
theorem d_Tree_growStatement_12 : decode k_Tree_growStatement 12 = .ok (.iload_n 1, 1) := by decide +kernel
theorem d_Tree_growStatement_13 : decode k_Tree_growStatement 13 = .ok (.invokevirtual 76, 3) := by decide +kernel
theorem d_Tree_growStatement_16 : decode k_Tree_growStatement 16 = .ok (.istore 4, 2) := by decide +kernel
theorem d_Tree_growStatement_18 : decode k_Tree_growStatement 18 = .ok (.aload_n 0, 1) := by decide +kernel
theorem d_Tree_growStatement_19 : decode k_Tree_growStatement 19 = .ok (.getfield 14, 3) := by decide +kernel
theorem d_Tree_growStatement_22 : decode k_Tree_growStatement 22 = .ok (.iload 4, 2) := by decide +kernel
theorem d_Tree_growStatement_24 : decode k_Tree_growStatement 24 = .ok (.invokevirtual 80, 3) := by decide +kernel
theorem d_Tree_growStatement_27 : decode k_Tree_growStatement 27 = .ok (.istore 5, 2) := by decide +kernel
theorem d_Tree_growStatement_29 : decode k_Tree_growStatement 29 = .ok (.iload 5, 2) := by decide +kernel
theorem d_Tree_growStatement_31 : decode k_Tree_growStatement 31 = .ok (.bipush 9, 2) := by decide +kernel
theorem d_Tree_growStatement_33 : decode k_Tree_growStatement 33 = .ok (.if_icmp .ne 13, 3) := by decide +kernel
theorem d_Tree_growStatement_36 : decode k_Tree_growStatement 36 = .ok (.aload_n 0, 1) := by decide +kernel
theorem d_Tree_growStatement_37 : decode k_Tree_growStatement 37 = .ok (.iload_n 1, 1) := by decide +kernel
theorem d_Tree_growStatement_38 : decode k_Tree_growStatement 38 = .ok (.iload 4, 2) := by decide +kernel
theorem d_Tree_growStatement_40 : decode k_Tree_growStatement 40 = .ok (.iload_n 2, 1) := by decide +kernel
theorem d_Tree_growStatement_41 : decode k_Tree_growStatement 41 = .ok (.iload_n 3, 1) := by decide +kernel
theorem d_Tree_growStatement_42 : decode k_Tree_growStatement 42 = .ok (.invokevirtual 83, 3) := by decide +kernel
theorem d_Tree_growStatement_45 : decode k_Tree_growStatement 45 = .ok (.ireturn, 1) := by decide +kernel
theorem d_Tree_growStatement_46 : decode k_Tree_growStatement 46 = .ok (.iload 5, 2) := by decide +kernel
theorem d_Tree_growStatement_48 : decode k_Tree_growStatement 48 = .ok (.iconst 2, 1) := by decide +kernel
theorem d_Tree_growStatement_49 : decode k_Tree_growStatement 49 = .ok (.if_icmp .eq 10, 3) := by decide +kernel
theorem d_Tree_growStatement_52 : decode k_Tree_growStatement 52 = .ok (.iload 5, 2) := by decide +kernel
theorem d_Tree_growStatement_54 : decode k_Tree_growStatement 54 = .ok (.bipush 10, 2) := by decide +kernel
theorem d_Tree_growStatement_56 : decode k_Tree_growStatement 56 = .ok (.if_icmp .ne 20, 3) := by decide +kernel
theorem d_Tree_growStatement_59 : decode k_Tree_growStatement 59 = .ok (.aload_n 0, 1) := by decide +kernel
theorem d_Tree_growStatement_60 : decode k_Tree_growStatement 60 = .ok (.iload 5, 2) := by decide +kernel
theorem d_Tree_growStatement_62 : decode k_Tree_growStatement 62 = .ok (.iload_n 1, 1) := by decide +kernel
theorem d_Tree_growStatement_63 : decode k_Tree_growStatement 63 = .ok (.iload 4, 2) := by decide +kernel
theorem d_Tree_growStatement_65 : decode k_Tree_growStatement 65 = .ok (.iload 4, 2) := by decide +kernel
theorem d_Tree_growStatement_67 : decode k_Tree_growStatement 67 = .ok (.iconst 1, 1) := by decide +kernel
theorem d_Tree_growStatement_68 : decode k_Tree_growStatement 68 = .ok (.iadd, 1) := by decide +kernel
theorem d_Tree_growStatement_69 : decode k_Tree_growStatement 69 = .ok (.iload_n 3, 1) := by decide +kernel
theorem d_Tree_growStatement_70 : decode k_Tree_growStatement 70 = .ok (.invokevirtual 87, 3) := by decide +kernel
theorem d_Tree_growStatement_73 : decode k_Tree_growStatement 73 = .ok (.goto 9, 3) := by decide +kernel
theorem d_Tree_growStatement_76 : decode k_Tree_growStatement 76 = .ok (.aload_n 0, 1) := by decide +kernel
theorem d_Tree_growStatement_77 : decode k_Tree_growStatement 77 = .ok (.iload 4, 2) := by decide +kernel
theorem d_Tree_growStatement_79 : decode k_Tree_growStatement 79 = .ok (.invokevirtual 91, 3) := by decide +kernel
theorem d_Tree_growStatement_82 : decode k_Tree_growStatement 82 = .ok (.ireturn, 1) := by decide +kernel
theorem d_Tree_growBranch_0 : decode k_Tree_growBranch 0 = .ok (.aload_n 0, 1) := by decide +kernel
theorem d_Tree_growBranch_1 : decode k_Tree_growBranch 1 = .ok (.getfield 14, 3) := by decide +kernel
theorem d_Tree_growBranch_4 : decode k_Tree_growBranch 4 = .ok (.iload_n 2, 1) := by decide +kernel
theorem d_Tree_growBranch_5 : decode k_Tree_growBranch 5 = .ok (.invokevirtual 94, 3) := by decide +kernel
theorem d_Tree_growBranch_8 : decode k_Tree_growBranch 8 = .ok (.istore 5, 2) := by decide +kernel
theorem d_Tree_growBranch_10 : decode k_Tree_growBranch 10 = .ok (.iload 5, 2) := by decide +kernel
theorem d_Tree_growBranch_12 : decode k_Tree_growBranch 12 = .ok (.iload_n 2, 1) := by decide +kernel
theorem d_Tree_growBranch_13 : decode k_Tree_growBranch 13 = .ok (.if_icmp .le 9, 3) := by decide +kernel
theorem d_Tree_growBranch_16 : decode k_Tree_growBranch 16 = .ok (.iload 5, 2) := by decide +kernel
theorem d_Tree_growBranch_18 : decode k_Tree_growBranch 18 = .ok (.iload_n 3, 1) := by decide +kernel
theorem d_Tree_growBranch_19 : decode k_Tree_growBranch 19 = .ok (.if_icmp .le 9, 3) := by decide +kernel
theorem d_Tree_growBranch_22 : decode k_Tree_growBranch 22 = .ok (.aload_n 0, 1) := by decide +kernel
theorem d_Tree_growBranch_23 : decode k_Tree_growBranch 23 = .ok (.iload_n 2, 1) := by decide +kernel
theorem d_Tree_growBranch_24 : decode k_Tree_growBranch 24 = .ok (.invokevirtual 91, 3) := by decide +kernel
theorem d_Tree_growBranch_27 : decode k_Tree_growBranch 27 = .ok (.ireturn, 1) := by decide +kernel
theorem d_Tree_growBranch_28 : decode k_Tree_growBranch 28 = .ok (.iload 5, 2) := by decide +kernel
theorem d_Tree_growBranch_30 : decode k_Tree_growBranch 30 = .ok (.iconst 1, 1) := by decide +kernel
theorem d_Tree_growBranch_31 : decode k_Tree_growBranch 31 = .ok (.isub, 1) := by decide +kernel
theorem d_Tree_growBranch_32 : decode k_Tree_growBranch 32 = .ok (.istore 6, 2) := by decide +kernel
theorem d_Tree_growBranch_34 : decode k_Tree_growBranch 34 = .ok (.iload 6, 2) := by decide +kernel
theorem d_Tree_growBranch_36 : decode k_Tree_growBranch 36 = .ok (.iload_n 2, 1) := by decide +kernel
theorem d_Tree_growBranch_37 : decode k_Tree_growBranch 37 = .ok (.if_icmp .le 21, 3) := by decide +kernel
theorem d_Tree_growBranch_40 : decode k_Tree_growBranch 40 = .ok (.aload_n 0, 1) := by decide +kernel
theorem d_Tree_growBranch_41 : decode k_Tree_growBranch 41 = .ok (.getfield 14, 3) := by decide +kernel
theorem d_Tree_growBranch_44 : decode k_Tree_growBranch 44 = .ok (.iload 6, 2) := by decide +kernel
theorem d_Tree_growBranch_46 : decode k_Tree_growBranch 46 = .ok (.invokevirtual 80, 3) := by decide +kernel
theorem d_Tree_growBranch_49 : decode k_Tree_growBranch 49 = .ok (.bipush 8, 2) := by decide +kernel
theorem d_Tree_growBranch_51 : decode k_Tree_growBranch 51 = .ok (.if_icmp .ne 7, 3) := by decide +kernel
theorem d_Tree_growBranch_54 : decode k_Tree_growBranch 54 = .ok (.iconst 1, 1) := by decide +kernel
theorem d_Tree_growBranch_55 : decode k_Tree_growBranch 55 = .ok (.goto 4, 3) := by decide +kernel
theorem d_Tree_growBranch_58 : decode k_Tree_growBranch 58 = .ok (.iconst 0, 1) := by decide +kernel
theorem d_Tree_growBranch_59 : decode k_Tree_growBranch 59 = .ok (.istore 7, 2) := by decide +kernel
theorem d_Tree_growBranch_61 : decode k_Tree_growBranch 61 = .ok (.iload 7, 2) := by decide +kernel
theorem d_Tree_growBranch_63 : decode k_Tree_growBranch 63 = .ok (.ifCond .eq 15, 3) := by decide +kernel
theorem d_Tree_growBranch_66 : decode k_Tree_growBranch 66 = .ok (.aload_n 0, 1) := by decide +kernel
theorem d_Tree_growBranch_67 : decode k_Tree_growBranch 67 = .ok (.getfield 14, 3) := by decide +kernel
theorem d_Tree_growBranch_70 : decode k_Tree_growBranch 70 = .ok (.iload 6, 2) := by decide +kernel
theorem d_Tree_growBranch_72 : decode k_Tree_growBranch 72 = .ok (.invokevirtual 94, 3) := by decide +kernel
theorem d_Tree_growBranch_75 : decode k_Tree_growBranch 75 = .ok (.goto 4, 3) := by decide +kernel
theorem d_Tree_growBranch_78 : decode k_Tree_growBranch 78 = .ok (.iconst (-1), 1) := by decide +kernel
theorem d_Tree_growBranch_79 : decode k_Tree_growBranch 79 = .ok (.istore 8, 2) := by decide +kernel
theorem d_Tree_growBranch_81 : decode k_Tree_growBranch 81 = .ok (.iload 7, 2) := by decide +kernel
theorem d_Tree_growBranch_83 : decode k_Tree_growBranch 83 = .ok (.ifCond .eq 13, 3) := by decide +kernel
theorem d_Tree_growBranch_86 : decode k_Tree_growBranch 86 = .ok (.iload 8, 2) := by decide +kernel
theorem d_Tree_growBranch_88 : decode k_Tree_growBranch 88 = .ok (.iload_n 1, 1) := by decide +kernel
theorem d_Tree_growBranch_89 : decode k_Tree_growBranch 89 = .ok (.if_icmp .ne 7, 3) := by decide +kernel
theorem d_Tree_growBranch_92 : decode k_Tree_growBranch 92 = .ok (.iconst 1, 1) := by decide +kernel
theorem d_Tree_growBranch_93 : decode k_Tree_growBranch 93 = .ok (.goto 4, 3) := by decide +kernel
theorem d_Tree_growBranch_96 : decode k_Tree_growBranch 96 = .ok (.iconst 0, 1) := by decide +kernel
theorem d_Tree_growBranch_97 : decode k_Tree_growBranch 97 = .ok (.istore 9, 2) := by decide +kernel
theorem d_Tree_growBranch_99 : decode k_Tree_growBranch 99 = .ok (.iload 7, 2) := by decide +kernel
theorem d_Tree_growBranch_101 : decode k_Tree_growBranch 101 = .ok (.ifCond .eq 25, 3) := by decide +kernel
theorem d_Tree_growBranch_104 : decode k_Tree_growBranch 104 = .ok (.iload 9, 2) := by decide +kernel
theorem d_Tree_growBranch_106 : decode k_Tree_growBranch 106 = .ok (.ifCond .ne 20, 3) := by decide +kernel
theorem d_Tree_growBranch_109 : decode k_Tree_growBranch 109 = .ok (.iload 8, 2) := by decide +kernel
theorem d_Tree_growBranch_111 : decode k_Tree_growBranch 111 = .ok (.iload 5, 2) := by decide +kernel
theorem d_Tree_growBranch_113 : decode k_Tree_growBranch 113 = .ok (.if_icmp .lt 13, 3) := by decide +kernel
theorem d_Tree_growBranch_116 : decode k_Tree_growBranch 116 = .ok (.iload 8, 2) := by decide +kernel
theorem d_Tree_growBranch_118 : decode k_Tree_growBranch 118 = .ok (.iload_n 3, 1) := by decide +kernel
theorem d_Tree_growBranch_119 : decode k_Tree_growBranch 119 = .ok (.if_icmp .gt 7, 3) := by decide +kernel
theorem d_Tree_growBranch_122 : decode k_Tree_growBranch 122 = .ok (.iconst 1, 1) := by decide +kernel
theorem d_Tree_growBranch_123 : decode k_Tree_growBranch 123 = .ok (.goto 4, 3) := by decide +kernel
theorem d_Tree_growBranch_126 : decode k_Tree_growBranch 126 = .ok (.iconst 0, 1) := by decide +kernel
theorem d_Tree_growBranch_127 : decode k_Tree_growBranch 127 = .ok (.istore 10, 2) := by decide +kernel
theorem d_Tree_growBranch_129 : decode k_Tree_growBranch 129 = .ok (.iload 9, 2) := by decide +kernel
theorem d_Tree_growBranch_131 : decode k_Tree_growBranch 131 = .ok (.ifCond .eq 8, 3) := by decide +kernel
theorem d_Tree_growBranch_134 : decode k_Tree_growBranch 134 = .ok (.bipush 11, 2) := by decide +kernel
theorem d_Tree_growBranch_136 : decode k_Tree_growBranch 136 = .ok (.goto 15, 3) := by decide +kernel
theorem d_Tree_growBranch_139 : decode k_Tree_growBranch 139 = .ok (.iload 10, 2) := by decide +kernel
theorem d_Tree_growBranch_141 : decode k_Tree_growBranch 141 = .ok (.ifCond .eq 8, 3) := by decide +kernel
theorem d_Tree_growBranch_144 : decode k_Tree_growBranch 144 = .ok (.bipush 13, 2) := by decide +kernel
theorem d_Tree_growBranch_146 : decode k_Tree_growBranch 146 = .ok (.goto 5, 3) := by decide +kernel
theorem d_Tree_growBranch_149 : decode k_Tree_growBranch 149 = .ok (.bipush 12, 2) := by decide +kernel
theorem d_Tree_growBranch_151 : decode k_Tree_growBranch 151 = .ok (.istore 11, 2) := by decide +kernel
theorem d_Tree_growBranch_153 : decode k_Tree_growBranch 153 = .ok (.aload_n 0, 1) := by decide +kernel
theorem d_Tree_growBranch_154 : decode k_Tree_growBranch 154 = .ok (.iload 11, 2) := by decide +kernel
theorem d_Tree_growBranch_156 : decode k_Tree_growBranch 156 = .ok (.iload_n 1, 1) := by decide +kernel
theorem d_Tree_growBranch_157 : decode k_Tree_growBranch 157 = .ok (.iload_n 2, 1) := by decide +kernel
theorem d_Tree_growBranch_158 : decode k_Tree_growBranch 158 = .ok (.iload 10, 2) := by decide +kernel
theorem d_Tree_growBranch_160 : decode k_Tree_growBranch 160 = .ok (.ifCond .eq 8, 3) := by decide +kernel
theorem d_Tree_growBranch_163 : decode k_Tree_growBranch 163 = .ok (.iload 8, 2) := by decide +kernel
theorem d_Tree_growBranch_165 : decode k_Tree_growBranch 165 = .ok (.goto 5, 3) := by decide +kernel
theorem d_Tree_growBranch_168 : decode k_Tree_growBranch 168 = .ok (.iload 5, 2) := by decide +kernel
theorem d_Tree_growBranch_170 : decode k_Tree_growBranch 170 = .ok (.iload 4, 2) := by decide +kernel
theorem d_Tree_growBranch_172 : decode k_Tree_growBranch 172 = .ok (.invokevirtual 87, 3) := by decide +kernel
theorem d_Tree_growBranch_175 : decode k_Tree_growBranch 175 = .ok (.istore 12, 2) := by decide +kernel
theorem d_Tree_growBranch_177 : decode k_Tree_growBranch 177 = .ok (.iload 12, 2) := by decide +kernel
theorem d_Tree_growBranch_179 : decode k_Tree_growBranch 179 = .ok (.iconst (-1), 1) := by decide +kernel
theorem d_Tree_growBranch_180 : decode k_Tree_growBranch 180 = .ok (.if_icmp .ne 5, 3) := by decide +kernel
theorem d_Tree_growBranch_183 : decode k_Tree_growBranch 183 = .ok (.iconst (-1), 1) := by decide +kernel
theorem d_Tree_growBranch_184 : decode k_Tree_growBranch 184 = .ok (.ireturn, 1) := by decide +kernel
theorem d_Tree_growBranch_185 : decode k_Tree_growBranch 185 = .ok (.aload_n 0, 1) := by decide +kernel
theorem d_Tree_growBranch_186 : decode k_Tree_growBranch 186 = .ok (.getfield 33, 3) := by decide +kernel
theorem d_Tree_growBranch_189 : decode k_Tree_growBranch 189 = .ok (.iload 12, 2) := by decide +kernel
theorem d_Tree_growBranch_191 : decode k_Tree_growBranch 191 = .ok (.aload_n 0, 1) := by decide +kernel
theorem d_Tree_growBranch_192 : decode k_Tree_growBranch 192 = .ok (.iload_n 2, 1) := by decide +kernel
theorem d_Tree_growBranch_193 : decode k_Tree_growBranch 193 = .ok (.iconst 1, 1) := by decide +kernel
theorem d_Tree_growBranch_194 : decode k_Tree_growBranch 194 = .ok (.iadd, 1) := by decide +kernel
theorem d_Tree_growBranch_195 : decode k_Tree_growBranch 195 = .ok (.iload 11, 2) := by decide +kernel
theorem d_Tree_growBranch_197 : decode k_Tree_growBranch 197 = .ok (.bipush 12, 2) := by decide +kernel
theorem d_Tree_growBranch_199 : decode k_Tree_growBranch 199 = .ok (.if_icmp .ne 8, 3) := by decide +kernel
theorem d_Tree_growBranch_202 : decode k_Tree_growBranch 202 = .ok (.iload 5, 2) := by decide +kernel
theorem d_Tree_growBranch_204 : decode k_Tree_growBranch 204 = .ok (.goto 5, 3) := by decide +kernel
theorem d_Tree_growBranch_207 : decode k_Tree_growBranch 207 = .ok (.iload 6, 2) := by decide +kernel
theorem d_Tree_growBranch_209 : decode k_Tree_growBranch 209 = .ok (.iload 4, 2) := by decide +kernel
theorem d_Tree_growBranch_211 : decode k_Tree_growBranch 211 = .ok (.iconst 1, 1) := by decide +kernel
theorem d_Tree_growBranch_212 : decode k_Tree_growBranch 212 = .ok (.iadd, 1) := by decide +kernel
theorem d_Tree_growBranch_213 : decode k_Tree_growBranch 213 = .ok (.invokevirtual 69, 3) := by decide +kernel
theorem d_Tree_growBranch_216 : decode k_Tree_growBranch 216 = .ok (.iastore, 1) := by decide +kernel
theorem d_Tree_growBranch_217 : decode k_Tree_growBranch 217 = .ok (.iload 10, 2) := by decide +kernel
theorem d_Tree_growBranch_219 : decode k_Tree_growBranch 219 = .ok (.ifCond .eq 22, 3) := by decide +kernel
theorem d_Tree_growBranch_222 : decode k_Tree_growBranch 222 = .ok (.aload_n 0, 1) := by decide +kernel
theorem d_Tree_growBranch_223 : decode k_Tree_growBranch 223 = .ok (.getfield 36, 3) := by decide +kernel
theorem d_Tree_growBranch_226 : decode k_Tree_growBranch 226 = .ok (.iload 12, 2) := by decide +kernel
theorem d_Tree_growBranch_228 : decode k_Tree_growBranch 228 = .ok (.aload_n 0, 1) := by decide +kernel
theorem d_Tree_growBranch_229 : decode k_Tree_growBranch 229 = .ok (.iload 5, 2) := by decide +kernel
theorem d_Tree_growBranch_231 : decode k_Tree_growBranch 231 = .ok (.iload 8, 2) := by decide +kernel
theorem d_Tree_growBranch_233 : decode k_Tree_growBranch 233 = .ok (.iload 4, 2) := by decide +kernel
theorem d_Tree_growBranch_235 : decode k_Tree_growBranch 235 = .ok (.iconst 1, 1) := by decide +kernel
theorem d_Tree_growBranch_236 : decode k_Tree_growBranch 236 = .ok (.iadd, 1) := by decide +kernel
theorem d_Tree_growBranch_237 : decode k_Tree_growBranch 237 = .ok (.invokevirtual 69, 3) := by decide +kernel
theorem d_Tree_growBranch_240 : decode k_Tree_growBranch 240 = .ok (.iastore, 1) := by decide +kernel
theorem d_Tree_growBranch_241 : decode k_Tree_growBranch 241 = .ok (.iload 12, 2) := by decide +kernel
theorem d_Tree_growBranch_243 : decode k_Tree_growBranch 243 = .ok (.ireturn, 1) := by decide +kernel
theorem d_Tree_tie_0 : decode k_Tree_tie 0 = .ok (.aload_n 0, 1) := by decide +kernel
theorem d_Tree_tie_1 : decode k_Tree_tie 1 = .ok (.iload_n 1, 1) := by decide +kernel
theorem d_Tree_tie_2 : decode k_Tree_tie 2 = .ok (.putfield 52, 3) := by decide +kernel
theorem d_Tree_tie_5 : decode k_Tree_tie 5 = .ok (.iconst (-1), 1) := by decide +kernel
theorem d_Tree_tie_6 : decode k_Tree_tie 6 = .ok (.ireturn, 1) := by decide +kernel
theorem d_Tree_add_0 : decode k_Tree_add 0 = .ok (.aload_n 0, 1) := by decide +kernel
theorem d_Tree_add_1 : decode k_Tree_add 1 = .ok (.getfield 45, 3) := by decide +kernel
theorem d_Tree_add_4 : decode k_Tree_add 4 = .ok (.bipush 15, 2) := by decide +kernel
theorem d_Tree_add_6 : decode k_Tree_add 6 = .ok (.if_icmp .ge 10, 3) := by decide +kernel
theorem d_Tree_add_9 : decode k_Tree_add 9 = .ok (.iload 5, 2) := by decide +kernel
theorem d_Tree_add_11 : decode k_Tree_add 11 = .ok (.bipush 15, 2) := by decide +kernel
theorem d_Tree_add_13 : decode k_Tree_add 13 = .ok (.if_icmp .le 9, 3) := by decide +kernel
theorem d_Tree_add_16 : decode k_Tree_add 16 = .ok (.aload_n 0, 1) := by decide +kernel
theorem d_Tree_add_17 : decode k_Tree_add 17 = .ok (.iload_n 3, 1) := by decide +kernel
theorem d_Tree_add_18 : decode k_Tree_add 18 = .ok (.invokevirtual 91, 3) := by decide +kernel
theorem d_Tree_add_21 : decode k_Tree_add 21 = .ok (.ireturn, 1) := by decide +kernel
theorem d_Tree_add_22 : decode k_Tree_add 22 = .ok (.aload_n 0, 1) := by decide +kernel
theorem d_Tree_add_23 : decode k_Tree_add 23 = .ok (.getfield 45, 3) := by decide +kernel
theorem d_Tree_add_26 : decode k_Tree_add 26 = .ok (.istore 6, 2) := by decide +kernel
theorem d_Tree_add_28 : decode k_Tree_add 28 = .ok (.aload_n 0, 1) := by decide +kernel
theorem d_Tree_add_29 : decode k_Tree_add 29 = .ok (.dup, 1) := by decide +kernel
theorem d_Tree_add_30 : decode k_Tree_add 30 = .ok (.getfield 45, 3) := by decide +kernel
theorem d_Tree_add_33 : decode k_Tree_add 33 = .ok (.iconst 1, 1) := by decide +kernel
theorem d_Tree_add_34 : decode k_Tree_add 34 = .ok (.iadd, 1) := by decide +kernel
theorem d_Tree_add_35 : decode k_Tree_add 35 = .ok (.putfield 45, 3) := by decide +kernel
theorem d_Tree_add_38 : decode k_Tree_add 38 = .ok (.aload_n 0, 1) := by decide +kernel
theorem d_Tree_add_39 : decode k_Tree_add 39 = .ok (.getfield 20, 3) := by decide +kernel
theorem d_Tree_add_42 : decode k_Tree_add 42 = .ok (.iload 6, 2) := by decide +kernel
theorem d_Tree_add_44 : decode k_Tree_add 44 = .ok (.iload_n 1, 1) := by decide +kernel
theorem d_Tree_add_45 : decode k_Tree_add 45 = .ok (.iastore, 1) := by decide +kernel
theorem d_Tree_add_46 : decode k_Tree_add 46 = .ok (.aload_n 0, 1) := by decide +kernel
theorem d_Tree_add_47 : decode k_Tree_add 47 = .ok (.getfield 24, 3) := by decide +kernel
theorem d_Tree_add_50 : decode k_Tree_add 50 = .ok (.iload 6, 2) := by decide +kernel
theorem d_Tree_add_52 : decode k_Tree_add 52 = .ok (.iload_n 2, 1) := by decide +kernel
theorem d_Tree_add_53 : decode k_Tree_add 53 = .ok (.iastore, 1) := by decide +kernel
theorem d_Tree_add_54 : decode k_Tree_add 54 = .ok (.aload_n 0, 1) := by decide +kernel
theorem d_Tree_add_55 : decode k_Tree_add 55 = .ok (.getfield 27, 3) := by decide +kernel
theorem d_Tree_add_58 : decode k_Tree_add 58 = .ok (.iload 6, 2) := by decide +kernel
theorem d_Tree_add_60 : decode k_Tree_add 60 = .ok (.iload_n 3, 1) := by decide +kernel
theorem d_Tree_add_61 : decode k_Tree_add 61 = .ok (.iastore, 1) := by decide +kernel
theorem d_Tree_add_62 : decode k_Tree_add 62 = .ok (.aload_n 0, 1) := by decide +kernel
theorem d_Tree_add_63 : decode k_Tree_add 63 = .ok (.getfield 30, 3) := by decide +kernel
theorem d_Tree_add_66 : decode k_Tree_add 66 = .ok (.iload 6, 2) := by decide +kernel
theorem d_Tree_add_68 : decode k_Tree_add 68 = .ok (.iload 4, 2) := by decide +kernel
theorem d_Tree_add_70 : decode k_Tree_add 70 = .ok (.iastore, 1) := by decide +kernel
theorem d_Tree_add_71 : decode k_Tree_add 71 = .ok (.aload_n 0, 1) := by decide +kernel
theorem d_Tree_add_72 : decode k_Tree_add 72 = .ok (.getfield 33, 3) := by decide +kernel
theorem d_Tree_add_75 : decode k_Tree_add 75 = .ok (.iload 6, 2) := by decide +kernel
theorem d_Tree_add_77 : decode k_Tree_add 77 = .ok (.iconst (-1), 1) := by decide +kernel
theorem d_Tree_add_78 : decode k_Tree_add 78 = .ok (.iastore, 1) := by decide +kernel
theorem d_Tree_add_79 : decode k_Tree_add 79 = .ok (.aload_n 0, 1) := by decide +kernel
theorem d_Tree_add_80 : decode k_Tree_add 80 = .ok (.getfield 36, 3) := by decide +kernel
theorem d_Tree_add_83 : decode k_Tree_add 83 = .ok (.iload 6, 2) := by decide +kernel
theorem d_Tree_add_85 : decode k_Tree_add 85 = .ok (.iconst (-1), 1) := by decide +kernel
theorem d_Tree_add_86 : decode k_Tree_add 86 = .ok (.iastore, 1) := by decide +kernel
theorem d_Tree_add_87 : decode k_Tree_add 87 = .ok (.aload_n 0, 1) := by decide +kernel
theorem d_Tree_add_88 : decode k_Tree_add 88 = .ok (.getfield 39, 3) := by decide +kernel
theorem d_Tree_add_91 : decode k_Tree_add 91 = .ok (.iload 6, 2) := by decide +kernel
theorem d_Tree_add_93 : decode k_Tree_add 93 = .ok (.iconst (-1), 1) := by decide +kernel
theorem d_Tree_add_94 : decode k_Tree_add 94 = .ok (.iastore, 1) := by decide +kernel
theorem d_Tree_add_95 : decode k_Tree_add 95 = .ok (.aload_n 0, 1) := by decide +kernel
theorem d_Tree_add_96 : decode k_Tree_add 96 = .ok (.aload_n 0, 1) := by decide +kernel
theorem d_Tree_add_97 : decode k_Tree_add 97 = .ok (.getfield 49, 3) := by decide +kernel
theorem d_Tree_add_100 : decode k_Tree_add 100 = .ok (.iload 5, 2) := by decide +kernel
theorem d_Tree_add_102 : decode k_Tree_add 102 = .ok (.invokestatic 97, 3) := by decide +kernel
theorem d_Tree_add_105 : decode k_Tree_add 105 = .ok (.putfield 49, 3) := by decide +kernel
theorem d_Tree_add_108 : decode k_Tree_add 108 = .ok (.iload 6, 2) := by decide +kernel
theorem d_Tree_add_110 : decode k_Tree_add 110 = .ok (.ireturn, 1) := by decide +kernel
theorem d_Tree_endOfExpression_0 : decode k_Tree_endOfExpression 0 = .ok (.iload_n 1, 1) := by decide +kernel
theorem d_Tree_endOfExpression_1 : decode k_Tree_endOfExpression 1 = .ok (.istore_n 2, 1) := by decide +kernel
theorem d_Tree_endOfExpression_2 : decode k_Tree_endOfExpression 2 = .ok (.iload_n 2, 1) := by decide +kernel
theorem d_Tree_endOfExpression_3 : decode k_Tree_endOfExpression 3 = .ok (.aload_n 0, 1) := by decide +kernel
theorem d_Tree_endOfExpression_4 : decode k_Tree_endOfExpression 4 = .ok (.getfield 14, 3) := by decide +kernel
theorem d_Tree_endOfExpression_7 : decode k_Tree_endOfExpression 7 = .ok (.invokevirtual 66, 3) := by decide +kernel
theorem d_Tree_endOfExpression_10 : decode k_Tree_endOfExpression 10 = .ok (.if_icmp .ge 34, 3) := by decide +kernel
theorem d_Tree_endOfExpression_13 : decode k_Tree_endOfExpression 13 = .ok (.aload_n 0, 1) := by decide +kernel
theorem d_Tree_endOfExpression_14 : decode k_Tree_endOfExpression 14 = .ok (.getfield 14, 3) := by decide +kernel
theorem d_Tree_endOfExpression_17 : decode k_Tree_endOfExpression 17 = .ok (.iload_n 2, 1) := by decide +kernel
theorem d_Tree_endOfExpression_18 : decode k_Tree_endOfExpression 18 = .ok (.invokevirtual 80, 3) := by decide +kernel
theorem d_Tree_endOfExpression_21 : decode k_Tree_endOfExpression 21 = .ok (.invokestatic 103, 3) := by decide +kernel
theorem d_Tree_endOfExpression_24 : decode k_Tree_endOfExpression 24 = .ok (.ifCond .eq 20, 3) := by decide +kernel
theorem d_Tree_endOfExpression_27 : decode k_Tree_endOfExpression 27 = .ok (.aload_n 0, 1) := by decide +kernel
theorem d_Tree_endOfExpression_28 : decode k_Tree_endOfExpression 28 = .ok (.getfield 42, 3) := by decide +kernel
theorem d_Tree_endOfExpression_31 : decode k_Tree_endOfExpression 31 = .ok (.iload_n 2, 1) := by decide +kernel
theorem d_Tree_endOfExpression_32 : decode k_Tree_endOfExpression 32 = .ok (.aload_n 0, 1) := by decide +kernel
theorem d_Tree_endOfExpression_33 : decode k_Tree_endOfExpression 33 = .ok (.iload_n 2, 1) := by decide +kernel
theorem d_Tree_endOfExpression_34 : decode k_Tree_endOfExpression 34 = .ok (.invokevirtual 107, 3) := by decide +kernel
theorem d_Tree_endOfExpression_37 : decode k_Tree_endOfExpression 37 = .ok (.iastore, 1) := by decide +kernel
theorem d_Tree_endOfExpression_38 : decode k_Tree_endOfExpression 38 = .ok (.iinc 2 1, 3) := by decide +kernel
theorem d_Tree_endOfExpression_41 : decode k_Tree_endOfExpression 41 = .ok (.goto (-39), 3) := by decide +kernel
theorem d_Tree_endOfExpression_44 : decode k_Tree_endOfExpression 44 = .ok (.iload_n 2, 1) := by decide +kernel
theorem d_Tree_endOfExpression_45 : decode k_Tree_endOfExpression 45 = .ok (.ireturn, 1) := by decide +kernel
theorem d_Tree_isPart_0 : decode k_Tree_isPart 0 = .ok (.iload_n 0, 1) := by decide +kernel
theorem d_Tree_isPart_1 : decode k_Tree_isPart 1 = .ok (.iconst 2, 1) := by decide +kernel
theorem d_Tree_isPart_2 : decode k_Tree_isPart 2 = .ok (.if_icmp .eq 25, 3) := by decide +kernel
theorem d_Tree_isPart_5 : decode k_Tree_isPart 5 = .ok (.iload_n 0, 1) := by decide +kernel
theorem d_Tree_isPart_6 : decode k_Tree_isPart 6 = .ok (.bipush 10, 2) := by decide +kernel
theorem d_Tree_isPart_8 : decode k_Tree_isPart 8 = .ok (.if_icmp .eq 19, 3) := by decide +kernel
theorem d_Tree_isPart_11 : decode k_Tree_isPart 11 = .ok (.iload_n 0, 1) := by decide +kernel
theorem d_Tree_isPart_12 : decode k_Tree_isPart 12 = .ok (.bipush 9, 2) := by decide +kernel
theorem d_Tree_isPart_14 : decode k_Tree_isPart 14 = .ok (.if_icmp .eq 13, 3) := by decide +kernel
theorem d_Tree_isPart_17 : decode k_Tree_isPart 17 = .ok (.iload_n 0, 1) := by decide +kernel
theorem d_Tree_isPart_18 : decode k_Tree_isPart 18 = .ok (.bipush 8, 2) := by decide +kernel
theorem d_Tree_isPart_20 : decode k_Tree_isPart 20 = .ok (.if_icmp .eq 7, 3) := by decide +kernel
theorem d_Tree_isPart_23 : decode k_Tree_isPart 23 = .ok (.iconst 1, 1) := by decide +kernel
theorem d_Tree_isPart_24 : decode k_Tree_isPart 24 = .ok (.goto 4, 3) := by decide +kernel
theorem d_Tree_isPart_27 : decode k_Tree_isPart 27 = .ok (.iconst 0, 1) := by decide +kernel
theorem d_Tree_isPart_28 : decode k_Tree_isPart 28 = .ok (.ireturn, 1) := by decide +kernel
theorem d_Tree_beginOf_0 : decode k_Tree_beginOf 0 = .ok (.aload_n 0, 1) := by decide +kernel
theorem d_Tree_beginOf_1 : decode k_Tree_beginOf 1 = .ok (.getfield 14, 3) := by decide +kernel
theorem d_Tree_beginOf_4 : decode k_Tree_beginOf 4 = .ok (.iload_n 1, 1) := by decide +kernel
theorem d_Tree_beginOf_5 : decode k_Tree_beginOf 5 = .ok (.invokevirtual 80, 3) := by decide +kernel
theorem d_Tree_beginOf_8 : decode k_Tree_beginOf 8 = .ok (.istore_n 2, 1) := by decide +kernel
theorem d_Tree_beginOf_9 : decode k_Tree_beginOf 9 = .ok (.iload_n 2, 1) := by decide +kernel
theorem d_Tree_beginOf_10 : decode k_Tree_beginOf 10 = .ok (.ifCond .eq 8, 3) := by decide +kernel
theorem d_Tree_beginOf_13 : decode k_Tree_beginOf 13 = .ok (.iload_n 2, 1) := by decide +kernel
theorem d_Tree_beginOf_14 : decode k_Tree_beginOf 14 = .ok (.iconst 1, 1) := by decide +kernel
theorem d_Tree_beginOf_15 : decode k_Tree_beginOf 15 = .ok (.if_icmp .ne 5, 3) := by decide +kernel
theorem d_Tree_beginOf_18 : decode k_Tree_beginOf 18 = .ok (.iload_n 1, 1) := by decide +kernel
theorem d_Tree_beginOf_19 : decode k_Tree_beginOf 19 = .ok (.ireturn, 1) := by decide +kernel
theorem d_Tree_beginOf_20 : decode k_Tree_beginOf 20 = .ok (.iload_n 2, 1) := by decide +kernel
theorem d_Tree_beginOf_21 : decode k_Tree_beginOf 21 = .ok (.bipush 7, 2) := by decide +kernel
theorem d_Tree_beginOf_23 : decode k_Tree_beginOf 23 = .ok (.if_icmp .ne 9, 3) := by decide +kernel
theorem d_Tree_beginOf_26 : decode k_Tree_beginOf 26 = .ok (.iload_n 1, 1) := by decide +kernel
theorem d_Tree_beginOf_27 : decode k_Tree_beginOf 27 = .ok (.iconst 1, 1) := by decide +kernel
theorem d_Tree_beginOf_28 : decode k_Tree_beginOf 28 = .ok (.isub, 1) := by decide +kernel
theorem d_Tree_beginOf_29 : decode k_Tree_beginOf 29 = .ok (.goto 8, 3) := by decide +kernel
theorem d_Tree_beginOf_32 : decode k_Tree_beginOf 32 = .ok (.aload_n 0, 1) := by decide +kernel
theorem d_Tree_beginOf_33 : decode k_Tree_beginOf 33 = .ok (.iload_n 1, 1) := by decide +kernel
theorem d_Tree_beginOf_34 : decode k_Tree_beginOf 34 = .ok (.invokevirtual 110, 3) := by decide +kernel
theorem d_Tree_beginOf_37 : decode k_Tree_beginOf 37 = .ok (.istore_n 3, 1) := by decide +kernel
theorem d_Tree_beginOf_38 : decode k_Tree_beginOf 38 = .ok (.iload_n 3, 1) := by decide +kernel
theorem d_Tree_beginOf_39 : decode k_Tree_beginOf 39 = .ok (.ifCond .lt 12, 3) := by decide +kernel
theorem d_Tree_beginOf_42 : decode k_Tree_beginOf 42 = .ok (.aload_n 0, 1) := by decide +kernel
theorem d_Tree_beginOf_43 : decode k_Tree_beginOf 43 = .ok (.getfield 42, 3) := by decide +kernel
theorem d_Tree_beginOf_46 : decode k_Tree_beginOf 46 = .ok (.iload_n 3, 1) := by decide +kernel
theorem d_Tree_beginOf_47 : decode k_Tree_beginOf 47 = .ok (.iaload, 1) := by decide +kernel
theorem d_Tree_beginOf_48 : decode k_Tree_beginOf 48 = .ok (.goto 4, 3) := by decide +kernel
theorem d_Tree_beginOf_51 : decode k_Tree_beginOf 51 = .ok (.iconst 0, 1) := by decide +kernel
theorem d_Tree_beginOf_52 : decode k_Tree_beginOf 52 = .ok (.ireturn, 1) := by decide +kernel
theorem d_Tree_leftOf_0 : decode k_Tree_leftOf 0 = .ok (.iload_n 1, 1) := by decide +kernel
theorem d_Tree_leftOf_1 : decode k_Tree_leftOf 1 = .ok (.iconst 1, 1) := by decide +kernel
theorem d_Tree_leftOf_2 : decode k_Tree_leftOf 2 = .ok (.if_icmp .lt 22, 3) := by decide +kernel
theorem d_Tree_leftOf_5 : decode k_Tree_leftOf 5 = .ok (.iload_n 1, 1) := by decide +kernel
theorem d_Tree_leftOf_6 : decode k_Tree_leftOf 6 = .ok (.bipush 30, 2) := by decide +kernel
theorem d_Tree_leftOf_8 : decode k_Tree_leftOf 8 = .ok (.if_icmp .gt 16, 3) := by decide +kernel
theorem d_Tree_leftOf_11 : decode k_Tree_leftOf 11 = .ok (.aload_n 0, 1) := by decide +kernel
theorem d_Tree_leftOf_12 : decode k_Tree_leftOf 12 = .ok (.getfield 42, 3) := by decide +kernel
theorem d_Tree_leftOf_15 : decode k_Tree_leftOf 15 = .ok (.iload_n 1, 1) := by decide +kernel
theorem d_Tree_leftOf_16 : decode k_Tree_leftOf 16 = .ok (.iconst 1, 1) := by decide +kernel
theorem d_Tree_leftOf_17 : decode k_Tree_leftOf 17 = .ok (.isub, 1) := by decide +kernel
theorem d_Tree_leftOf_18 : decode k_Tree_leftOf 18 = .ok (.iaload, 1) := by decide +kernel
theorem d_Tree_leftOf_19 : decode k_Tree_leftOf 19 = .ok (.iconst 1, 1) := by decide +kernel
theorem d_Tree_leftOf_20 : decode k_Tree_leftOf 20 = .ok (.isub, 1) := by decide +kernel
theorem d_Tree_leftOf_21 : decode k_Tree_leftOf 21 = .ok (.goto 4, 3) := by decide +kernel
theorem d_Tree_leftOf_24 : decode k_Tree_leftOf 24 = .ok (.iconst (-1), 1) := by decide +kernel
theorem d_Tree_leftOf_25 : decode k_Tree_leftOf 25 = .ok (.ireturn, 1) := by decide +kernel
theorem d_Tree_stands_0 : decode k_Tree_stands 0 = .ok (.aload_n 0, 1) := by decide +kernel
theorem d_Tree_stands_1 : decode k_Tree_stands 1 = .ok (.getfield 55, 3) := by decide +kernel
theorem d_Tree_stands_4 : decode k_Tree_stands 4 = .ok (.ireturn, 1) := by decide +kernel
theorem d_Tree_size_0 : decode k_Tree_size 0 = .ok (.aload_n 0, 1) := by decide +kernel
theorem d_Tree_size_1 : decode k_Tree_size 1 = .ok (.getfield 45, 3) := by decide +kernel
theorem d_Tree_size_4 : decode k_Tree_size 4 = .ok (.ireturn, 1) := by decide +kernel
theorem d_Tree_sizeOf_0 : decode k_Tree_sizeOf 0 = .ok (.iconst 0, 1) := by decide +kernel
theorem d_Tree_sizeOf_1 : decode k_Tree_sizeOf 1 = .ok (.istore_n 2, 1) := by decide +kernel
theorem d_Tree_sizeOf_2 : decode k_Tree_sizeOf 2 = .ok (.iconst 0, 1) := by decide +kernel
theorem d_Tree_sizeOf_3 : decode k_Tree_sizeOf 3 = .ok (.istore_n 3, 1) := by decide +kernel
theorem d_Tree_sizeOf_4 : decode k_Tree_sizeOf 4 = .ok (.iload_n 3, 1) := by decide +kernel
theorem d_Tree_sizeOf_5 : decode k_Tree_sizeOf 5 = .ok (.aload_n 0, 1) := by decide +kernel
theorem d_Tree_sizeOf_6 : decode k_Tree_sizeOf 6 = .ok (.getfield 45, 3) := by decide +kernel
theorem d_Tree_sizeOf_9 : decode k_Tree_sizeOf 9 = .ok (.if_icmp .ge 22, 3) := by decide +kernel
theorem d_Tree_sizeOf_12 : decode k_Tree_sizeOf 12 = .ok (.aload_n 0, 1) := by decide +kernel
theorem d_Tree_sizeOf_13 : decode k_Tree_sizeOf 13 = .ok (.getfield 20, 3) := by decide +kernel
theorem d_Tree_sizeOf_16 : decode k_Tree_sizeOf 16 = .ok (.iload_n 3, 1) := by decide +kernel
theorem d_Tree_sizeOf_17 : decode k_Tree_sizeOf 17 = .ok (.iaload, 1) := by decide +kernel
theorem d_Tree_sizeOf_18 : decode k_Tree_sizeOf 18 = .ok (.iload_n 1, 1) := by decide +kernel
theorem d_Tree_sizeOf_19 : decode k_Tree_sizeOf 19 = .ok (.if_icmp .ne 6, 3) := by decide +kernel
theorem d_Tree_sizeOf_22 : decode k_Tree_sizeOf 22 = .ok (.iinc 2 1, 3) := by decide +kernel
theorem d_Tree_sizeOf_25 : decode k_Tree_sizeOf 25 = .ok (.iinc 3 1, 3) := by decide +kernel
theorem d_Tree_sizeOf_28 : decode k_Tree_sizeOf 28 = .ok (.goto (-24), 3) := by decide +kernel
theorem d_Tree_sizeOf_31 : decode k_Tree_sizeOf 31 = .ok (.iload_n 2, 1) := by decide +kernel
theorem d_Tree_sizeOf_32 : decode k_Tree_sizeOf 32 = .ok (.ireturn, 1) := by decide +kernel
theorem d_Tree_depth_0 : decode k_Tree_depth 0 = .ok (.aload_n 0, 1) := by decide +kernel
theorem d_Tree_depth_1 : decode k_Tree_depth 1 = .ok (.getfield 49, 3) := by decide +kernel
theorem d_Tree_depth_4 : decode k_Tree_depth 4 = .ok (.ireturn, 1) := by decide +kernel
theorem d_Tree_first_0 : decode k_Tree_first 0 = .ok (.aload_n 0, 1) := by decide +kernel
theorem d_Tree_first_1 : decode k_Tree_first 1 = .ok (.getfield 45, 3) := by decide +kernel
theorem d_Tree_first_4 : decode k_Tree_first 4 = .ok (.ifCond .le 7, 3) := by decide +kernel
theorem d_Tree_first_7 : decode k_Tree_first 7 = .ok (.iconst 0, 1) := by decide +kernel
theorem d_Tree_first_8 : decode k_Tree_first 8 = .ok (.goto 4, 3) := by decide +kernel
theorem d_Tree_first_11 : decode k_Tree_first 11 = .ok (.iconst (-1), 1) := by decide +kernel
theorem d_Tree_first_12 : decode k_Tree_first 12 = .ok (.ireturn, 1) := by decide +kernel
theorem d_Tree_holds_0 : decode k_Tree_holds 0 = .ok (.iload_n 1, 1) := by decide +kernel
theorem d_Tree_holds_1 : decode k_Tree_holds 1 = .ok (.ifCond .lt 15, 3) := by decide +kernel
theorem d_Tree_holds_4 : decode k_Tree_holds 4 = .ok (.iload_n 1, 1) := by decide +kernel
theorem d_Tree_holds_5 : decode k_Tree_holds 5 = .ok (.aload_n 0, 1) := by decide +kernel
theorem d_Tree_holds_6 : decode k_Tree_holds 6 = .ok (.getfield 45, 3) := by decide +kernel
theorem d_Tree_holds_9 : decode k_Tree_holds 9 = .ok (.if_icmp .ge 7, 3) := by decide +kernel
theorem d_Tree_holds_12 : decode k_Tree_holds 12 = .ok (.iconst 1, 1) := by decide +kernel
theorem d_Tree_holds_13 : decode k_Tree_holds 13 = .ok (.goto 4, 3) := by decide +kernel
theorem d_Tree_holds_16 : decode k_Tree_holds 16 = .ok (.iconst 0, 1) := by decide +kernel
theorem d_Tree_holds_17 : decode k_Tree_holds 17 = .ok (.ireturn, 1) := by decide +kernel
theorem d_Tree_kind_0 : decode k_Tree_kind 0 = .ok (.aload_n 0, 1) := by decide +kernel
theorem d_Tree_kind_1 : decode k_Tree_kind 1 = .ok (.iload_n 1, 1) := by decide +kernel
theorem d_Tree_kind_2 : decode k_Tree_kind 2 = .ok (.invokevirtual 113, 3) := by decide +kernel
theorem d_Tree_kind_5 : decode k_Tree_kind 5 = .ok (.ifCond .eq 12, 3) := by decide +kernel
theorem d_Tree_kind_8 : decode k_Tree_kind 8 = .ok (.aload_n 0, 1) := by decide +kernel
theorem d_Tree_kind_9 : decode k_Tree_kind 9 = .ok (.getfield 20, 3) := by decide +kernel
theorem d_Tree_kind_12 : decode k_Tree_kind 12 = .ok (.iload_n 1, 1) := by decide +kernel
theorem d_Tree_kind_13 : decode k_Tree_kind 13 = .ok (.iaload, 1) := by decide +kernel
theorem d_Tree_kind_14 : decode k_Tree_kind 14 = .ok (.goto 4, 3) := by decide +kernel
theorem d_Tree_kind_17 : decode k_Tree_kind 17 = .ok (.iconst (-1), 1) := by decide +kernel
theorem d_Tree_kind_18 : decode k_Tree_kind 18 = .ok (.ireturn, 1) := by decide +kernel
theorem d_Tree_from_0 : decode k_Tree_from 0 = .ok (.aload_n 0, 1) := by decide +kernel
theorem d_Tree_from_1 : decode k_Tree_from 1 = .ok (.iload_n 1, 1) := by decide +kernel
theorem d_Tree_from_2 : decode k_Tree_from 2 = .ok (.invokevirtual 113, 3) := by decide +kernel
theorem d_Tree_from_5 : decode k_Tree_from 5 = .ok (.ifCond .eq 12, 3) := by decide +kernel
theorem d_Tree_from_8 : decode k_Tree_from 8 = .ok (.aload_n 0, 1) := by decide +kernel
theorem d_Tree_from_9 : decode k_Tree_from 9 = .ok (.getfield 24, 3) := by decide +kernel
theorem d_Tree_from_12 : decode k_Tree_from 12 = .ok (.iload_n 1, 1) := by decide +kernel
theorem d_Tree_from_13 : decode k_Tree_from 13 = .ok (.iaload, 1) := by decide +kernel
theorem d_Tree_from_14 : decode k_Tree_from 14 = .ok (.goto 4, 3) := by decide +kernel
theorem d_Tree_from_17 : decode k_Tree_from 17 = .ok (.iconst 0, 1) := by decide +kernel
theorem d_Tree_from_18 : decode k_Tree_from 18 = .ok (.ireturn, 1) := by decide +kernel
theorem d_Tree_mark_0 : decode k_Tree_mark 0 = .ok (.aload_n 0, 1) := by decide +kernel
theorem d_Tree_mark_1 : decode k_Tree_mark 1 = .ok (.iload_n 1, 1) := by decide +kernel
theorem d_Tree_mark_2 : decode k_Tree_mark 2 = .ok (.invokevirtual 113, 3) := by decide +kernel
theorem d_Tree_mark_5 : decode k_Tree_mark 5 = .ok (.ifCond .eq 12, 3) := by decide +kernel
theorem d_Tree_mark_8 : decode k_Tree_mark 8 = .ok (.aload_n 0, 1) := by decide +kernel
theorem d_Tree_mark_9 : decode k_Tree_mark 9 = .ok (.getfield 27, 3) := by decide +kernel
theorem d_Tree_mark_12 : decode k_Tree_mark 12 = .ok (.iload_n 1, 1) := by decide +kernel
theorem d_Tree_mark_13 : decode k_Tree_mark 13 = .ok (.iaload, 1) := by decide +kernel
theorem d_Tree_mark_14 : decode k_Tree_mark 14 = .ok (.goto 4, 3) := by decide +kernel
theorem d_Tree_mark_17 : decode k_Tree_mark 17 = .ok (.iconst 0, 1) := by decide +kernel
theorem d_Tree_mark_18 : decode k_Tree_mark 18 = .ok (.ireturn, 1) := by decide +kernel
theorem d_Tree_part_0 : decode k_Tree_part 0 = .ok (.aload_n 0, 1) := by decide +kernel
theorem d_Tree_part_1 : decode k_Tree_part 1 = .ok (.iload_n 1, 1) := by decide +kernel
theorem d_Tree_part_2 : decode k_Tree_part 2 = .ok (.invokevirtual 113, 3) := by decide +kernel
theorem d_Tree_part_5 : decode k_Tree_part 5 = .ok (.ifCond .eq 12, 3) := by decide +kernel
theorem d_Tree_part_8 : decode k_Tree_part 8 = .ok (.aload_n 0, 1) := by decide +kernel
theorem d_Tree_part_9 : decode k_Tree_part 9 = .ok (.getfield 33, 3) := by decide +kernel
theorem d_Tree_part_12 : decode k_Tree_part 12 = .ok (.iload_n 1, 1) := by decide +kernel
theorem d_Tree_part_13 : decode k_Tree_part 13 = .ok (.iaload, 1) := by decide +kernel
theorem d_Tree_part_14 : decode k_Tree_part 14 = .ok (.goto 4, 3) := by decide +kernel
theorem d_Tree_part_17 : decode k_Tree_part 17 = .ok (.iconst (-1), 1) := by decide +kernel
theorem d_Tree_part_18 : decode k_Tree_part 18 = .ok (.ireturn, 1) := by decide +kernel
theorem d_Tree_other_0 : decode k_Tree_other 0 = .ok (.aload_n 0, 1) := by decide +kernel
theorem d_Tree_other_1 : decode k_Tree_other 1 = .ok (.iload_n 1, 1) := by decide +kernel
theorem d_Tree_other_2 : decode k_Tree_other 2 = .ok (.invokevirtual 113, 3) := by decide +kernel
theorem d_Tree_other_5 : decode k_Tree_other 5 = .ok (.ifCond .eq 12, 3) := by decide +kernel
theorem d_Tree_other_8 : decode k_Tree_other 8 = .ok (.aload_n 0, 1) := by decide +kernel
theorem d_Tree_other_9 : decode k_Tree_other 9 = .ok (.getfield 36, 3) := by decide +kernel
theorem d_Tree_other_12 : decode k_Tree_other 12 = .ok (.iload_n 1, 1) := by decide +kernel
theorem d_Tree_other_13 : decode k_Tree_other 13 = .ok (.iaload, 1) := by decide +kernel
theorem d_Tree_other_14 : decode k_Tree_other 14 = .ok (.goto 4, 3) := by decide +kernel
theorem d_Tree_other_17 : decode k_Tree_other 17 = .ok (.iconst (-1), 1) := by decide +kernel
theorem d_Tree_other_18 : decode k_Tree_other 18 = .ok (.ireturn, 1) := by decide +kernel
theorem d_Tree_follower_0 : decode k_Tree_follower 0 = .ok (.aload_n 0, 1) := by decide +kernel
theorem d_Tree_follower_1 : decode k_Tree_follower 1 = .ok (.iload_n 1, 1) := by decide +kernel
theorem d_Tree_follower_2 : decode k_Tree_follower 2 = .ok (.invokevirtual 113, 3) := by decide +kernel
theorem d_Tree_follower_5 : decode k_Tree_follower 5 = .ok (.ifCond .eq 12, 3) := by decide +kernel
theorem d_Tree_follower_8 : decode k_Tree_follower 8 = .ok (.aload_n 0, 1) := by decide +kernel
theorem d_Tree_follower_9 : decode k_Tree_follower 9 = .ok (.getfield 39, 3) := by decide +kernel
theorem d_Tree_follower_12 : decode k_Tree_follower 12 = .ok (.iload_n 1, 1) := by decide +kernel
theorem d_Tree_follower_13 : decode k_Tree_follower 13 = .ok (.iaload, 1) := by decide +kernel
theorem d_Tree_follower_14 : decode k_Tree_follower 14 = .ok (.goto 4, 3) := by decide +kernel
theorem d_Tree_follower_17 : decode k_Tree_follower 17 = .ok (.iconst (-1), 1) := by decide +kernel
theorem d_Tree_follower_18 : decode k_Tree_follower 18 = .ok (.ireturn, 1) := by decide +kernel
theorem d_Tree_source_0 : decode k_Tree_source 0 = .ok (.aload_n 0, 1) := by decide +kernel
theorem d_Tree_source_1 : decode k_Tree_source 1 = .ok (.getfield 14, 3) := by decide +kernel
theorem d_Tree_source_4 : decode k_Tree_source 4 = .ok (.areturn, 1) := by decide +kernel
theorem d_Walker_follow_0 : decode k_Walker_follow 0 = .ok (.aload_n 0, 1) := by decide +kernel
theorem d_Walker_follow_1 : decode k_Walker_follow 1 = .ok (.aload_n 1, 1) := by decide +kernel
theorem d_Walker_follow_2 : decode k_Walker_follow 2 = .ok (.aload_n 0, 1) := by decide +kernel
theorem d_Walker_follow_3 : decode k_Walker_follow 3 = .ok (.invokevirtual 9, 3) := by decide +kernel
theorem d_Walker_follow_6 : decode k_Walker_follow 6 = .ok (.iconst 0, 1) := by decide +kernel
theorem d_Walker_follow_7 : decode k_Walker_follow 7 = .ok (.invokestatic 15, 3) := by decide +kernel
theorem d_Walker_follow_10 : decode k_Walker_follow 10 = .ok (.ireturn, 1) := by decide +kernel
theorem d_Walker_walkFrom_0 : decode k_Walker_walkFrom 0 = .ok (.iload_n 3, 1) := by decide +kernel
theorem d_Walker_walkFrom_1 : decode k_Walker_walkFrom 1 = .ok (.bipush 15, 2) := by decide +kernel
theorem d_Walker_walkFrom_3 : decode k_Walker_walkFrom 3 = .ok (.if_icmp .le 5, 3) := by decide +kernel
theorem d_Walker_walkFrom_6 : decode k_Walker_walkFrom 6 = .ok (.iconst 0, 1) := by decide +kernel
theorem d_Walker_walkFrom_7 : decode k_Walker_walkFrom 7 = .ok (.ireturn, 1) := by decide +kernel
theorem d_Walker_walkFrom_8 : decode k_Walker_walkFrom 8 = .ok (.iload_n 2, 1) := by decide +kernel
theorem d_Walker_walkFrom_9 : decode k_Walker_walkFrom 9 = .ok (.istore 4, 2) := by decide +kernel
theorem d_Walker_walkFrom_11 : decode k_Walker_walkFrom 11 = .ok (.iconst 0, 1) := by decide +kernel
theorem d_Walker_walkFrom_12 : decode k_Walker_walkFrom 12 = .ok (.istore 5, 2) := by decide +kernel
theorem d_Walker_walkFrom_14 : decode k_Walker_walkFrom 14 = .ok (.iload 5, 2) := by decide +kernel
theorem d_Walker_walkFrom_16 : decode k_Walker_walkFrom 16 = .ok (.bipush 15, 2) := by decide +kernel
theorem d_Walker_walkFrom_18 : decode k_Walker_walkFrom 18 = .ok (.if_icmp .ge 65, 3) := by decide +kernel
theorem d_Walker_walkFrom_21 : decode k_Walker_walkFrom 21 = .ok (.aload_n 0, 1) := by decide +kernel
theorem d_Walker_walkFrom_22 : decode k_Walker_walkFrom 22 = .ok (.iload 4, 2) := by decide +kernel
theorem d_Walker_walkFrom_24 : decode k_Walker_walkFrom 24 = .ok (.invokevirtual 21, 3) := by decide +kernel
theorem d_Walker_walkFrom_27 : decode k_Walker_walkFrom 27 = .ok (.ifCond .eq 56, 3) := by decide +kernel
theorem d_Walker_walkFrom_30 : decode k_Walker_walkFrom 30 = .ok (.aload_n 0, 1) := by decide +kernel
theorem d_Walker_walkFrom_31 : decode k_Walker_walkFrom 31 = .ok (.iload 4, 2) := by decide +kernel
theorem d_Walker_walkFrom_33 : decode k_Walker_walkFrom 33 = .ok (.invokevirtual 25, 3) := by decide +kernel
theorem d_Walker_walkFrom_36 : decode k_Walker_walkFrom 36 = .ok (.bipush 11, 2) := by decide +kernel
theorem d_Walker_walkFrom_38 : decode k_Walker_walkFrom 38 = .ok (.if_icmp .ne 14, 3) := by decide +kernel
theorem d_Walker_walkFrom_41 : decode k_Walker_walkFrom 41 = .ok (.aload_n 0, 1) := by decide +kernel
theorem d_Walker_walkFrom_42 : decode k_Walker_walkFrom 42 = .ok (.aload_n 1, 1) := by decide +kernel
theorem d_Walker_walkFrom_43 : decode k_Walker_walkFrom 43 = .ok (.iload 4, 2) := by decide +kernel
theorem d_Walker_walkFrom_45 : decode k_Walker_walkFrom 45 = .ok (.iload_n 3, 1) := by decide +kernel
theorem d_Walker_walkFrom_46 : decode k_Walker_walkFrom 46 = .ok (.invokestatic 29, 3) := by decide +kernel
theorem d_Walker_walkFrom_49 : decode k_Walker_walkFrom 49 = .ok (.goto 11, 3) := by decide +kernel
theorem d_Walker_walkFrom_52 : decode k_Walker_walkFrom 52 = .ok (.aload_n 0, 1) := by decide +kernel
theorem d_Walker_walkFrom_53 : decode k_Walker_walkFrom 53 = .ok (.aload_n 1, 1) := by decide +kernel
theorem d_Walker_walkFrom_54 : decode k_Walker_walkFrom 54 = .ok (.iload 4, 2) := by decide +kernel
theorem d_Walker_walkFrom_56 : decode k_Walker_walkFrom 56 = .ok (.iload_n 3, 1) := by decide +kernel
theorem d_Walker_walkFrom_57 : decode k_Walker_walkFrom 57 = .ok (.invokestatic 32, 3) := by decide +kernel
theorem d_Walker_walkFrom_60 : decode k_Walker_walkFrom 60 = .ok (.istore 6, 2) := by decide +kernel
theorem d_Walker_walkFrom_62 : decode k_Walker_walkFrom 62 = .ok (.iload 6, 2) := by decide +kernel
theorem d_Walker_walkFrom_64 : decode k_Walker_walkFrom 64 = .ok (.ifCond .ne 5, 3) := by decide +kernel
theorem d_Walker_walkFrom_67 : decode k_Walker_walkFrom 67 = .ok (.iconst 0, 1) := by decide +kernel
theorem d_Walker_walkFrom_68 : decode k_Walker_walkFrom 68 = .ok (.ireturn, 1) := by decide +kernel
theorem d_Walker_walkFrom_69 : decode k_Walker_walkFrom 69 = .ok (.aload_n 0, 1) := by decide +kernel
theorem d_Walker_walkFrom_70 : decode k_Walker_walkFrom 70 = .ok (.iload 4, 2) := by decide +kernel
theorem d_Walker_walkFrom_72 : decode k_Walker_walkFrom 72 = .ok (.invokevirtual 35, 3) := by decide +kernel
theorem d_Walker_walkFrom_75 : decode k_Walker_walkFrom 75 = .ok (.istore 4, 2) := by decide +kernel
theorem d_Walker_walkFrom_77 : decode k_Walker_walkFrom 77 = .ok (.iinc 5 1, 3) := by decide +kernel
theorem d_Walker_walkFrom_80 : decode k_Walker_walkFrom 80 = .ok (.goto (-66), 3) := by decide +kernel
theorem d_Walker_walkFrom_83 : decode k_Walker_walkFrom 83 = .ok (.iconst 1, 1) := by decide +kernel
theorem d_Walker_walkFrom_84 : decode k_Walker_walkFrom 84 = .ok (.ireturn, 1) := by decide +kernel
theorem d_Walker_walkLoop_0 : decode k_Walker_walkLoop 0 = .ok (.iconst 0, 1) := by decide +kernel
theorem d_Walker_walkLoop_1 : decode k_Walker_walkLoop 1 = .ok (.istore 4, 2) := by decide +kernel
theorem d_Walker_walkLoop_3 : decode k_Walker_walkLoop 3 = .ok (.iload 4, 2) := by decide +kernel
theorem d_Walker_walkLoop_5 : decode k_Walker_walkLoop 5 = .ok (.sipush 400, 3) := by decide +kernel
theorem d_Walker_walkLoop_8 : decode k_Walker_walkLoop 8 = .ok (.if_icmp .gt 47, 3) := by decide +kernel
theorem d_Walker_walkLoop_11 : decode k_Walker_walkLoop 11 = .ok (.aload_n 1, 1) := by decide +kernel
theorem d_Walker_walkLoop_12 : decode k_Walker_walkLoop 12 = .ok (.invokevirtual 38, 3) := by decide +kernel
theorem d_Walker_walkLoop_15 : decode k_Walker_walkLoop 15 = .ok (.ifCond .ne 5, 3) := by decide +kernel
theorem d_Walker_walkLoop_18 : decode k_Walker_walkLoop 18 = .ok (.iconst 0, 1) := by decide +kernel
theorem d_Walker_walkLoop_19 : decode k_Walker_walkLoop 19 = .ok (.ireturn, 1) := by decide +kernel
theorem d_Walker_walkLoop_20 : decode k_Walker_walkLoop 20 = .ok (.aload_n 0, 1) := by decide +kernel
theorem d_Walker_walkLoop_21 : decode k_Walker_walkLoop 21 = .ok (.aload_n 1, 1) := by decide +kernel
theorem d_Walker_walkLoop_22 : decode k_Walker_walkLoop 22 = .ok (.iload_n 2, 1) := by decide +kernel
theorem d_Walker_walkLoop_23 : decode k_Walker_walkLoop 23 = .ok (.invokestatic 44, 3) := by decide +kernel
theorem d_Walker_walkLoop_26 : decode k_Walker_walkLoop 26 = .ok (.ifCond .ne 5, 3) := by decide +kernel
theorem d_Walker_walkLoop_29 : decode k_Walker_walkLoop 29 = .ok (.iconst 1, 1) := by decide +kernel
theorem d_Walker_walkLoop_30 : decode k_Walker_walkLoop 30 = .ok (.ireturn, 1) := by decide +kernel
theorem d_Walker_walkLoop_31 : decode k_Walker_walkLoop 31 = .ok (.aload_n 0, 1) := by decide +kernel
theorem d_Walker_walkLoop_32 : decode k_Walker_walkLoop 32 = .ok (.aload_n 1, 1) := by decide +kernel
theorem d_Walker_walkLoop_33 : decode k_Walker_walkLoop 33 = .ok (.aload_n 0, 1) := by decide +kernel
theorem d_Walker_walkLoop_34 : decode k_Walker_walkLoop 34 = .ok (.iload_n 2, 1) := by decide +kernel
theorem d_Walker_walkLoop_35 : decode k_Walker_walkLoop 35 = .ok (.invokevirtual 48, 3) := by decide +kernel
theorem d_Walker_walkLoop_38 : decode k_Walker_walkLoop 38 = .ok (.iload_n 3, 1) := by decide +kernel
theorem d_Walker_walkLoop_39 : decode k_Walker_walkLoop 39 = .ok (.iconst 1, 1) := by decide +kernel
theorem d_Walker_walkLoop_40 : decode k_Walker_walkLoop 40 = .ok (.iadd, 1) := by decide +kernel
theorem d_Walker_walkLoop_41 : decode k_Walker_walkLoop 41 = .ok (.invokestatic 15, 3) := by decide +kernel
theorem d_Walker_walkLoop_44 : decode k_Walker_walkLoop 44 = .ok (.ifCond .ne 5, 3) := by decide +kernel
theorem d_Walker_walkLoop_47 : decode k_Walker_walkLoop 47 = .ok (.iconst 0, 1) := by decide +kernel
theorem d_Walker_walkLoop_48 : decode k_Walker_walkLoop 48 = .ok (.ireturn, 1) := by decide +kernel
theorem d_Walker_walkLoop_49 : decode k_Walker_walkLoop 49 = .ok (.iinc 4 1, 3) := by decide +kernel
theorem d_Walker_walkLoop_52 : decode k_Walker_walkLoop 52 = .ok (.goto (-49), 3) := by decide +kernel
theorem d_Walker_walkLoop_55 : decode k_Walker_walkLoop 55 = .ok (.iconst 0, 1) := by decide +kernel
theorem d_Walker_walkLoop_56 : decode k_Walker_walkLoop 56 = .ok (.ireturn, 1) := by decide +kernel
theorem d_Walker_walkStatement_0 : decode k_Walker_walkStatement 0 = .ok (.aload_n 1, 1) := by decide +kernel
theorem d_Walker_walkStatement_1 : decode k_Walker_walkStatement 1 = .ok (.invokevirtual 38, 3) := by decide +kernel
theorem d_Walker_walkStatement_4 : decode k_Walker_walkStatement 4 = .ok (.ifCond .ne 5, 3) := by decide +kernel
theorem d_Walker_walkStatement_7 : decode k_Walker_walkStatement 7 = .ok (.iconst 0, 1) := by decide +kernel
theorem d_Walker_walkStatement_8 : decode k_Walker_walkStatement 8 = .ok (.ireturn, 1) := by decide +kernel
theorem d_Walker_walkStatement_9 : decode k_Walker_walkStatement 9 = .ok (.aload_n 0, 1) := by decide +kernel
theorem d_Walker_walkStatement_10 : decode k_Walker_walkStatement 10 = .ok (.iload_n 2, 1) := by decide +kernel
theorem d_Walker_walkStatement_11 : decode k_Walker_walkStatement 11 = .ok (.invokevirtual 25, 3) := by decide +kernel
theorem d_Walker_walkStatement_14 : decode k_Walker_walkStatement 14 = .ok (.istore 4, 2) := by decide +kernel
theorem d_Walker_walkStatement_16 : decode k_Walker_walkStatement 16 = .ok (.iload 4, 2) := by decide +kernel
theorem d_Walker_walkStatement_18 : decode k_Walker_walkStatement 18 = .ok (.iconst 2, 1) := by decide +kernel
theorem d_Walker_walkStatement_19 : decode k_Walker_walkStatement 19 = .ok (.if_icmp .eq 10, 3) := by decide +kernel
theorem d_Walker_walkStatement_22 : decode k_Walker_walkStatement 22 = .ok (.iload 4, 2) := by decide +kernel
theorem d_Walker_walkStatement_24 : decode k_Walker_walkStatement 24 = .ok (.bipush 10, 2) := by decide +kernel
theorem d_Walker_walkStatement_26 : decode k_Walker_walkStatement 26 = .ok (.if_icmp .ne 22, 3) := by decide +kernel
theorem d_Walker_walkStatement_29 : decode k_Walker_walkStatement 29 = .ok (.aload_n 0, 1) := by decide +kernel
theorem d_Walker_walkStatement_30 : decode k_Walker_walkStatement 30 = .ok (.aload_n 1, 1) := by decide +kernel
theorem d_Walker_walkStatement_31 : decode k_Walker_walkStatement 31 = .ok (.aload_n 0, 1) := by decide +kernel
theorem d_Walker_walkStatement_32 : decode k_Walker_walkStatement 32 = .ok (.iload_n 2, 1) := by decide +kernel
theorem d_Walker_walkStatement_33 : decode k_Walker_walkStatement 33 = .ok (.invokevirtual 51, 3) := by decide +kernel
theorem d_Walker_walkStatement_36 : decode k_Walker_walkStatement 36 = .ok (.aload_n 0, 1) := by decide +kernel
theorem d_Walker_walkStatement_37 : decode k_Walker_walkStatement 37 = .ok (.iload_n 2, 1) := by decide +kernel
theorem d_Walker_walkStatement_38 : decode k_Walker_walkStatement 38 = .ok (.invokevirtual 54, 3) := by decide +kernel
theorem d_Walker_walkStatement_41 : decode k_Walker_walkStatement 41 = .ok (.iconst 1, 1) := by decide +kernel
theorem d_Walker_walkStatement_42 : decode k_Walker_walkStatement 42 = .ok (.iadd, 1) := by decide +kernel
theorem d_Walker_walkStatement_43 : decode k_Walker_walkStatement 43 = .ok (.invokestatic 57, 3) := by decide +kernel
theorem d_Walker_walkStatement_46 : decode k_Walker_walkStatement 46 = .ok (.iconst 1, 1) := by decide +kernel
theorem d_Walker_walkStatement_47 : decode k_Walker_walkStatement 47 = .ok (.ireturn, 1) := by decide +kernel
theorem d_Walker_walkStatement_48 : decode k_Walker_walkStatement 48 = .ok (.aload_n 0, 1) := by decide +kernel
theorem d_Walker_walkStatement_49 : decode k_Walker_walkStatement 49 = .ok (.aload_n 1, 1) := by decide +kernel
theorem d_Walker_walkStatement_50 : decode k_Walker_walkStatement 50 = .ok (.iload_n 2, 1) := by decide +kernel
theorem d_Walker_walkStatement_51 : decode k_Walker_walkStatement 51 = .ok (.invokestatic 44, 3) := by decide +kernel
theorem d_Walker_walkStatement_54 : decode k_Walker_walkStatement 54 = .ok (.ifCond .eq 7, 3) := by decide +kernel
theorem d_Walker_walkStatement_57 : decode k_Walker_walkStatement 57 = .ok (.iconst 1, 1) := by decide +kernel
theorem d_Walker_walkStatement_58 : decode k_Walker_walkStatement 58 = .ok (.goto 4, 3) := by decide +kernel
theorem d_Walker_walkStatement_61 : decode k_Walker_walkStatement 61 = .ok (.iconst 0, 1) := by decide +kernel
theorem d_Walker_walkStatement_62 : decode k_Walker_walkStatement 62 = .ok (.istore 5, 2) := by decide +kernel
theorem d_Walker_walkStatement_64 : decode k_Walker_walkStatement 64 = .ok (.iload 5, 2) := by decide +kernel
theorem d_Walker_walkStatement_66 : decode k_Walker_walkStatement 66 = .ok (.ifCond .eq 11, 3) := by decide +kernel
theorem d_Walker_walkStatement_69 : decode k_Walker_walkStatement 69 = .ok (.aload_n 0, 1) := by decide +kernel
theorem d_Walker_walkStatement_70 : decode k_Walker_walkStatement 70 = .ok (.iload_n 2, 1) := by decide +kernel
theorem d_Walker_walkStatement_71 : decode k_Walker_walkStatement 71 = .ok (.invokevirtual 48, 3) := by decide +kernel
theorem d_Walker_walkStatement_74 : decode k_Walker_walkStatement 74 = .ok (.goto 8, 3) := by decide +kernel
theorem d_Walker_walkStatement_77 : decode k_Walker_walkStatement 77 = .ok (.aload_n 0, 1) := by decide +kernel
theorem d_Walker_walkStatement_78 : decode k_Walker_walkStatement 78 = .ok (.iload_n 2, 1) := by decide +kernel
theorem d_Walker_walkStatement_79 : decode k_Walker_walkStatement 79 = .ok (.invokevirtual 61, 3) := by decide +kernel
theorem d_Walker_walkStatement_82 : decode k_Walker_walkStatement 82 = .ok (.istore 6, 2) := by decide +kernel
theorem d_Walker_walkStatement_84 : decode k_Walker_walkStatement 84 = .ok (.aload_n 0, 1) := by decide +kernel
theorem d_Walker_walkStatement_85 : decode k_Walker_walkStatement 85 = .ok (.aload_n 1, 1) := by decide +kernel
theorem d_Walker_walkStatement_86 : decode k_Walker_walkStatement 86 = .ok (.iload 6, 2) := by decide +kernel
theorem d_Walker_walkStatement_88 : decode k_Walker_walkStatement 88 = .ok (.iload_n 3, 1) := by decide +kernel
theorem d_Walker_walkStatement_89 : decode k_Walker_walkStatement 89 = .ok (.iconst 1, 1) := by decide +kernel
theorem d_Walker_walkStatement_90 : decode k_Walker_walkStatement 90 = .ok (.iadd, 1) := by decide +kernel
theorem d_Walker_walkStatement_91 : decode k_Walker_walkStatement 91 = .ok (.invokestatic 15, 3) := by decide +kernel
theorem d_Walker_walkStatement_94 : decode k_Walker_walkStatement 94 = .ok (.ireturn, 1) := by decide +kernel
