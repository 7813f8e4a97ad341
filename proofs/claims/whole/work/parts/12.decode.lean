theorem d_M_expression_0 : decode k_M_expression 0 = .ok (.aload_n 0, 1) := by decide +kernel
theorem d_M_expression_1 : decode k_M_expression 1 = .ok (.invokevirtual 124, 3) := by decide +kernel
theorem d_M_expression_4 : decode k_M_expression 4 = .ok (.istore_n 2, 1) := by decide +kernel
theorem d_M_expression_5 : decode k_M_expression 5 = .ok (.iload_n 1, 1) := by decide +kernel
theorem d_M_expression_6 : decode k_M_expression 6 = .ok (.bipush 7, 2) := by decide +kernel
theorem d_M_expression_8 : decode k_M_expression 8 = .ok (.if_icmp .gt 7, 3) := by decide +kernel
theorem d_M_expression_11 : decode k_M_expression 11 = .ok (.iload_n 2, 1) := by decide +kernel
theorem d_M_expression_12 : decode k_M_expression 12 = .ok (.ifCond .ge 5, 3) := by decide +kernel
theorem d_M_expression_15 : decode k_M_expression 15 = .ok (.iconst 0, 1) := by decide +kernel
theorem d_M_expression_16 : decode k_M_expression 16 = .ok (.ireturn, 1) := by decide +kernel
theorem d_M_expression_17 : decode k_M_expression 17 = .ok (.aload_n 0, 1) := by decide +kernel
theorem d_M_expression_18 : decode k_M_expression 18 = .ok (.dup, 1) := by decide +kernel
theorem d_M_expression_19 : decode k_M_expression 19 = .ok (.getfield 121, 3) := by decide +kernel
theorem d_M_expression_22 : decode k_M_expression 22 = .ok (.iconst 1, 1) := by decide +kernel
theorem d_M_expression_23 : decode k_M_expression 23 = .ok (.iadd, 1) := by decide +kernel
theorem d_M_expression_24 : decode k_M_expression 24 = .ok (.putfield 121, 3) := by decide +kernel
theorem d_M_expression_27 : decode k_M_expression 27 = .ok (.iload_n 2, 1) := by decide +kernel
theorem d_M_expression_28 : decode k_M_expression 28 = .ok (.invokestatic 130, 3) := by decide +kernel
theorem d_M_expression_31 : decode k_M_expression 31 = .ok (.ifCond .eq 50, 3) := by decide +kernel
theorem d_M_expression_34 : decode k_M_expression 34 = .ok (.iload_n 2, 1) := by decide +kernel
theorem d_M_expression_35 : decode k_M_expression 35 = .ok (.bipush 48, 2) := by decide +kernel
theorem d_M_expression_37 : decode k_M_expression 37 = .ok (.isub, 1) := by decide +kernel
theorem d_M_expression_38 : decode k_M_expression 38 = .ok (.istore_n 3, 1) := by decide +kernel
theorem d_M_expression_39 : decode k_M_expression 39 = .ok (.aload_n 0, 1) := by decide +kernel
theorem d_M_expression_40 : decode k_M_expression 40 = .ok (.invokevirtual 124, 3) := by decide +kernel
theorem d_M_expression_43 : decode k_M_expression 43 = .ok (.invokestatic 130, 3) := by decide +kernel
theorem d_M_expression_46 : decode k_M_expression 46 = .ok (.ifCond .eq 26, 3) := by decide +kernel
theorem d_M_expression_49 : decode k_M_expression 49 = .ok (.bipush 10, 2) := by decide +kernel
theorem d_M_expression_51 : decode k_M_expression 51 = .ok (.iload_n 3, 1) := by decide +kernel
theorem d_M_expression_52 : decode k_M_expression 52 = .ok (.imul, 1) := by decide +kernel
theorem d_M_expression_53 : decode k_M_expression 53 = .ok (.aload_n 0, 1) := by decide +kernel
theorem d_M_expression_54 : decode k_M_expression 54 = .ok (.invokevirtual 124, 3) := by decide +kernel
theorem d_M_expression_57 : decode k_M_expression 57 = .ok (.iadd, 1) := by decide +kernel
theorem d_M_expression_58 : decode k_M_expression 58 = .ok (.bipush 48, 2) := by decide +kernel
theorem d_M_expression_60 : decode k_M_expression 60 = .ok (.isub, 1) := by decide +kernel
theorem d_M_expression_61 : decode k_M_expression 61 = .ok (.istore_n 3, 1) := by decide +kernel
theorem d_M_expression_62 : decode k_M_expression 62 = .ok (.aload_n 0, 1) := by decide +kernel
theorem d_M_expression_63 : decode k_M_expression 63 = .ok (.dup, 1) := by decide +kernel
theorem d_M_expression_64 : decode k_M_expression 64 = .ok (.getfield 121, 3) := by decide +kernel
theorem d_M_expression_67 : decode k_M_expression 67 = .ok (.iconst 1, 1) := by decide +kernel
theorem d_M_expression_68 : decode k_M_expression 68 = .ok (.iadd, 1) := by decide +kernel
theorem d_M_expression_69 : decode k_M_expression 69 = .ok (.putfield 121, 3) := by decide +kernel
theorem d_M_expression_72 : decode k_M_expression 72 = .ok (.aload_n 0, 1) := by decide +kernel
theorem d_M_expression_73 : decode k_M_expression 73 = .ok (.iconst 0, 1) := by decide +kernel
theorem d_M_expression_74 : decode k_M_expression 74 = .ok (.iload_n 3, 1) := by decide +kernel
theorem d_M_expression_75 : decode k_M_expression 75 = .ok (.invokevirtual 133, 3) := by decide +kernel
theorem d_M_expression_78 : decode k_M_expression 78 = .ok (.goto 83, 3) := by decide +kernel
theorem d_M_expression_81 : decode k_M_expression 81 = .ok (.iload_n 2, 1) := by decide +kernel
theorem d_M_expression_82 : decode k_M_expression 82 = .ok (.invokestatic 127, 3) := by decide +kernel
theorem d_M_expression_85 : decode k_M_expression 85 = .ok (.ifCond .eq 15, 3) := by decide +kernel
theorem d_M_expression_88 : decode k_M_expression 88 = .ok (.aload_n 0, 1) := by decide +kernel
theorem d_M_expression_89 : decode k_M_expression 89 = .ok (.iconst 1, 1) := by decide +kernel
theorem d_M_expression_90 : decode k_M_expression 90 = .ok (.iload_n 2, 1) := by decide +kernel
theorem d_M_expression_91 : decode k_M_expression 91 = .ok (.bipush 97, 2) := by decide +kernel
theorem d_M_expression_93 : decode k_M_expression 93 = .ok (.isub, 1) := by decide +kernel
theorem d_M_expression_94 : decode k_M_expression 94 = .ok (.invokevirtual 133, 3) := by decide +kernel
theorem d_M_expression_97 : decode k_M_expression 97 = .ok (.goto 64, 3) := by decide +kernel
theorem d_M_expression_100 : decode k_M_expression 100 = .ok (.iload_n 2, 1) := by decide +kernel
theorem d_M_expression_101 : decode k_M_expression 101 = .ok (.bipush 33, 2) := by decide +kernel
theorem d_M_expression_103 : decode k_M_expression 103 = .ok (.if_icmp .ne 21, 3) := by decide +kernel
theorem d_M_expression_106 : decode k_M_expression 106 = .ok (.aload_n 0, 1) := by decide +kernel
theorem d_M_expression_107 : decode k_M_expression 107 = .ok (.iconst 4, 1) := by decide +kernel
theorem d_M_expression_108 : decode k_M_expression 108 = .ok (.bipush 7, 2) := by decide +kernel
theorem d_M_expression_110 : decode k_M_expression 110 = .ok (.invokevirtual 93, 3) := by decide +kernel
theorem d_M_expression_113 : decode k_M_expression 113 = .ok (.aload_n 0, 1) := by decide +kernel
theorem d_M_expression_114 : decode k_M_expression 114 = .ok (.iconst 2, 1) := by decide +kernel
theorem d_M_expression_115 : decode k_M_expression 115 = .ok (.iload_n 1, 1) := by decide +kernel
theorem d_M_expression_116 : decode k_M_expression 116 = .ok (.iconst 1, 1) := by decide +kernel
theorem d_M_expression_117 : decode k_M_expression 117 = .ok (.iadd, 1) := by decide +kernel
theorem d_M_expression_118 : decode k_M_expression 118 = .ok (.invokevirtual 93, 3) := by decide +kernel
theorem d_M_expression_121 : decode k_M_expression 121 = .ok (.goto 40, 3) := by decide +kernel
theorem d_M_expression_124 : decode k_M_expression 124 = .ok (.iload_n 2, 1) := by decide +kernel
theorem d_M_expression_125 : decode k_M_expression 125 = .ok (.bipush 40, 2) := by decide +kernel
theorem d_M_expression_127 : decode k_M_expression 127 = .ok (.if_icmp .ne 22, 3) := by decide +kernel
theorem d_M_expression_130 : decode k_M_expression 130 = .ok (.aload_n 0, 1) := by decide +kernel
theorem d_M_expression_131 : decode k_M_expression 131 = .ok (.iconst 3, 1) := by decide +kernel
theorem d_M_expression_132 : decode k_M_expression 132 = .ok (.iload_n 1, 1) := by decide +kernel
theorem d_M_expression_133 : decode k_M_expression 133 = .ok (.iconst 1, 1) := by decide +kernel
theorem d_M_expression_134 : decode k_M_expression 134 = .ok (.iadd, 1) := by decide +kernel
theorem d_M_expression_135 : decode k_M_expression 135 = .ok (.invokevirtual 93, 3) := by decide +kernel
theorem d_M_expression_138 : decode k_M_expression 138 = .ok (.aload_n 0, 1) := by decide +kernel
theorem d_M_expression_139 : decode k_M_expression 139 = .ok (.iconst 2, 1) := by decide +kernel
theorem d_M_expression_140 : decode k_M_expression 140 = .ok (.iload_n 1, 1) := by decide +kernel
theorem d_M_expression_141 : decode k_M_expression 141 = .ok (.iconst 1, 1) := by decide +kernel
theorem d_M_expression_142 : decode k_M_expression 142 = .ok (.iadd, 1) := by decide +kernel
theorem d_M_expression_143 : decode k_M_expression 143 = .ok (.invokevirtual 93, 3) := by decide +kernel
theorem d_M_expression_146 : decode k_M_expression 146 = .ok (.goto 15, 3) := by decide +kernel
theorem d_M_expression_149 : decode k_M_expression 149 = .ok (.aload_n 0, 1) := by decide +kernel
theorem d_M_expression_150 : decode k_M_expression 150 = .ok (.dup, 1) := by decide +kernel
theorem d_M_expression_151 : decode k_M_expression 151 = .ok (.getfield 121, 3) := by decide +kernel
theorem d_M_expression_154 : decode k_M_expression 154 = .ok (.iconst 1, 1) := by decide +kernel
theorem d_M_expression_155 : decode k_M_expression 155 = .ok (.isub, 1) := by decide +kernel
theorem d_M_expression_156 : decode k_M_expression 156 = .ok (.putfield 121, 3) := by decide +kernel
theorem d_M_expression_159 : decode k_M_expression 159 = .ok (.iconst 0, 1) := by decide +kernel
theorem d_M_expression_160 : decode k_M_expression 160 = .ok (.ireturn, 1) := by decide +kernel
theorem d_M_expression_161 : decode k_M_expression 161 = .ok (.iconst 1, 1) := by decide +kernel
theorem d_M_expression_162 : decode k_M_expression 162 = .ok (.ireturn, 1) := by decide +kernel
theorem d_M_operator_0 : decode k_M_operator 0 = .ok (.aload_n 0, 1) := by decide +kernel
theorem d_M_operator_1 : decode k_M_operator 1 = .ok (.invokevirtual 124, 3) := by decide +kernel
theorem d_M_operator_4 : decode k_M_operator 4 = .ok (.istore_n 2, 1) := by decide +kernel
theorem d_M_operator_5 : decode k_M_operator 5 = .ok (.iload_n 2, 1) := by decide +kernel
theorem d_M_operator_6 : decode k_M_operator 6 = .ok (.bipush 43, 2) := by decide +kernel
theorem d_M_operator_8 : decode k_M_operator 8 = .ok (.if_icmp .ne 7, 3) := by decide +kernel
theorem d_M_operator_11 : decode k_M_operator 11 = .ok (.iconst 3, 1) := by decide +kernel
theorem d_M_operator_12 : decode k_M_operator 12 = .ok (.goto 35, 3) := by decide +kernel
theorem d_M_operator_15 : decode k_M_operator 15 = .ok (.iload_n 2, 1) := by decide +kernel
theorem d_M_operator_16 : decode k_M_operator 16 = .ok (.bipush 45, 2) := by decide +kernel
theorem d_M_operator_18 : decode k_M_operator 18 = .ok (.if_icmp .ne 7, 3) := by decide +kernel
theorem d_M_operator_21 : decode k_M_operator 21 = .ok (.iconst 4, 1) := by decide +kernel
theorem d_M_operator_22 : decode k_M_operator 22 = .ok (.goto 25, 3) := by decide +kernel
theorem d_M_operator_25 : decode k_M_operator 25 = .ok (.iload_n 2, 1) := by decide +kernel
theorem d_M_operator_26 : decode k_M_operator 26 = .ok (.bipush 42, 2) := by decide +kernel
theorem d_M_operator_28 : decode k_M_operator 28 = .ok (.if_icmp .ne 7, 3) := by decide +kernel
theorem d_M_operator_31 : decode k_M_operator 31 = .ok (.iconst 5, 1) := by decide +kernel
theorem d_M_operator_32 : decode k_M_operator 32 = .ok (.goto 15, 3) := by decide +kernel
theorem d_M_operator_35 : decode k_M_operator 35 = .ok (.iload_n 2, 1) := by decide +kernel
theorem d_M_operator_36 : decode k_M_operator 36 = .ok (.bipush 60, 2) := by decide +kernel
theorem d_M_operator_38 : decode k_M_operator 38 = .ok (.if_icmp .ne 8, 3) := by decide +kernel
theorem d_M_operator_41 : decode k_M_operator 41 = .ok (.bipush 6, 2) := by decide +kernel
theorem d_M_operator_43 : decode k_M_operator 43 = .ok (.goto 4, 3) := by decide +kernel
theorem d_M_operator_46 : decode k_M_operator 46 = .ok (.iconst (-1), 1) := by decide +kernel
theorem d_M_operator_47 : decode k_M_operator 47 = .ok (.istore_n 3, 1) := by decide +kernel
theorem d_M_operator_48 : decode k_M_operator 48 = .ok (.iload_n 3, 1) := by decide +kernel
theorem d_M_operator_49 : decode k_M_operator 49 = .ok (.ifCond .ge 5, 3) := by decide +kernel
theorem d_M_operator_52 : decode k_M_operator 52 = .ok (.iconst 0, 1) := by decide +kernel
theorem d_M_operator_53 : decode k_M_operator 53 = .ok (.ireturn, 1) := by decide +kernel
theorem d_M_operator_54 : decode k_M_operator 54 = .ok (.aload_n 0, 1) := by decide +kernel
theorem d_M_operator_55 : decode k_M_operator 55 = .ok (.dup, 1) := by decide +kernel
theorem d_M_operator_56 : decode k_M_operator 56 = .ok (.getfield 121, 3) := by decide +kernel
theorem d_M_operator_59 : decode k_M_operator 59 = .ok (.iconst 1, 1) := by decide +kernel
theorem d_M_operator_60 : decode k_M_operator 60 = .ok (.iadd, 1) := by decide +kernel
theorem d_M_operator_61 : decode k_M_operator 61 = .ok (.putfield 121, 3) := by decide +kernel
theorem d_M_operator_64 : decode k_M_operator 64 = .ok (.aload_n 0, 1) := by decide +kernel
theorem d_M_operator_65 : decode k_M_operator 65 = .ok (.iconst 4, 1) := by decide +kernel
theorem d_M_operator_66 : decode k_M_operator 66 = .ok (.iload_n 3, 1) := by decide +kernel
theorem d_M_operator_67 : decode k_M_operator 67 = .ok (.invokevirtual 93, 3) := by decide +kernel
theorem d_M_operator_70 : decode k_M_operator 70 = .ok (.aload_n 0, 1) := by decide +kernel
theorem d_M_operator_71 : decode k_M_operator 71 = .ok (.iconst 1, 1) := by decide +kernel
theorem d_M_operator_72 : decode k_M_operator 72 = .ok (.bipush 41, 2) := by decide +kernel
theorem d_M_operator_74 : decode k_M_operator 74 = .ok (.invokevirtual 93, 3) := by decide +kernel
theorem d_M_operator_77 : decode k_M_operator 77 = .ok (.aload_n 0, 1) := by decide +kernel
theorem d_M_operator_78 : decode k_M_operator 78 = .ok (.iconst 2, 1) := by decide +kernel
theorem d_M_operator_79 : decode k_M_operator 79 = .ok (.iload_n 1, 1) := by decide +kernel
theorem d_M_operator_80 : decode k_M_operator 80 = .ok (.invokevirtual 93, 3) := by decide +kernel
theorem d_M_operator_83 : decode k_M_operator 83 = .ok (.iconst 1, 1) := by decide +kernel
theorem d_M_operator_84 : decode k_M_operator 84 = .ok (.ireturn, 1) := by decide +kernel
theorem d_M_goOn_0 : decode k_M_goOn 0 = .ok (.iload_n 1, 1) := by decide +kernel
theorem d_M_goOn_1 : decode k_M_goOn 1 = .ok (.tableswitch 204 0 8 #[51, 57, 79, 85, 91, 105, 133, 146, 169], 51) := by decide +kernel
theorem d_M_goOn_52 : decode k_M_goOn 52 = .ok (.aload_n 0, 1) := by decide +kernel
theorem d_M_goOn_53 : decode k_M_goOn 53 = .ok (.iload_n 2, 1) := by decide +kernel
theorem d_M_goOn_54 : decode k_M_goOn 54 = .ok (.invokevirtual 136, 3) := by decide +kernel
theorem d_M_goOn_57 : decode k_M_goOn 57 = .ok (.ireturn, 1) := by decide +kernel
theorem d_M_goOn_58 : decode k_M_goOn 58 = .ok (.aload_n 0, 1) := by decide +kernel
theorem d_M_goOn_59 : decode k_M_goOn 59 = .ok (.invokevirtual 124, 3) := by decide +kernel
theorem d_M_goOn_62 : decode k_M_goOn 62 = .ok (.iload_n 2, 1) := by decide +kernel
theorem d_M_goOn_63 : decode k_M_goOn 63 = .ok (.if_icmp .eq 5, 3) := by decide +kernel
theorem d_M_goOn_66 : decode k_M_goOn 66 = .ok (.iconst 0, 1) := by decide +kernel
theorem d_M_goOn_67 : decode k_M_goOn 67 = .ok (.ireturn, 1) := by decide +kernel
theorem d_M_goOn_68 : decode k_M_goOn 68 = .ok (.aload_n 0, 1) := by decide +kernel
theorem d_M_goOn_69 : decode k_M_goOn 69 = .ok (.dup, 1) := by decide +kernel
theorem d_M_goOn_70 : decode k_M_goOn 70 = .ok (.getfield 121, 3) := by decide +kernel
theorem d_M_goOn_73 : decode k_M_goOn 73 = .ok (.iconst 1, 1) := by decide +kernel
theorem d_M_goOn_74 : decode k_M_goOn 74 = .ok (.iadd, 1) := by decide +kernel
theorem d_M_goOn_75 : decode k_M_goOn 75 = .ok (.putfield 121, 3) := by decide +kernel
theorem d_M_goOn_78 : decode k_M_goOn 78 = .ok (.iconst 1, 1) := by decide +kernel
theorem d_M_goOn_79 : decode k_M_goOn 79 = .ok (.ireturn, 1) := by decide +kernel
theorem d_M_goOn_80 : decode k_M_goOn 80 = .ok (.aload_n 0, 1) := by decide +kernel
theorem d_M_goOn_81 : decode k_M_goOn 81 = .ok (.iload_n 2, 1) := by decide +kernel
theorem d_M_goOn_82 : decode k_M_goOn 82 = .ok (.invokevirtual 139, 3) := by decide +kernel
theorem d_M_goOn_85 : decode k_M_goOn 85 = .ok (.ireturn, 1) := by decide +kernel
theorem d_M_goOn_86 : decode k_M_goOn 86 = .ok (.aload_n 0, 1) := by decide +kernel
theorem d_M_goOn_87 : decode k_M_goOn 87 = .ok (.iload_n 2, 1) := by decide +kernel
theorem d_M_goOn_88 : decode k_M_goOn 88 = .ok (.invokevirtual 142, 3) := by decide +kernel
theorem d_M_goOn_91 : decode k_M_goOn 91 = .ok (.ireturn, 1) := by decide +kernel
theorem d_M_goOn_92 : decode k_M_goOn 92 = .ok (.aload_n 0, 1) := by decide +kernel
theorem d_M_goOn_93 : decode k_M_goOn 93 = .ok (.iload_n 2, 1) := by decide +kernel
theorem d_M_goOn_94 : decode k_M_goOn 94 = .ok (.bipush 16, 2) := by decide +kernel
theorem d_M_goOn_96 : decode k_M_goOn 96 = .ok (.irem, 1) := by decide +kernel
theorem d_M_goOn_97 : decode k_M_goOn 97 = .ok (.iload_n 2, 1) := by decide +kernel
theorem d_M_goOn_98 : decode k_M_goOn 98 = .ok (.bipush 16, 2) := by decide +kernel
theorem d_M_goOn_100 : decode k_M_goOn 100 = .ok (.idiv, 1) := by decide +kernel
theorem d_M_goOn_101 : decode k_M_goOn 101 = .ok (.invokevirtual 133, 3) := by decide +kernel
theorem d_M_goOn_104 : decode k_M_goOn 104 = .ok (.iconst 1, 1) := by decide +kernel
theorem d_M_goOn_105 : decode k_M_goOn 105 = .ok (.ireturn, 1) := by decide +kernel
theorem d_M_goOn_106 : decode k_M_goOn 106 = .ok (.aload_n 0, 1) := by decide +kernel
theorem d_M_goOn_107 : decode k_M_goOn 107 = .ok (.getfield 38, 3) := by decide +kernel
theorem d_M_goOn_110 : decode k_M_goOn 110 = .ok (.aload_n 0, 1) := by decide +kernel
theorem d_M_goOn_111 : decode k_M_goOn 111 = .ok (.dup, 1) := by decide +kernel
theorem d_M_goOn_112 : decode k_M_goOn 112 = .ok (.getfield 145, 3) := by decide +kernel
theorem d_M_goOn_115 : decode k_M_goOn 115 = .ok (.dup_x1, 1) := by decide +kernel
theorem d_M_goOn_116 : decode k_M_goOn 116 = .ok (.iconst 1, 1) := by decide +kernel
theorem d_M_goOn_117 : decode k_M_goOn 117 = .ok (.iadd, 1) := by decide +kernel
theorem d_M_goOn_118 : decode k_M_goOn 118 = .ok (.putfield 145, 3) := by decide +kernel
theorem d_M_goOn_121 : decode k_M_goOn 121 = .ok (.aload_n 0, 1) := by decide +kernel
theorem d_M_goOn_122 : decode k_M_goOn 122 = .ok (.getfield 118, 3) := by decide +kernel
theorem d_M_goOn_125 : decode k_M_goOn 125 = .ok (.iastore, 1) := by decide +kernel
theorem d_M_goOn_126 : decode k_M_goOn 126 = .ok (.aload_n 0, 1) := by decide +kernel
theorem d_M_goOn_127 : decode k_M_goOn 127 = .ok (.iload_n 2, 1) := by decide +kernel
theorem d_M_goOn_128 : decode k_M_goOn 128 = .ok (.iconst 0, 1) := by decide +kernel
theorem d_M_goOn_129 : decode k_M_goOn 129 = .ok (.invokevirtual 133, 3) := by decide +kernel
theorem d_M_goOn_132 : decode k_M_goOn 132 = .ok (.iconst 1, 1) := by decide +kernel
theorem d_M_goOn_133 : decode k_M_goOn 133 = .ok (.ireturn, 1) := by decide +kernel
theorem d_M_goOn_134 : decode k_M_goOn 134 = .ok (.aload_n 0, 1) := by decide +kernel
theorem d_M_goOn_135 : decode k_M_goOn 135 = .ok (.bipush 8, 2) := by decide +kernel
theorem d_M_goOn_137 : decode k_M_goOn 137 = .ok (.iload_n 2, 1) := by decide +kernel
theorem d_M_goOn_138 : decode k_M_goOn 138 = .ok (.invokevirtual 133, 3) := by decide +kernel
theorem d_M_goOn_141 : decode k_M_goOn 141 = .ok (.aload_n 0, 1) := by decide +kernel
theorem d_M_goOn_142 : decode k_M_goOn 142 = .ok (.invokevirtual 148, 3) := by decide +kernel
theorem d_M_goOn_145 : decode k_M_goOn 145 = .ok (.iconst 1, 1) := by decide +kernel
theorem d_M_goOn_146 : decode k_M_goOn 146 = .ok (.ireturn, 1) := by decide +kernel
theorem d_M_goOn_147 : decode k_M_goOn 147 = .ok (.aload_n 0, 1) := by decide +kernel
theorem d_M_goOn_148 : decode k_M_goOn 148 = .ok (.invokevirtual 124, 3) := by decide +kernel
theorem d_M_goOn_151 : decode k_M_goOn 151 = .ok (.bipush 58, 2) := by decide +kernel
theorem d_M_goOn_153 : decode k_M_goOn 153 = .ok (.if_icmp .ne 11, 3) := by decide +kernel
theorem d_M_goOn_156 : decode k_M_goOn 156 = .ok (.aload_n 0, 1) := by decide +kernel
theorem d_M_goOn_157 : decode k_M_goOn 157 = .ok (.iload_n 2, 1) := by decide +kernel
theorem d_M_goOn_158 : decode k_M_goOn 158 = .ok (.invokevirtual 151, 3) := by decide +kernel
theorem d_M_goOn_161 : decode k_M_goOn 161 = .ok (.goto 7, 3) := by decide +kernel
theorem d_M_goOn_164 : decode k_M_goOn 164 = .ok (.aload_n 0, 1) := by decide +kernel
theorem d_M_goOn_165 : decode k_M_goOn 165 = .ok (.invokevirtual 148, 3) := by decide +kernel
theorem d_M_goOn_168 : decode k_M_goOn 168 = .ok (.iconst 1, 1) := by decide +kernel
theorem d_M_goOn_169 : decode k_M_goOn 169 = .ok (.ireturn, 1) := by decide +kernel
theorem d_M_goOn_170 : decode k_M_goOn 170 = .ok (.aload_n 0, 1) := by decide +kernel
theorem d_M_goOn_171 : decode k_M_goOn 171 = .ok (.bipush 8, 2) := by decide +kernel
theorem d_M_goOn_173 : decode k_M_goOn 173 = .ok (.iconst 0, 1) := by decide +kernel
theorem d_M_goOn_174 : decode k_M_goOn 174 = .ok (.invokevirtual 133, 3) := by decide +kernel
theorem d_M_goOn_177 : decode k_M_goOn 177 = .ok (.aload_n 0, 1) := by decide +kernel
theorem d_M_goOn_178 : decode k_M_goOn 178 = .ok (.invokevirtual 148, 3) := by decide +kernel
theorem d_M_goOn_181 : decode k_M_goOn 181 = .ok (.aload_n 0, 1) := by decide +kernel
theorem d_M_goOn_182 : decode k_M_goOn 182 = .ok (.getfield 38, 3) := by decide +kernel
theorem d_M_goOn_185 : decode k_M_goOn 185 = .ok (.aload_n 0, 1) := by decide +kernel
theorem d_M_goOn_186 : decode k_M_goOn 186 = .ok (.dup, 1) := by decide +kernel
theorem d_M_goOn_187 : decode k_M_goOn 187 = .ok (.getfield 145, 3) := by decide +kernel
theorem d_M_goOn_190 : decode k_M_goOn 190 = .ok (.dup_x1, 1) := by decide +kernel
theorem d_M_goOn_191 : decode k_M_goOn 191 = .ok (.iconst 1, 1) := by decide +kernel
theorem d_M_goOn_192 : decode k_M_goOn 192 = .ok (.iadd, 1) := by decide +kernel
theorem d_M_goOn_193 : decode k_M_goOn 193 = .ok (.putfield 145, 3) := by decide +kernel
theorem d_M_goOn_196 : decode k_M_goOn 196 = .ok (.aload_n 0, 1) := by decide +kernel
theorem d_M_goOn_197 : decode k_M_goOn 197 = .ok (.getfield 118, 3) := by decide +kernel
theorem d_M_goOn_200 : decode k_M_goOn 200 = .ok (.iconst 1, 1) := by decide +kernel
theorem d_M_goOn_201 : decode k_M_goOn 201 = .ok (.isub, 1) := by decide +kernel
theorem d_M_goOn_202 : decode k_M_goOn 202 = .ok (.iastore, 1) := by decide +kernel
theorem d_M_goOn_203 : decode k_M_goOn 203 = .ok (.iconst 1, 1) := by decide +kernel
theorem d_M_goOn_204 : decode k_M_goOn 204 = .ok (.ireturn, 1) := by decide +kernel
theorem d_M_goOn_205 : decode k_M_goOn 205 = .ok (.aload_n 0, 1) := by decide +kernel
theorem d_M_goOn_206 : decode k_M_goOn 206 = .ok (.invokevirtual 148, 3) := by decide +kernel
theorem d_M_goOn_209 : decode k_M_goOn 209 = .ok (.iconst 1, 1) := by decide +kernel
theorem d_M_goOn_210 : decode k_M_goOn 210 = .ok (.ireturn, 1) := by decide +kernel
theorem d_M_choice_0 : decode k_M_choice 0 = .ok (.aload_n 0, 1) := by decide +kernel
theorem d_M_choice_1 : decode k_M_choice 1 = .ok (.dup, 1) := by decide +kernel
theorem d_M_choice_2 : decode k_M_choice 2 = .ok (.getfield 121, 3) := by decide +kernel
theorem d_M_choice_5 : decode k_M_choice 5 = .ok (.iconst 1, 1) := by decide +kernel
theorem d_M_choice_6 : decode k_M_choice 6 = .ok (.iadd, 1) := by decide +kernel
theorem d_M_choice_7 : decode k_M_choice 7 = .ok (.putfield 121, 3) := by decide +kernel
theorem d_M_choice_10 : decode k_M_choice 10 = .ok (.aload_n 0, 1) := by decide +kernel
theorem d_M_choice_11 : decode k_M_choice 11 = .ok (.bipush 9, 2) := by decide +kernel
theorem d_M_choice_13 : decode k_M_choice 13 = .ok (.iconst 0, 1) := by decide +kernel
theorem d_M_choice_14 : decode k_M_choice 14 = .ok (.invokevirtual 93, 3) := by decide +kernel
theorem d_M_choice_17 : decode k_M_choice 17 = .ok (.aload_n 0, 1) := by decide +kernel
theorem d_M_choice_18 : decode k_M_choice 18 = .ok (.iconst 1, 1) := by decide +kernel
theorem d_M_choice_19 : decode k_M_choice 19 = .ok (.bipush 125, 2) := by decide +kernel
theorem d_M_choice_21 : decode k_M_choice 21 = .ok (.invokevirtual 93, 3) := by decide +kernel
theorem d_M_choice_24 : decode k_M_choice 24 = .ok (.aload_n 0, 1) := by decide +kernel
theorem d_M_choice_25 : decode k_M_choice 25 = .ok (.iconst 0, 1) := by decide +kernel
theorem d_M_choice_26 : decode k_M_choice 26 = .ok (.iload_n 1, 1) := by decide +kernel
theorem d_M_choice_27 : decode k_M_choice 27 = .ok (.iconst 1, 1) := by decide +kernel
theorem d_M_choice_28 : decode k_M_choice 28 = .ok (.iadd, 1) := by decide +kernel
theorem d_M_choice_29 : decode k_M_choice 29 = .ok (.invokevirtual 93, 3) := by decide +kernel
theorem d_M_choice_32 : decode k_M_choice 32 = .ok (.aload_n 0, 1) := by decide +kernel
theorem d_M_choice_33 : decode k_M_choice 33 = .ok (.bipush 8, 2) := by decide +kernel
theorem d_M_choice_35 : decode k_M_choice 35 = .ok (.iconst 0, 1) := by decide +kernel
theorem d_M_choice_36 : decode k_M_choice 36 = .ok (.invokevirtual 93, 3) := by decide +kernel
theorem d_M_choice_39 : decode k_M_choice 39 = .ok (.aload_n 0, 1) := by decide +kernel
theorem d_M_choice_40 : decode k_M_choice 40 = .ok (.iconst 1, 1) := by decide +kernel
theorem d_M_choice_41 : decode k_M_choice 41 = .ok (.bipush 123, 2) := by decide +kernel
theorem d_M_choice_43 : decode k_M_choice 43 = .ok (.invokevirtual 93, 3) := by decide +kernel
theorem d_M_choice_46 : decode k_M_choice 46 = .ok (.return_, 1) := by decide +kernel
theorem d_M_fill_0 : decode k_M_fill 0 = .ok (.aload_n 0, 1) := by decide +kernel
theorem d_M_fill_1 : decode k_M_fill 1 = .ok (.dup, 1) := by decide +kernel
theorem d_M_fill_2 : decode k_M_fill 2 = .ok (.getfield 145, 3) := by decide +kernel
theorem d_M_fill_5 : decode k_M_fill 5 = .ok (.iconst 1, 1) := by decide +kernel
theorem d_M_fill_6 : decode k_M_fill 6 = .ok (.isub, 1) := by decide +kernel
theorem d_M_fill_7 : decode k_M_fill 7 = .ok (.putfield 145, 3) := by decide +kernel
theorem d_M_fill_10 : decode k_M_fill 10 = .ok (.aload_n 0, 1) := by decide +kernel
theorem d_M_fill_11 : decode k_M_fill 11 = .ok (.getfield 19, 3) := by decide +kernel
theorem d_M_fill_14 : decode k_M_fill 14 = .ok (.aload_n 0, 1) := by decide +kernel
theorem d_M_fill_15 : decode k_M_fill 15 = .ok (.getfield 38, 3) := by decide +kernel
theorem d_M_fill_18 : decode k_M_fill 18 = .ok (.aload_n 0, 1) := by decide +kernel
theorem d_M_fill_19 : decode k_M_fill 19 = .ok (.getfield 145, 3) := by decide +kernel
theorem d_M_fill_22 : decode k_M_fill 22 = .ok (.iaload, 1) := by decide +kernel
theorem d_M_fill_23 : decode k_M_fill 23 = .ok (.aload_n 0, 1) := by decide +kernel
theorem d_M_fill_24 : decode k_M_fill 24 = .ok (.getfield 118, 3) := by decide +kernel
theorem d_M_fill_27 : decode k_M_fill 27 = .ok (.iastore, 1) := by decide +kernel
theorem d_M_fill_28 : decode k_M_fill 28 = .ok (.return_, 1) := by decide +kernel
theorem d_M_read_0 : decode k_M_read 0 = .ok (.aload_n 0, 1) := by decide +kernel
theorem d_M_read_1 : decode k_M_read 1 = .ok (.iconst 0, 1) := by decide +kernel
theorem d_M_read_2 : decode k_M_read 2 = .ok (.putfield 90, 3) := by decide +kernel
theorem d_M_read_5 : decode k_M_read 5 = .ok (.aload_n 0, 1) := by decide +kernel
theorem d_M_read_6 : decode k_M_read 6 = .ok (.iconst 0, 1) := by decide +kernel
theorem d_M_read_7 : decode k_M_read 7 = .ok (.putfield 145, 3) := by decide +kernel
theorem d_M_read_10 : decode k_M_read 10 = .ok (.aload_n 0, 1) := by decide +kernel
theorem d_M_read_11 : decode k_M_read 11 = .ok (.iconst 0, 1) := by decide +kernel
theorem d_M_read_12 : decode k_M_read 12 = .ok (.putfield 121, 3) := by decide +kernel
theorem d_M_read_15 : decode k_M_read 15 = .ok (.aload_n 0, 1) := by decide +kernel
theorem d_M_read_16 : decode k_M_read 16 = .ok (.iconst 0, 1) := by decide +kernel
theorem d_M_read_17 : decode k_M_read 17 = .ok (.putfield 118, 3) := by decide +kernel
theorem d_M_read_20 : decode k_M_read 20 = .ok (.aload_n 0, 1) := by decide +kernel
theorem d_M_read_21 : decode k_M_read 21 = .ok (.iconst 0, 1) := by decide +kernel
theorem d_M_read_22 : decode k_M_read 22 = .ok (.iconst 0, 1) := by decide +kernel
theorem d_M_read_23 : decode k_M_read 23 = .ok (.invokevirtual 93, 3) := by decide +kernel
theorem d_M_read_26 : decode k_M_read 26 = .ok (.iconst 1, 1) := by decide +kernel
theorem d_M_read_27 : decode k_M_read 27 = .ok (.istore_n 1, 1) := by decide +kernel
theorem d_M_read_28 : decode k_M_read 28 = .ok (.aload_n 0, 1) := by decide +kernel
theorem d_M_read_29 : decode k_M_read 29 = .ok (.getfield 90, 3) := by decide +kernel
theorem d_M_read_32 : decode k_M_read 32 = .ok (.ifCond .le 43, 3) := by decide +kernel
theorem d_M_read_35 : decode k_M_read 35 = .ok (.iload_n 1, 1) := by decide +kernel
theorem d_M_read_36 : decode k_M_read 36 = .ok (.ifCond .eq 39, 3) := by decide +kernel
theorem d_M_read_39 : decode k_M_read 39 = .ok (.aload_n 0, 1) := by decide +kernel
theorem d_M_read_40 : decode k_M_read 40 = .ok (.dup, 1) := by decide +kernel
theorem d_M_read_41 : decode k_M_read 41 = .ok (.getfield 90, 3) := by decide +kernel
theorem d_M_read_44 : decode k_M_read 44 = .ok (.iconst 1, 1) := by decide +kernel
theorem d_M_read_45 : decode k_M_read 45 = .ok (.isub, 1) := by decide +kernel
theorem d_M_read_46 : decode k_M_read 46 = .ok (.putfield 90, 3) := by decide +kernel
theorem d_M_read_49 : decode k_M_read 49 = .ok (.aload_n 0, 1) := by decide +kernel
theorem d_M_read_50 : decode k_M_read 50 = .ok (.aload_n 0, 1) := by decide +kernel
theorem d_M_read_51 : decode k_M_read 51 = .ok (.getfield 32, 3) := by decide +kernel
theorem d_M_read_54 : decode k_M_read 54 = .ok (.aload_n 0, 1) := by decide +kernel
theorem d_M_read_55 : decode k_M_read 55 = .ok (.getfield 90, 3) := by decide +kernel
theorem d_M_read_58 : decode k_M_read 58 = .ok (.iaload, 1) := by decide +kernel
theorem d_M_read_59 : decode k_M_read 59 = .ok (.aload_n 0, 1) := by decide +kernel
theorem d_M_read_60 : decode k_M_read 60 = .ok (.getfield 35, 3) := by decide +kernel
theorem d_M_read_63 : decode k_M_read 63 = .ok (.aload_n 0, 1) := by decide +kernel
theorem d_M_read_64 : decode k_M_read 64 = .ok (.getfield 90, 3) := by decide +kernel
theorem d_M_read_67 : decode k_M_read 67 = .ok (.iaload, 1) := by decide +kernel
theorem d_M_read_68 : decode k_M_read 68 = .ok (.invokevirtual 154, 3) := by decide +kernel
theorem d_M_read_71 : decode k_M_read 71 = .ok (.istore_n 1, 1) := by decide +kernel
theorem d_M_read_72 : decode k_M_read 72 = .ok (.goto (-44), 3) := by decide +kernel
theorem d_M_read_75 : decode k_M_read 75 = .ok (.iload_n 1, 1) := by decide +kernel
theorem d_M_read_76 : decode k_M_read 76 = .ok (.ifCond .eq 16, 3) := by decide +kernel
theorem d_M_read_79 : decode k_M_read 79 = .ok (.aload_n 0, 1) := by decide +kernel
theorem d_M_read_80 : decode k_M_read 80 = .ok (.getfield 118, 3) := by decide +kernel
theorem d_M_read_83 : decode k_M_read 83 = .ok (.bipush 30, 2) := by decide +kernel
theorem d_M_read_85 : decode k_M_read 85 = .ok (.if_icmp .gt 7, 3) := by decide +kernel
theorem d_M_read_88 : decode k_M_read 88 = .ok (.iconst 1, 1) := by decide +kernel
theorem d_M_read_89 : decode k_M_read 89 = .ok (.goto 4, 3) := by decide +kernel
theorem d_M_read_92 : decode k_M_read 92 = .ok (.iconst 0, 1) := by decide +kernel
theorem d_M_read_93 : decode k_M_read 93 = .ok (.istore_n 2, 1) := by decide +kernel
theorem d_M_read_94 : decode k_M_read 94 = .ok (.aload_n 0, 1) := by decide +kernel
theorem d_M_read_95 : decode k_M_read 95 = .ok (.iload_n 2, 1) := by decide +kernel
theorem d_M_read_96 : decode k_M_read 96 = .ok (.ifCond .eq 8, 3) := by decide +kernel
theorem d_M_read_99 : decode k_M_read 99 = .ok (.bipush (-2), 2) := by decide +kernel
theorem d_M_read_101 : decode k_M_read 101 = .ok (.goto 18, 3) := by decide +kernel
theorem d_M_read_104 : decode k_M_read 104 = .ok (.iload_n 1, 1) := by decide +kernel
theorem d_M_read_105 : decode k_M_read 105 = .ok (.ifCond .eq 10, 3) := by decide +kernel
theorem d_M_read_108 : decode k_M_read 108 = .ok (.aload_n 0, 1) := by decide +kernel
theorem d_M_read_109 : decode k_M_read 109 = .ok (.getfield 74, 3) := by decide +kernel
theorem d_M_read_112 : decode k_M_read 112 = .ok (.goto 7, 3) := by decide +kernel
theorem d_M_read_115 : decode k_M_read 115 = .ok (.aload_n 0, 1) := by decide +kernel
theorem d_M_read_116 : decode k_M_read 116 = .ok (.getfield 121, 3) := by decide +kernel
theorem d_M_read_119 : decode k_M_read 119 = .ok (.putfield 28, 3) := by decide +kernel
theorem d_M_read_122 : decode k_M_read 122 = .ok (.iload_n 2, 1) := by decide +kernel
theorem d_M_read_123 : decode k_M_read 123 = .ok (.ifCond .ne 6, 3) := by decide +kernel
theorem d_M_read_126 : decode k_M_read 126 = .ok (.bipush (-6), 2) := by decide +kernel
theorem d_M_read_128 : decode k_M_read 128 = .ok (.ireturn, 1) := by decide +kernel
theorem d_M_read_129 : decode k_M_read 129 = .ok (.aload_n 0, 1) := by decide +kernel
theorem d_M_read_130 : decode k_M_read 130 = .ok (.aload_n 0, 1) := by decide +kernel
theorem d_M_read_131 : decode k_M_read 131 = .ok (.getfield 118, 3) := by decide +kernel
theorem d_M_read_134 : decode k_M_read 134 = .ok (.putfield 64, 3) := by decide +kernel
theorem d_M_read_137 : decode k_M_read 137 = .ok (.iconst 0, 1) := by decide +kernel
theorem d_M_read_138 : decode k_M_read 138 = .ok (.istore_n 3, 1) := by decide +kernel
theorem d_M_read_139 : decode k_M_read 139 = .ok (.iload_n 3, 1) := by decide +kernel
theorem d_M_read_140 : decode k_M_read 140 = .ok (.aload_n 0, 1) := by decide +kernel
theorem d_M_read_141 : decode k_M_read 141 = .ok (.getfield 118, 3) := by decide +kernel
theorem d_M_read_144 : decode k_M_read 144 = .ok (.if_icmp .ge 27, 3) := by decide +kernel
theorem d_M_read_147 : decode k_M_read 147 = .ok (.aload_n 0, 1) := by decide +kernel
theorem d_M_read_148 : decode k_M_read 148 = .ok (.iload_n 3, 1) := by decide +kernel
theorem d_M_read_149 : decode k_M_read 149 = .ok (.aload_n 0, 1) := by decide +kernel
theorem d_M_read_150 : decode k_M_read 150 = .ok (.getfield 16, 3) := by decide +kernel
theorem d_M_read_153 : decode k_M_read 153 = .ok (.iload_n 3, 1) := by decide +kernel
theorem d_M_read_154 : decode k_M_read 154 = .ok (.iaload, 1) := by decide +kernel
theorem d_M_read_155 : decode k_M_read 155 = .ok (.aload_n 0, 1) := by decide +kernel
theorem d_M_read_156 : decode k_M_read 156 = .ok (.getfield 19, 3) := by decide +kernel
theorem d_M_read_159 : decode k_M_read 159 = .ok (.iload_n 3, 1) := by decide +kernel
theorem d_M_read_160 : decode k_M_read 160 = .ok (.iaload, 1) := by decide +kernel
theorem d_M_read_161 : decode k_M_read 161 = .ok (.invokevirtual 67, 3) := by decide +kernel
theorem d_M_read_164 : decode k_M_read 164 = .ok (.pop, 1) := by decide +kernel
theorem d_M_read_165 : decode k_M_read 165 = .ok (.iinc 3 1, 3) := by decide +kernel
theorem d_M_read_168 : decode k_M_read 168 = .ok (.goto (-29), 3) := by decide +kernel
theorem d_M_read_171 : decode k_M_read 171 = .ok (.aload_n 0, 1) := by decide +kernel
theorem d_M_read_172 : decode k_M_read 172 = .ok (.getfield 64, 3) := by decide +kernel
theorem d_M_read_175 : decode k_M_read 175 = .ok (.ireturn, 1) := by decide +kernel
theorem d_M_start_0 : decode k_M_start 0 = .ok (.iconst 0, 1) := by decide +kernel
theorem d_M_start_1 : decode k_M_start 1 = .ok (.istore_n 2, 1) := by decide +kernel
theorem d_M_start_2 : decode k_M_start 2 = .ok (.iload_n 2, 1) := by decide +kernel
theorem d_M_start_3 : decode k_M_start 3 = .ok (.bipush 6, 2) := by decide +kernel
theorem d_M_start_5 : decode k_M_start 5 = .ok (.if_icmp .ge 16, 3) := by decide +kernel
theorem d_M_start_8 : decode k_M_start 8 = .ok (.aload_n 0, 1) := by decide +kernel
theorem d_M_start_9 : decode k_M_start 9 = .ok (.getfield 41, 3) := by decide +kernel
theorem d_M_start_12 : decode k_M_start 12 = .ok (.iload_n 2, 1) := by decide +kernel
theorem d_M_start_13 : decode k_M_start 13 = .ok (.iconst 0, 1) := by decide +kernel
theorem d_M_start_14 : decode k_M_start 14 = .ok (.iastore, 1) := by decide +kernel
theorem d_M_start_15 : decode k_M_start 15 = .ok (.iinc 2 1, 3) := by decide +kernel
theorem d_M_start_18 : decode k_M_start 18 = .ok (.goto (-16), 3) := by decide +kernel
theorem d_M_start_21 : decode k_M_start 21 = .ok (.aload_n 0, 1) := by decide +kernel
theorem d_M_start_22 : decode k_M_start 22 = .ok (.getfield 41, 3) := by decide +kernel
theorem d_M_start_25 : decode k_M_start 25 = .ok (.iconst 0, 1) := by decide +kernel
theorem d_M_start_26 : decode k_M_start 26 = .ok (.iload_n 1, 1) := by decide +kernel
theorem d_M_start_27 : decode k_M_start 27 = .ok (.iastore, 1) := by decide +kernel
theorem d_M_start_28 : decode k_M_start 28 = .ok (.aload_n 0, 1) := by decide +kernel
theorem d_M_start_29 : decode k_M_start 29 = .ok (.iconst 0, 1) := by decide +kernel
theorem d_M_start_30 : decode k_M_start 30 = .ok (.putfield 157, 3) := by decide +kernel
theorem d_M_start_33 : decode k_M_start 33 = .ok (.aload_n 0, 1) := by decide +kernel
theorem d_M_start_34 : decode k_M_start 34 = .ok (.iconst 0, 1) := by decide +kernel
theorem d_M_start_35 : decode k_M_start 35 = .ok (.putfield 160, 3) := by decide +kernel
theorem d_M_start_38 : decode k_M_start 38 = .ok (.aload_n 0, 1) := by decide +kernel
theorem d_M_start_39 : decode k_M_start 39 = .ok (.iconst 0, 1) := by decide +kernel
theorem d_M_start_40 : decode k_M_start 40 = .ok (.putfield 163, 3) := by decide +kernel
theorem d_M_start_43 : decode k_M_start 43 = .ok (.iconst 0, 1) := by decide +kernel
theorem d_M_start_44 : decode k_M_start 44 = .ok (.istore_n 2, 1) := by decide +kernel
theorem d_M_start_45 : decode k_M_start 45 = .ok (.iload_n 2, 1) := by decide +kernel
theorem d_M_start_46 : decode k_M_start 46 = .ok (.bipush 20, 2) := by decide +kernel
theorem d_M_start_48 : decode k_M_start 48 = .ok (.if_icmp .ge 16, 3) := by decide +kernel
theorem d_M_start_51 : decode k_M_start 51 = .ok (.aload_n 0, 1) := by decide +kernel
theorem d_M_start_52 : decode k_M_start 52 = .ok (.getfield 50, 3) := by decide +kernel
theorem d_M_start_55 : decode k_M_start 55 = .ok (.iload_n 2, 1) := by decide +kernel
theorem d_M_start_56 : decode k_M_start 56 = .ok (.iconst 0, 1) := by decide +kernel
theorem d_M_start_57 : decode k_M_start 57 = .ok (.iastore, 1) := by decide +kernel
theorem d_M_start_58 : decode k_M_start 58 = .ok (.iinc 2 1, 3) := by decide +kernel
theorem d_M_start_61 : decode k_M_start 61 = .ok (.goto (-16), 3) := by decide +kernel
theorem d_M_start_64 : decode k_M_start 64 = .ok (.return_, 1) := by decide +kernel
theorem d_M_come_0 : decode k_M_come 0 = .ok (.aload_n 0, 1) := by decide +kernel
theorem d_M_come_1 : decode k_M_come 1 = .ok (.getfield 157, 3) := by decide +kernel
theorem d_M_come_4 : decode k_M_come 4 = .ok (.bipush 16, 2) := by decide +kernel
theorem d_M_come_6 : decode k_M_come 6 = .ok (.if_icmp .ne 4, 3) := by decide +kernel
theorem d_M_come_9 : decode k_M_come 9 = .ok (.return_, 1) := by decide +kernel
theorem d_M_come_10 : decode k_M_come 10 = .ok (.aload_n 0, 1) := by decide +kernel
theorem d_M_come_11 : decode k_M_come 11 = .ok (.getfield 44, 3) := by decide +kernel
theorem d_M_come_14 : decode k_M_come 14 = .ok (.aload_n 0, 1) := by decide +kernel
theorem d_M_come_15 : decode k_M_come 15 = .ok (.getfield 157, 3) := by decide +kernel
theorem d_M_come_18 : decode k_M_come 18 = .ok (.iload_n 1, 1) := by decide +kernel
theorem d_M_come_19 : decode k_M_come 19 = .ok (.iastore, 1) := by decide +kernel
theorem d_M_come_20 : decode k_M_come 20 = .ok (.aload_n 0, 1) := by decide +kernel
theorem d_M_come_21 : decode k_M_come 21 = .ok (.dup, 1) := by decide +kernel
theorem d_M_come_22 : decode k_M_come 22 = .ok (.getfield 157, 3) := by decide +kernel
theorem d_M_come_25 : decode k_M_come 25 = .ok (.iconst 1, 1) := by decide +kernel
theorem d_M_come_26 : decode k_M_come 26 = .ok (.iadd, 1) := by decide +kernel
theorem d_M_come_27 : decode k_M_come 27 = .ok (.putfield 157, 3) := by decide +kernel
theorem d_M_come_30 : decode k_M_come 30 = .ok (.return_, 1) := by decide +kernel
theorem d_M_take_0 : decode k_M_take 0 = .ok (.aload_n 0, 1) := by decide +kernel
theorem d_M_take_1 : decode k_M_take 1 = .ok (.getfield 157, 3) := by decide +kernel
theorem d_M_take_4 : decode k_M_take 4 = .ok (.ifCond .ne 5, 3) := by decide +kernel
theorem d_M_take_7 : decode k_M_take 7 = .ok (.iconst 0, 1) := by decide +kernel
theorem d_M_take_8 : decode k_M_take 8 = .ok (.ireturn, 1) := by decide +kernel
theorem d_M_take_9 : decode k_M_take 9 = .ok (.aload_n 0, 1) := by decide +kernel
theorem d_M_take_10 : decode k_M_take 10 = .ok (.dup, 1) := by decide +kernel
theorem d_M_take_11 : decode k_M_take 11 = .ok (.getfield 157, 3) := by decide +kernel
theorem d_M_take_14 : decode k_M_take 14 = .ok (.iconst 1, 1) := by decide +kernel
theorem d_M_take_15 : decode k_M_take 15 = .ok (.isub, 1) := by decide +kernel
theorem d_M_take_16 : decode k_M_take 16 = .ok (.putfield 157, 3) := by decide +kernel
theorem d_M_take_19 : decode k_M_take 19 = .ok (.aload_n 0, 1) := by decide +kernel
theorem d_M_take_20 : decode k_M_take 20 = .ok (.getfield 44, 3) := by decide +kernel
theorem d_M_take_23 : decode k_M_take 23 = .ok (.aload_n 0, 1) := by decide +kernel
theorem d_M_take_24 : decode k_M_take 24 = .ok (.getfield 157, 3) := by decide +kernel
theorem d_M_take_27 : decode k_M_take 27 = .ok (.iaload, 1) := by decide +kernel
theorem d_M_take_28 : decode k_M_take 28 = .ok (.ireturn, 1) := by decide +kernel
theorem d_M_print_0 : decode k_M_print 0 = .ok (.aload_n 0, 1) := by decide +kernel
theorem d_M_print_1 : decode k_M_print 1 = .ok (.getfield 160, 3) := by decide +kernel
theorem d_M_print_4 : decode k_M_print 4 = .ok (.bipush 20, 2) := by decide +kernel
theorem d_M_print_6 : decode k_M_print 6 = .ok (.if_icmp .ge 13, 3) := by decide +kernel
theorem d_M_print_9 : decode k_M_print 9 = .ok (.aload_n 0, 1) := by decide +kernel
theorem d_M_print_10 : decode k_M_print 10 = .ok (.getfield 50, 3) := by decide +kernel
theorem d_M_print_13 : decode k_M_print 13 = .ok (.aload_n 0, 1) := by decide +kernel
theorem d_M_print_14 : decode k_M_print 14 = .ok (.getfield 160, 3) := by decide +kernel
theorem d_M_print_17 : decode k_M_print 17 = .ok (.iload_n 1, 1) := by decide +kernel
theorem d_M_print_18 : decode k_M_print 18 = .ok (.iastore, 1) := by decide +kernel
theorem d_M_print_19 : decode k_M_print 19 = .ok (.aload_n 0, 1) := by decide +kernel
theorem d_M_print_20 : decode k_M_print 20 = .ok (.dup, 1) := by decide +kernel
theorem d_M_print_21 : decode k_M_print 21 = .ok (.getfield 160, 3) := by decide +kernel
theorem d_M_print_24 : decode k_M_print 24 = .ok (.iconst 1, 1) := by decide +kernel
theorem d_M_print_25 : decode k_M_print 25 = .ok (.iadd, 1) := by decide +kernel
theorem d_M_print_26 : decode k_M_print 26 = .ok (.putfield 160, 3) := by decide +kernel
theorem d_M_print_29 : decode k_M_print 29 = .ok (.return_, 1) := by decide +kernel
theorem d_M_both_0 : decode k_M_both 0 = .ok (.iload_n 0, 1) := by decide +kernel
theorem d_M_both_1 : decode k_M_both 1 = .ok (.iconst 3, 1) := by decide +kernel
theorem d_M_both_2 : decode k_M_both 2 = .ok (.if_icmp .eq 9, 3) := by decide +kernel
theorem d_M_both_5 : decode k_M_both 5 = .ok (.iload_n 0, 1) := by decide +kernel
theorem d_M_both_6 : decode k_M_both 6 = .ok (.bipush 43, 2) := by decide +kernel
theorem d_M_both_8 : decode k_M_both 8 = .ok (.if_icmp .ne 9, 3) := by decide +kernel
theorem d_M_both_11 : decode k_M_both 11 = .ok (.iload_n 1, 1) := by decide +kernel
theorem d_M_both_12 : decode k_M_both 12 = .ok (.iload_n 2, 1) := by decide +kernel
theorem d_M_both_13 : decode k_M_both 13 = .ok (.iadd, 1) := by decide +kernel
theorem d_M_both_14 : decode k_M_both 14 = .ok (.goto 47, 3) := by decide +kernel
theorem d_M_both_17 : decode k_M_both 17 = .ok (.iload_n 0, 1) := by decide +kernel
theorem d_M_both_18 : decode k_M_both 18 = .ok (.iconst 4, 1) := by decide +kernel
theorem d_M_both_19 : decode k_M_both 19 = .ok (.if_icmp .eq 9, 3) := by decide +kernel
theorem d_M_both_22 : decode k_M_both 22 = .ok (.iload_n 0, 1) := by decide +kernel
theorem d_M_both_23 : decode k_M_both 23 = .ok (.bipush 45, 2) := by decide +kernel
theorem d_M_both_25 : decode k_M_both 25 = .ok (.if_icmp .ne 9, 3) := by decide +kernel
theorem d_M_both_28 : decode k_M_both 28 = .ok (.iload_n 1, 1) := by decide +kernel
theorem d_M_both_29 : decode k_M_both 29 = .ok (.iload_n 2, 1) := by decide +kernel
theorem d_M_both_30 : decode k_M_both 30 = .ok (.isub, 1) := by decide +kernel
theorem d_M_both_31 : decode k_M_both 31 = .ok (.goto 30, 3) := by decide +kernel
theorem d_M_both_34 : decode k_M_both 34 = .ok (.iload_n 0, 1) := by decide +kernel
theorem d_M_both_35 : decode k_M_both 35 = .ok (.iconst 5, 1) := by decide +kernel
theorem d_M_both_36 : decode k_M_both 36 = .ok (.if_icmp .eq 9, 3) := by decide +kernel
theorem d_M_both_39 : decode k_M_both 39 = .ok (.iload_n 0, 1) := by decide +kernel
theorem d_M_both_40 : decode k_M_both 40 = .ok (.bipush 42, 2) := by decide +kernel
theorem d_M_both_42 : decode k_M_both 42 = .ok (.if_icmp .ne 9, 3) := by decide +kernel
theorem d_M_both_45 : decode k_M_both 45 = .ok (.iload_n 1, 1) := by decide +kernel
theorem d_M_both_46 : decode k_M_both 46 = .ok (.iload_n 2, 1) := by decide +kernel
theorem d_M_both_47 : decode k_M_both 47 = .ok (.imul, 1) := by decide +kernel
theorem d_M_both_48 : decode k_M_both 48 = .ok (.goto 13, 3) := by decide +kernel
theorem d_M_both_51 : decode k_M_both 51 = .ok (.iload_n 1, 1) := by decide +kernel
theorem d_M_both_52 : decode k_M_both 52 = .ok (.iload_n 2, 1) := by decide +kernel
theorem d_M_both_53 : decode k_M_both 53 = .ok (.if_icmp .ge 7, 3) := by decide +kernel
theorem d_M_both_56 : decode k_M_both 56 = .ok (.iconst 1, 1) := by decide +kernel
theorem d_M_both_57 : decode k_M_both 57 = .ok (.goto 4, 3) := by decide +kernel
theorem d_M_both_60 : decode k_M_both 60 = .ok (.iconst 0, 1) := by decide +kernel
theorem d_M_both_61 : decode k_M_both 61 = .ok (.ireturn, 1) := by decide +kernel
theorem d_M_run_0 : decode k_M_run 0 = .ok (.iload_n 2, 1) := by decide +kernel
theorem d_M_run_1 : decode k_M_run 1 = .ok (.iconst 0, 1) := by decide +kernel
theorem d_M_run_2 : decode k_M_run 2 = .ok (.sipush 400, 3) := by decide +kernel
theorem d_M_run_5 : decode k_M_run 5 = .ok (.invokestatic 56, 3) := by decide +kernel
theorem d_M_run_8 : decode k_M_run 8 = .ok (.ifCond .ne 5, 3) := by decide +kernel
theorem d_M_run_11 : decode k_M_run 11 = .ok (.iconst (-1), 1) := by decide +kernel
theorem d_M_run_12 : decode k_M_run 12 = .ok (.ireturn, 1) := by decide +kernel
theorem d_M_run_13 : decode k_M_run 13 = .ok (.aload_n 0, 1) := by decide +kernel
theorem d_M_run_14 : decode k_M_run 14 = .ok (.iload_n 1, 1) := by decide +kernel
theorem d_M_run_15 : decode k_M_run 15 = .ok (.invokevirtual 166, 3) := by decide +kernel
theorem d_M_run_18 : decode k_M_run 18 = .ok (.iconst 0, 1) := by decide +kernel
theorem d_M_run_19 : decode k_M_run 19 = .ok (.istore_n 3, 1) := by decide +kernel
theorem d_M_run_20 : decode k_M_run 20 = .ok (.iload_n 3, 1) := by decide +kernel
theorem d_M_run_21 : decode k_M_run 21 = .ok (.aload_n 0, 1) := by decide +kernel
theorem d_M_run_22 : decode k_M_run 22 = .ok (.getfield 64, 3) := by decide +kernel
theorem d_M_run_25 : decode k_M_run 25 = .ok (.if_icmp .ge 203, 3) := by decide +kernel
theorem d_M_run_28 : decode k_M_run 28 = .ok (.aload_n 0, 1) := by decide +kernel
theorem d_M_run_29 : decode k_M_run 29 = .ok (.getfield 163, 3) := by decide +kernel
theorem d_M_run_32 : decode k_M_run 32 = .ok (.iload_n 2, 1) := by decide +kernel
theorem d_M_run_33 : decode k_M_run 33 = .ok (.if_icmp .ge 195, 3) := by decide +kernel
theorem d_M_run_36 : decode k_M_run 36 = .ok (.aload_n 0, 1) := by decide +kernel
theorem d_M_run_37 : decode k_M_run 37 = .ok (.getfield 7, 3) := by decide +kernel
theorem d_M_run_40 : decode k_M_run 40 = .ok (.iload_n 3, 1) := by decide +kernel
theorem d_M_run_41 : decode k_M_run 41 = .ok (.iaload, 1) := by decide +kernel
theorem d_M_run_42 : decode k_M_run 42 = .ok (.istore 4, 2) := by decide +kernel
theorem d_M_run_44 : decode k_M_run 44 = .ok (.aload_n 0, 1) := by decide +kernel
theorem d_M_run_45 : decode k_M_run 45 = .ok (.getfield 13, 3) := by decide +kernel
theorem d_M_run_48 : decode k_M_run 48 = .ok (.iload_n 3, 1) := by decide +kernel
theorem d_M_run_49 : decode k_M_run 49 = .ok (.iaload, 1) := by decide +kernel
theorem d_M_run_50 : decode k_M_run 50 = .ok (.istore 5, 2) := by decide +kernel
theorem d_M_run_52 : decode k_M_run 52 = .ok (.aload_n 0, 1) := by decide +kernel
theorem d_M_run_53 : decode k_M_run 53 = .ok (.dup, 1) := by decide +kernel
theorem d_M_run_54 : decode k_M_run 54 = .ok (.getfield 163, 3) := by decide +kernel
theorem d_M_run_57 : decode k_M_run 57 = .ok (.iconst 1, 1) := by decide +kernel
theorem d_M_run_58 : decode k_M_run 58 = .ok (.iadd, 1) := by decide +kernel
theorem d_M_run_59 : decode k_M_run 59 = .ok (.putfield 163, 3) := by decide +kernel
theorem d_M_run_62 : decode k_M_run 62 = .ok (.iinc 3 1, 3) := by decide +kernel
theorem d_M_run_65 : decode k_M_run 65 = .ok (.iload 4, 2) := by decide +kernel
theorem d_M_run_67 : decode k_M_run 67 = .ok (.ifCond .ne 12, 3) := by decide +kernel
theorem d_M_run_70 : decode k_M_run 70 = .ok (.aload_n 0, 1) := by decide +kernel
theorem d_M_run_71 : decode k_M_run 71 = .ok (.iload 5, 2) := by decide +kernel
theorem d_M_run_73 : decode k_M_run 73 = .ok (.invokevirtual 169, 3) := by decide +kernel
theorem d_M_run_76 : decode k_M_run 76 = .ok (.goto 149, 3) := by decide +kernel
theorem d_M_run_79 : decode k_M_run 79 = .ok (.iload 4, 2) := by decide +kernel
theorem d_M_run_81 : decode k_M_run 81 = .ok (.iconst 1, 1) := by decide +kernel
theorem d_M_run_82 : decode k_M_run 82 = .ok (.if_icmp .ne 17, 3) := by decide +kernel
theorem d_M_run_85 : decode k_M_run 85 = .ok (.aload_n 0, 1) := by decide +kernel
theorem d_M_run_86 : decode k_M_run 86 = .ok (.aload_n 0, 1) := by decide +kernel
theorem d_M_run_87 : decode k_M_run 87 = .ok (.getfield 41, 3) := by decide +kernel
theorem d_M_run_90 : decode k_M_run 90 = .ok (.iload 5, 2) := by decide +kernel
theorem d_M_run_92 : decode k_M_run 92 = .ok (.iaload, 1) := by decide +kernel
theorem d_M_run_93 : decode k_M_run 93 = .ok (.invokevirtual 169, 3) := by decide +kernel
theorem d_M_run_96 : decode k_M_run 96 = .ok (.goto 129, 3) := by decide +kernel
theorem d_M_run_99 : decode k_M_run 99 = .ok (.iload 4, 2) := by decide +kernel
theorem d_M_run_101 : decode k_M_run 101 = .ok (.iconst 2, 1) := by decide +kernel
theorem d_M_run_102 : decode k_M_run 102 = .ok (.if_icmp .ne 17, 3) := by decide +kernel
theorem d_M_run_105 : decode k_M_run 105 = .ok (.aload_n 0, 1) := by decide +kernel
theorem d_M_run_106 : decode k_M_run 106 = .ok (.getfield 41, 3) := by decide +kernel
theorem d_M_run_109 : decode k_M_run 109 = .ok (.iload 5, 2) := by decide +kernel
theorem d_M_run_111 : decode k_M_run 111 = .ok (.aload_n 0, 1) := by decide +kernel
theorem d_M_run_112 : decode k_M_run 112 = .ok (.invokevirtual 172, 3) := by decide +kernel
theorem d_M_run_115 : decode k_M_run 115 = .ok (.iastore, 1) := by decide +kernel
theorem d_M_run_116 : decode k_M_run 116 = .ok (.goto 109, 3) := by decide +kernel
theorem d_M_run_119 : decode k_M_run 119 = .ok (.iload 4, 2) := by decide +kernel
theorem d_M_run_121 : decode k_M_run 121 = .ok (.bipush 7, 2) := by decide +kernel
theorem d_M_run_123 : decode k_M_run 123 = .ok (.if_icmp .ne 22, 3) := by decide +kernel
theorem d_M_run_126 : decode k_M_run 126 = .ok (.aload_n 0, 1) := by decide +kernel
theorem d_M_run_127 : decode k_M_run 127 = .ok (.aload_n 0, 1) := by decide +kernel
theorem d_M_run_128 : decode k_M_run 128 = .ok (.invokevirtual 172, 3) := by decide +kernel
theorem d_M_run_131 : decode k_M_run 131 = .ok (.ifCond .ne 7, 3) := by decide +kernel
theorem d_M_run_134 : decode k_M_run 134 = .ok (.iconst 1, 1) := by decide +kernel
theorem d_M_run_135 : decode k_M_run 135 = .ok (.goto 4, 3) := by decide +kernel
theorem d_M_run_138 : decode k_M_run 138 = .ok (.iconst 0, 1) := by decide +kernel
theorem d_M_run_139 : decode k_M_run 139 = .ok (.invokevirtual 169, 3) := by decide +kernel
theorem d_M_run_142 : decode k_M_run 142 = .ok (.goto 83, 3) := by decide +kernel
theorem d_M_run_145 : decode k_M_run 145 = .ok (.iload 4, 2) := by decide +kernel
theorem d_M_run_147 : decode k_M_run 147 = .ok (.bipush 8, 2) := by decide +kernel
theorem d_M_run_149 : decode k_M_run 149 = .ok (.if_icmp .ne 9, 3) := by decide +kernel
theorem d_M_run_152 : decode k_M_run 152 = .ok (.iload 5, 2) := by decide +kernel
theorem d_M_run_154 : decode k_M_run 154 = .ok (.istore_n 3, 1) := by decide +kernel
theorem d_M_run_155 : decode k_M_run 155 = .ok (.goto 70, 3) := by decide +kernel
theorem d_M_run_158 : decode k_M_run 158 = .ok (.iload 4, 2) := by decide +kernel
theorem d_M_run_160 : decode k_M_run 160 = .ok (.bipush 9, 2) := by decide +kernel
theorem d_M_run_162 : decode k_M_run 162 = .ok (.if_icmp .ne 20, 3) := by decide +kernel
theorem d_M_run_165 : decode k_M_run 165 = .ok (.aload_n 0, 1) := by decide +kernel
theorem d_M_run_166 : decode k_M_run 166 = .ok (.invokevirtual 172, 3) := by decide +kernel
theorem d_M_run_169 : decode k_M_run 169 = .ok (.ifCond .ne 8, 3) := by decide +kernel
theorem d_M_run_172 : decode k_M_run 172 = .ok (.iload 5, 2) := by decide +kernel
theorem d_M_run_174 : decode k_M_run 174 = .ok (.goto 4, 3) := by decide +kernel
theorem d_M_run_177 : decode k_M_run 177 = .ok (.iload_n 3, 1) := by decide +kernel
theorem d_M_run_178 : decode k_M_run 178 = .ok (.istore_n 3, 1) := by decide +kernel
theorem d_M_run_179 : decode k_M_run 179 = .ok (.goto 46, 3) := by decide +kernel
theorem d_M_run_182 : decode k_M_run 182 = .ok (.iload 4, 2) := by decide +kernel
theorem d_M_run_184 : decode k_M_run 184 = .ok (.bipush 10, 2) := by decide +kernel
theorem d_M_run_186 : decode k_M_run 186 = .ok (.if_icmp .ne 14, 3) := by decide +kernel
theorem d_M_run_189 : decode k_M_run 189 = .ok (.aload_n 0, 1) := by decide +kernel
theorem d_M_run_190 : decode k_M_run 190 = .ok (.aload_n 0, 1) := by decide +kernel
theorem d_M_run_191 : decode k_M_run 191 = .ok (.invokevirtual 172, 3) := by decide +kernel
theorem d_M_run_194 : decode k_M_run 194 = .ok (.invokevirtual 175, 3) := by decide +kernel
theorem d_M_run_197 : decode k_M_run 197 = .ok (.goto 28, 3) := by decide +kernel
theorem d_M_run_200 : decode k_M_run 200 = .ok (.aload_n 0, 1) := by decide +kernel
theorem d_M_run_201 : decode k_M_run 201 = .ok (.invokevirtual 172, 3) := by decide +kernel
theorem d_M_run_204 : decode k_M_run 204 = .ok (.istore 6, 2) := by decide +kernel
theorem d_M_run_206 : decode k_M_run 206 = .ok (.aload_n 0, 1) := by decide +kernel
theorem d_M_run_207 : decode k_M_run 207 = .ok (.invokevirtual 172, 3) := by decide +kernel
theorem d_M_run_210 : decode k_M_run 210 = .ok (.istore 7, 2) := by decide +kernel
theorem d_M_run_212 : decode k_M_run 212 = .ok (.aload_n 0, 1) := by decide +kernel
theorem d_M_run_213 : decode k_M_run 213 = .ok (.iload 4, 2) := by decide +kernel
theorem d_M_run_215 : decode k_M_run 215 = .ok (.iload 7, 2) := by decide +kernel
theorem d_M_run_217 : decode k_M_run 217 = .ok (.iload 6, 2) := by decide +kernel
theorem d_M_run_219 : decode k_M_run 219 = .ok (.invokestatic 178, 3) := by decide +kernel
theorem d_M_run_222 : decode k_M_run 222 = .ok (.invokevirtual 169, 3) := by decide +kernel
theorem d_M_run_225 : decode k_M_run 225 = .ok (.goto (-205), 3) := by decide +kernel
theorem d_M_run_228 : decode k_M_run 228 = .ok (.iload_n 3, 1) := by decide +kernel
theorem d_M_run_229 : decode k_M_run 229 = .ok (.aload_n 0, 1) := by decide +kernel
theorem d_M_run_230 : decode k_M_run 230 = .ok (.getfield 64, 3) := by decide +kernel
theorem d_M_run_233 : decode k_M_run 233 = .ok (.if_icmp .ge 8, 3) := by decide +kernel
theorem d_M_run_236 : decode k_M_run 236 = .ok (.bipush (-7), 2) := by decide +kernel
theorem d_M_run_238 : decode k_M_run 238 = .ok (.goto 7, 3) := by decide +kernel
theorem d_M_run_241 : decode k_M_run 241 = .ok (.aload_n 0, 1) := by decide +kernel
theorem d_M_run_242 : decode k_M_run 242 = .ok (.getfield 160, 3) := by decide +kernel
theorem d_M_run_245 : decode k_M_run 245 = .ok (.ireturn, 1) := by decide +kernel
theorem d_M_work_0 : decode k_M_work 0 = .ok (.iload_n 1, 1) := by decide +kernel
theorem d_M_work_1 : decode k_M_work 1 = .ok (.istore_n 2, 1) := by decide +kernel
theorem d_M_work_2 : decode k_M_work 2 = .ok (.aload_n 0, 1) := by decide +kernel
theorem d_M_work_3 : decode k_M_work 3 = .ok (.iconst 0, 1) := by decide +kernel
theorem d_M_work_4 : decode k_M_work 4 = .ok (.putfield 157, 3) := by decide +kernel
theorem d_M_work_7 : decode k_M_work 7 = .ok (.aload_n 0, 1) := by decide +kernel
theorem d_M_work_8 : decode k_M_work 8 = .ok (.iconst 0, 1) := by decide +kernel
theorem d_M_work_9 : decode k_M_work 9 = .ok (.putfield 182, 3) := by decide +kernel
theorem d_M_work_12 : decode k_M_work 12 = .ok (.iconst 0, 1) := by decide +kernel
theorem d_M_work_13 : decode k_M_work 13 = .ok (.istore_n 3, 1) := by decide +kernel
theorem d_M_work_14 : decode k_M_work 14 = .ok (.iload_n 3, 1) := by decide +kernel
theorem d_M_work_15 : decode k_M_work 15 = .ok (.ifCond .ne 310, 3) := by decide +kernel
theorem d_M_work_18 : decode k_M_work 18 = .ok (.aload_n 0, 1) := by decide +kernel
theorem d_M_work_19 : decode k_M_work 19 = .ok (.getfield 25, 3) := by decide +kernel
theorem d_M_work_22 : decode k_M_work 22 = .ok (.iload_n 2, 1) := by decide +kernel
theorem d_M_work_23 : decode k_M_work 23 = .ok (.iaload, 1) := by decide +kernel
theorem d_M_work_24 : decode k_M_work 24 = .ok (.istore 4, 2) := by decide +kernel
theorem d_M_work_26 : decode k_M_work 26 = .ok (.iinc 2 1, 3) := by decide +kernel
theorem d_M_work_29 : decode k_M_work 29 = .ok (.iconst 1, 1) := by decide +kernel
theorem d_M_work_30 : decode k_M_work 30 = .ok (.istore 5, 2) := by decide +kernel
theorem d_M_work_32 : decode k_M_work 32 = .ok (.iload 4, 2) := by decide +kernel
theorem d_M_work_34 : decode k_M_work 34 = .ok (.invokestatic 130, 3) := by decide +kernel
theorem d_M_work_37 : decode k_M_work 37 = .ok (.ifCond .eq 63, 3) := by decide +kernel
theorem d_M_work_40 : decode k_M_work 40 = .ok (.iload 4, 2) := by decide +kernel
theorem d_M_work_42 : decode k_M_work 42 = .ok (.bipush 48, 2) := by decide +kernel
theorem d_M_work_44 : decode k_M_work 44 = .ok (.isub, 1) := by decide +kernel
theorem d_M_work_45 : decode k_M_work 45 = .ok (.istore 6, 2) := by decide +kernel
theorem d_M_work_47 : decode k_M_work 47 = .ok (.aload_n 0, 1) := by decide +kernel
theorem d_M_work_48 : decode k_M_work 48 = .ok (.getfield 25, 3) := by decide +kernel
theorem d_M_work_51 : decode k_M_work 51 = .ok (.iload_n 2, 1) := by decide +kernel
theorem d_M_work_52 : decode k_M_work 52 = .ok (.iaload, 1) := by decide +kernel
theorem d_M_work_53 : decode k_M_work 53 = .ok (.invokestatic 130, 3) := by decide +kernel
theorem d_M_work_56 : decode k_M_work 56 = .ok (.ifCond .eq 23, 3) := by decide +kernel
theorem d_M_work_59 : decode k_M_work 59 = .ok (.bipush 10, 2) := by decide +kernel
theorem d_M_work_61 : decode k_M_work 61 = .ok (.iload 6, 2) := by decide +kernel
theorem d_M_work_63 : decode k_M_work 63 = .ok (.imul, 1) := by decide +kernel
theorem d_M_work_64 : decode k_M_work 64 = .ok (.aload_n 0, 1) := by decide +kernel
theorem d_M_work_65 : decode k_M_work 65 = .ok (.getfield 25, 3) := by decide +kernel
theorem d_M_work_68 : decode k_M_work 68 = .ok (.iload_n 2, 1) := by decide +kernel
theorem d_M_work_69 : decode k_M_work 69 = .ok (.iaload, 1) := by decide +kernel
theorem d_M_work_70 : decode k_M_work 70 = .ok (.iadd, 1) := by decide +kernel
theorem d_M_work_71 : decode k_M_work 71 = .ok (.bipush 48, 2) := by decide +kernel
theorem d_M_work_73 : decode k_M_work 73 = .ok (.isub, 1) := by decide +kernel
theorem d_M_work_74 : decode k_M_work 74 = .ok (.istore 6, 2) := by decide +kernel
theorem d_M_work_76 : decode k_M_work 76 = .ok (.iinc 2 1, 3) := by decide +kernel
theorem d_M_work_79 : decode k_M_work 79 = .ok (.aload_n 0, 1) := by decide +kernel
theorem d_M_work_80 : decode k_M_work 80 = .ok (.getfield 44, 3) := by decide +kernel
theorem d_M_work_83 : decode k_M_work 83 = .ok (.aload_n 0, 1) := by decide +kernel
theorem d_M_work_84 : decode k_M_work 84 = .ok (.dup, 1) := by decide +kernel
theorem d_M_work_85 : decode k_M_work 85 = .ok (.getfield 157, 3) := by decide +kernel
theorem d_M_work_88 : decode k_M_work 88 = .ok (.dup_x1, 1) := by decide +kernel
theorem d_M_work_89 : decode k_M_work 89 = .ok (.iconst 1, 1) := by decide +kernel
theorem d_M_work_90 : decode k_M_work 90 = .ok (.iadd, 1) := by decide +kernel
theorem d_M_work_91 : decode k_M_work 91 = .ok (.putfield 157, 3) := by decide +kernel
theorem d_M_work_94 : decode k_M_work 94 = .ok (.iload 6, 2) := by decide +kernel
theorem d_M_work_96 : decode k_M_work 96 = .ok (.iastore, 1) := by decide +kernel
theorem d_M_work_97 : decode k_M_work 97 = .ok (.goto 136, 3) := by decide +kernel
theorem d_M_work_100 : decode k_M_work 100 = .ok (.iload 4, 2) := by decide +kernel
theorem d_M_work_102 : decode k_M_work 102 = .ok (.invokestatic 127, 3) := by decide +kernel
theorem d_M_work_105 : decode k_M_work 105 = .ok (.ifCond .eq 32, 3) := by decide +kernel
theorem d_M_work_108 : decode k_M_work 108 = .ok (.aload_n 0, 1) := by decide +kernel
theorem d_M_work_109 : decode k_M_work 109 = .ok (.getfield 44, 3) := by decide +kernel
theorem d_M_work_112 : decode k_M_work 112 = .ok (.aload_n 0, 1) := by decide +kernel
theorem d_M_work_113 : decode k_M_work 113 = .ok (.dup, 1) := by decide +kernel
theorem d_M_work_114 : decode k_M_work 114 = .ok (.getfield 157, 3) := by decide +kernel
theorem d_M_work_117 : decode k_M_work 117 = .ok (.dup_x1, 1) := by decide +kernel
theorem d_M_work_118 : decode k_M_work 118 = .ok (.iconst 1, 1) := by decide +kernel
theorem d_M_work_119 : decode k_M_work 119 = .ok (.iadd, 1) := by decide +kernel
theorem d_M_work_120 : decode k_M_work 120 = .ok (.putfield 157, 3) := by decide +kernel
theorem d_M_work_123 : decode k_M_work 123 = .ok (.aload_n 0, 1) := by decide +kernel
theorem d_M_work_124 : decode k_M_work 124 = .ok (.getfield 41, 3) := by decide +kernel
theorem d_M_work_127 : decode k_M_work 127 = .ok (.iload 4, 2) := by decide +kernel
theorem d_M_work_129 : decode k_M_work 129 = .ok (.bipush 97, 2) := by decide +kernel
theorem d_M_work_131 : decode k_M_work 131 = .ok (.isub, 1) := by decide +kernel
theorem d_M_work_132 : decode k_M_work 132 = .ok (.iaload, 1) := by decide +kernel
theorem d_M_work_133 : decode k_M_work 133 = .ok (.iastore, 1) := by decide +kernel
theorem d_M_work_134 : decode k_M_work 134 = .ok (.goto 99, 3) := by decide +kernel
theorem d_M_work_137 : decode k_M_work 137 = .ok (.iload 4, 2) := by decide +kernel
theorem d_M_work_139 : decode k_M_work 139 = .ok (.bipush 41, 2) := by decide +kernel
theorem d_M_work_141 : decode k_M_work 141 = .ok (.if_icmp .ne 71, 3) := by decide +kernel
theorem d_M_work_144 : decode k_M_work 144 = .ok (.aload_n 0, 1) := by decide +kernel
theorem d_M_work_145 : decode k_M_work 145 = .ok (.dup, 1) := by decide +kernel
theorem d_M_work_146 : decode k_M_work 146 = .ok (.getfield 157, 3) := by decide +kernel
theorem d_M_work_149 : decode k_M_work 149 = .ok (.iconst 1, 1) := by decide +kernel
theorem d_M_work_150 : decode k_M_work 150 = .ok (.isub, 1) := by decide +kernel
theorem d_M_work_151 : decode k_M_work 151 = .ok (.putfield 157, 3) := by decide +kernel
theorem d_M_work_154 : decode k_M_work 154 = .ok (.aload_n 0, 1) := by decide +kernel
theorem d_M_work_155 : decode k_M_work 155 = .ok (.getfield 44, 3) := by decide +kernel
theorem d_M_work_158 : decode k_M_work 158 = .ok (.aload_n 0, 1) := by decide +kernel
theorem d_M_work_159 : decode k_M_work 159 = .ok (.getfield 157, 3) := by decide +kernel
theorem d_M_work_162 : decode k_M_work 162 = .ok (.iconst 1, 1) := by decide +kernel
theorem d_M_work_163 : decode k_M_work 163 = .ok (.isub, 1) := by decide +kernel
theorem d_M_work_164 : decode k_M_work 164 = .ok (.aload_n 0, 1) := by decide +kernel
theorem d_M_work_165 : decode k_M_work 165 = .ok (.getfield 47, 3) := by decide +kernel
theorem d_M_work_168 : decode k_M_work 168 = .ok (.aload_n 0, 1) := by decide +kernel
theorem d_M_work_169 : decode k_M_work 169 = .ok (.getfield 182, 3) := by decide +kernel
theorem d_M_work_172 : decode k_M_work 172 = .ok (.iconst 1, 1) := by decide +kernel
theorem d_M_work_173 : decode k_M_work 173 = .ok (.isub, 1) := by decide +kernel
theorem d_M_work_174 : decode k_M_work 174 = .ok (.iaload, 1) := by decide +kernel
theorem d_M_work_175 : decode k_M_work 175 = .ok (.aload_n 0, 1) := by decide +kernel
theorem d_M_work_176 : decode k_M_work 176 = .ok (.getfield 44, 3) := by decide +kernel
theorem d_M_work_179 : decode k_M_work 179 = .ok (.aload_n 0, 1) := by decide +kernel
theorem d_M_work_180 : decode k_M_work 180 = .ok (.getfield 157, 3) := by decide +kernel
theorem d_M_work_183 : decode k_M_work 183 = .ok (.iconst 1, 1) := by decide +kernel
theorem d_M_work_184 : decode k_M_work 184 = .ok (.isub, 1) := by decide +kernel
theorem d_M_work_185 : decode k_M_work 185 = .ok (.iaload, 1) := by decide +kernel
theorem d_M_work_186 : decode k_M_work 186 = .ok (.aload_n 0, 1) := by decide +kernel
theorem d_M_work_187 : decode k_M_work 187 = .ok (.getfield 44, 3) := by decide +kernel
theorem d_M_work_190 : decode k_M_work 190 = .ok (.aload_n 0, 1) := by decide +kernel
theorem d_M_work_191 : decode k_M_work 191 = .ok (.getfield 157, 3) := by decide +kernel
theorem d_M_work_194 : decode k_M_work 194 = .ok (.iaload, 1) := by decide +kernel
theorem d_M_work_195 : decode k_M_work 195 = .ok (.invokestatic 178, 3) := by decide +kernel
theorem d_M_work_198 : decode k_M_work 198 = .ok (.iastore, 1) := by decide +kernel
theorem d_M_work_199 : decode k_M_work 199 = .ok (.aload_n 0, 1) := by decide +kernel
theorem d_M_work_200 : decode k_M_work 200 = .ok (.dup, 1) := by decide +kernel
theorem d_M_work_201 : decode k_M_work 201 = .ok (.getfield 182, 3) := by decide +kernel
theorem d_M_work_204 : decode k_M_work 204 = .ok (.iconst 2, 1) := by decide +kernel
theorem d_M_work_205 : decode k_M_work 205 = .ok (.isub, 1) := by decide +kernel
theorem d_M_work_206 : decode k_M_work 206 = .ok (.putfield 182, 3) := by decide +kernel
theorem d_M_work_209 : decode k_M_work 209 = .ok (.goto 24, 3) := by decide +kernel
theorem d_M_work_212 : decode k_M_work 212 = .ok (.aload_n 0, 1) := by decide +kernel
theorem d_M_work_213 : decode k_M_work 213 = .ok (.getfield 47, 3) := by decide +kernel
theorem d_M_work_216 : decode k_M_work 216 = .ok (.aload_n 0, 1) := by decide +kernel
theorem d_M_work_217 : decode k_M_work 217 = .ok (.dup, 1) := by decide +kernel
theorem d_M_work_218 : decode k_M_work 218 = .ok (.getfield 182, 3) := by decide +kernel
theorem d_M_work_221 : decode k_M_work 221 = .ok (.dup_x1, 1) := by decide +kernel
theorem d_M_work_222 : decode k_M_work 222 = .ok (.iconst 1, 1) := by decide +kernel
theorem d_M_work_223 : decode k_M_work 223 = .ok (.iadd, 1) := by decide +kernel
theorem d_M_work_224 : decode k_M_work 224 = .ok (.putfield 182, 3) := by decide +kernel
theorem d_M_work_227 : decode k_M_work 227 = .ok (.iload 4, 2) := by decide +kernel
theorem d_M_work_229 : decode k_M_work 229 = .ok (.iastore, 1) := by decide +kernel
theorem d_M_work_230 : decode k_M_work 230 = .ok (.iconst 0, 1) := by decide +kernel
theorem d_M_work_231 : decode k_M_work 231 = .ok (.istore 5, 2) := by decide +kernel
theorem d_M_work_233 : decode k_M_work 233 = .ok (.iload 5, 2) := by decide +kernel
theorem d_M_work_235 : decode k_M_work 235 = .ok (.ifCond .eq 69, 3) := by decide +kernel
theorem d_M_work_238 : decode k_M_work 238 = .ok (.aload_n 0, 1) := by decide +kernel
theorem d_M_work_239 : decode k_M_work 239 = .ok (.getfield 182, 3) := by decide +kernel
theorem d_M_work_242 : decode k_M_work 242 = .ok (.ifCond .le 62, 3) := by decide +kernel
theorem d_M_work_245 : decode k_M_work 245 = .ok (.aload_n 0, 1) := by decide +kernel
theorem d_M_work_246 : decode k_M_work 246 = .ok (.getfield 47, 3) := by decide +kernel
theorem d_M_work_249 : decode k_M_work 249 = .ok (.aload_n 0, 1) := by decide +kernel
theorem d_M_work_250 : decode k_M_work 250 = .ok (.getfield 182, 3) := by decide +kernel
theorem d_M_work_253 : decode k_M_work 253 = .ok (.iconst 1, 1) := by decide +kernel
theorem d_M_work_254 : decode k_M_work 254 = .ok (.isub, 1) := by decide +kernel
theorem d_M_work_255 : decode k_M_work 255 = .ok (.iaload, 1) := by decide +kernel
theorem d_M_work_256 : decode k_M_work 256 = .ok (.bipush 33, 2) := by decide +kernel
theorem d_M_work_258 : decode k_M_work 258 = .ok (.if_icmp .ne 46, 3) := by decide +kernel
theorem d_M_work_261 : decode k_M_work 261 = .ok (.aload_n 0, 1) := by decide +kernel
theorem d_M_work_262 : decode k_M_work 262 = .ok (.dup, 1) := by decide +kernel
theorem d_M_work_263 : decode k_M_work 263 = .ok (.getfield 182, 3) := by decide +kernel
theorem d_M_work_266 : decode k_M_work 266 = .ok (.iconst 1, 1) := by decide +kernel
theorem d_M_work_267 : decode k_M_work 267 = .ok (.isub, 1) := by decide +kernel
theorem d_M_work_268 : decode k_M_work 268 = .ok (.putfield 182, 3) := by decide +kernel
theorem d_M_work_271 : decode k_M_work 271 = .ok (.aload_n 0, 1) := by decide +kernel
theorem d_M_work_272 : decode k_M_work 272 = .ok (.getfield 44, 3) := by decide +kernel
theorem d_M_work_275 : decode k_M_work 275 = .ok (.aload_n 0, 1) := by decide +kernel
theorem d_M_work_276 : decode k_M_work 276 = .ok (.getfield 157, 3) := by decide +kernel
theorem d_M_work_279 : decode k_M_work 279 = .ok (.iconst 1, 1) := by decide +kernel
theorem d_M_work_280 : decode k_M_work 280 = .ok (.isub, 1) := by decide +kernel
theorem d_M_work_281 : decode k_M_work 281 = .ok (.aload_n 0, 1) := by decide +kernel
theorem d_M_work_282 : decode k_M_work 282 = .ok (.getfield 44, 3) := by decide +kernel
theorem d_M_work_285 : decode k_M_work 285 = .ok (.aload_n 0, 1) := by decide +kernel
theorem d_M_work_286 : decode k_M_work 286 = .ok (.getfield 157, 3) := by decide +kernel
theorem d_M_work_289 : decode k_M_work 289 = .ok (.iconst 1, 1) := by decide +kernel
theorem d_M_work_290 : decode k_M_work 290 = .ok (.isub, 1) := by decide +kernel
theorem d_M_work_291 : decode k_M_work 291 = .ok (.iaload, 1) := by decide +kernel
theorem d_M_work_292 : decode k_M_work 292 = .ok (.ifCond .ne 7, 3) := by decide +kernel
theorem d_M_work_295 : decode k_M_work 295 = .ok (.iconst 1, 1) := by decide +kernel
theorem d_M_work_296 : decode k_M_work 296 = .ok (.goto 4, 3) := by decide +kernel
theorem d_M_work_299 : decode k_M_work 299 = .ok (.iconst 0, 1) := by decide +kernel
theorem d_M_work_300 : decode k_M_work 300 = .ok (.iastore, 1) := by decide +kernel
theorem d_M_work_301 : decode k_M_work 301 = .ok (.goto (-68), 3) := by decide +kernel
theorem d_M_work_304 : decode k_M_work 304 = .ok (.iload 5, 2) := by decide +kernel
theorem d_M_work_306 : decode k_M_work 306 = .ok (.ifCond .eq 14, 3) := by decide +kernel
theorem d_M_work_309 : decode k_M_work 309 = .ok (.aload_n 0, 1) := by decide +kernel
theorem d_M_work_310 : decode k_M_work 310 = .ok (.getfield 182, 3) := by decide +kernel
theorem d_M_work_313 : decode k_M_work 313 = .ok (.ifCond .ne 7, 3) := by decide +kernel
theorem d_M_work_316 : decode k_M_work 316 = .ok (.iconst 1, 1) := by decide +kernel
theorem d_M_work_317 : decode k_M_work 317 = .ok (.goto 4, 3) := by decide +kernel
theorem d_M_work_320 : decode k_M_work 320 = .ok (.iconst 0, 1) := by decide +kernel
theorem d_M_work_321 : decode k_M_work 321 = .ok (.istore_n 3, 1) := by decide +kernel
theorem d_M_work_322 : decode k_M_work 322 = .ok (.goto (-308), 3) := by decide +kernel
theorem d_M_work_325 : decode k_M_work 325 = .ok (.aload_n 0, 1) := by decide +kernel
theorem d_M_work_326 : decode k_M_work 326 = .ok (.aload_n 0, 1) := by decide +kernel
theorem d_M_work_327 : decode k_M_work 327 = .ok (.getfield 44, 3) := by decide +kernel
theorem d_M_work_330 : decode k_M_work 330 = .ok (.iconst 0, 1) := by decide +kernel
theorem d_M_work_331 : decode k_M_work 331 = .ok (.iaload, 1) := by decide +kernel
theorem d_M_work_332 : decode k_M_work 332 = .ok (.putfield 185, 3) := by decide +kernel
theorem d_M_work_335 : decode k_M_work 335 = .ok (.iload_n 2, 1) := by decide +kernel
theorem d_M_work_336 : decode k_M_work 336 = .ok (.ireturn, 1) := by decide +kernel
