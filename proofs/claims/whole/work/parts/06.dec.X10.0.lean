theorem dX10_lies_0 : decode cX10_lies 0 = .ok (.iload_n 0, 1) := by decide +kernel
theorem dX10_lies_1 : decode cX10_lies 1 = .ok (.iload_n 1, 1) := by decide +kernel
theorem dX10_lies_2 : decode cX10_lies 2 = .ok (.if_icmp .lt 12, 3) := by decide +kernel
theorem dX10_lies_5 : decode cX10_lies 5 = .ok (.iload_n 0, 1) := by decide +kernel
theorem dX10_lies_6 : decode cX10_lies 6 = .ok (.iload_n 2, 1) := by decide +kernel
theorem dX10_lies_7 : decode cX10_lies 7 = .ok (.if_icmp .gt 7, 3) := by decide +kernel
theorem dX10_lies_10 : decode cX10_lies 10 = .ok (.iconst 1, 1) := by decide +kernel
theorem dX10_lies_11 : decode cX10_lies 11 = .ok (.goto 4, 3) := by decide +kernel
theorem dX10_lies_14 : decode cX10_lies 14 = .ok (.iconst 0, 1) := by decide +kernel
theorem dX10_lies_15 : decode cX10_lies 15 = .ok (.ireturn, 1) := by decide +kernel
theorem dX10_lesser_0 : decode cX10_lesser 0 = .ok (.iload_n 0, 1) := by decide +kernel
theorem dX10_lesser_1 : decode cX10_lesser 1 = .ok (.iload_n 1, 1) := by decide +kernel
theorem dX10_lesser_2 : decode cX10_lesser 2 = .ok (.if_icmp .ge 7, 3) := by decide +kernel
theorem dX10_lesser_5 : decode cX10_lesser 5 = .ok (.iload_n 0, 1) := by decide +kernel
theorem dX10_lesser_6 : decode cX10_lesser 6 = .ok (.goto 4, 3) := by decide +kernel
theorem dX10_lesser_9 : decode cX10_lesser 9 = .ok (.iload_n 1, 1) := by decide +kernel
theorem dX10_lesser_10 : decode cX10_lesser 10 = .ok (.ireturn, 1) := by decide +kernel
theorem dX10_greater_0 : decode cX10_greater 0 = .ok (.iload_n 0, 1) := by decide +kernel
theorem dX10_greater_1 : decode cX10_greater 1 = .ok (.iload_n 1, 1) := by decide +kernel
theorem dX10_greater_2 : decode cX10_greater 2 = .ok (.if_icmp .le 7, 3) := by decide +kernel
theorem dX10_greater_5 : decode cX10_greater 5 = .ok (.iload_n 0, 1) := by decide +kernel
theorem dX10_greater_6 : decode cX10_greater 6 = .ok (.goto 4, 3) := by decide +kernel
theorem dX10_greater_9 : decode cX10_greater 9 = .ok (.iload_n 1, 1) := by decide +kernel
theorem dX10_greater_10 : decode cX10_greater 10 = .ok (.ireturn, 1) := by decide +kernel
theorem dX10_refuses_0 : decode cX10_refuses 0 = .ok (.aload_n 0, 1) := by decide +kernel
theorem dX10_refuses_1 : decode cX10_refuses 1 = .ok (.iload_n 1, 1) := by decide +kernel
theorem dX10_refuses_2 : decode cX10_refuses 2 = .ok (.putfield 3, 3) := by decide +kernel
theorem dX10_refuses_5 : decode cX10_refuses 5 = .ok (.aload_n 0, 1) := by decide +kernel
theorem dX10_refuses_6 : decode cX10_refuses 6 = .ok (.getfield 7, 3) := by decide +kernel
theorem dX10_refuses_9 : decode cX10_refuses 9 = .ok (.iload_n 1, 1) := by decide +kernel
theorem dX10_refuses_10 : decode cX10_refuses 10 = .ok (.ineg, 1) := by decide +kernel
theorem dX10_refuses_11 : decode cX10_refuses 11 = .ok (.dup2, 1) := by decide +kernel
theorem dX10_refuses_12 : decode cX10_refuses 12 = .ok (.iaload, 1) := by decide +kernel
theorem dX10_refuses_13 : decode cX10_refuses 13 = .ok (.iconst 1, 1) := by decide +kernel
theorem dX10_refuses_14 : decode cX10_refuses 14 = .ok (.iadd, 1) := by decide +kernel
theorem dX10_refuses_15 : decode cX10_refuses 15 = .ok (.iastore, 1) := by decide +kernel
theorem dX10_refuses_16 : decode cX10_refuses 16 = .ok (.iload_n 1, 1) := by decide +kernel
theorem dX10_refuses_17 : decode cX10_refuses 17 = .ok (.ireturn, 1) := by decide +kernel
theorem dX10_good_0 : decode cX10_good 0 = .ok (.aload_n 0, 1) := by decide +kernel
theorem dX10_good_1 : decode cX10_good 1 = .ok (.iconst 0, 1) := by decide +kernel
theorem dX10_good_2 : decode cX10_good 2 = .ok (.putfield 3, 3) := by decide +kernel
theorem dX10_good_5 : decode cX10_good 5 = .ok (.iload_n 1, 1) := by decide +kernel
theorem dX10_good_6 : decode cX10_good 6 = .ok (.ireturn, 1) := by decide +kernel
theorem dX10_settled_0 : decode cX10_settled 0 = .ok (.aload_n 0, 1) := by decide +kernel
theorem dX10_settled_1 : decode cX10_settled 1 = .ok (.iconst 0, 1) := by decide +kernel
theorem dX10_settled_2 : decode cX10_settled 2 = .ok (.putfield 11, 3) := by decide +kernel
theorem dX10_settled_5 : decode cX10_settled 5 = .ok (.aload_n 0, 1) := by decide +kernel
theorem dX10_settled_6 : decode cX10_settled 6 = .ok (.iload_n 1, 1) := by decide +kernel
theorem dX10_settled_7 : decode cX10_settled 7 = .ok (.invokevirtual 14, 3) := by decide +kernel
theorem dX10_settled_10 : decode cX10_settled 10 = .ok (.ireturn, 1) := by decide +kernel
theorem dX10_isIn_0 : decode cX10_isIn 0 = .ok (.iload_n 0, 1) := by decide +kernel
theorem dX10_isIn_1 : decode cX10_isIn 1 = .ok (.iload_n 1, 1) := by decide +kernel
theorem dX10_isIn_2 : decode cX10_isIn 2 = .ok (.ishr, 1) := by decide +kernel
theorem dX10_isIn_3 : decode cX10_isIn 3 = .ok (.iconst 1, 1) := by decide +kernel
theorem dX10_isIn_4 : decode cX10_isIn 4 = .ok (.iand, 1) := by decide +kernel
theorem dX10_isIn_5 : decode cX10_isIn 5 = .ok (.iconst 1, 1) := by decide +kernel
theorem dX10_isIn_6 : decode cX10_isIn 6 = .ok (.if_icmp .ne 7, 3) := by decide +kernel
theorem dX10_isIn_9 : decode cX10_isIn 9 = .ok (.iconst 1, 1) := by decide +kernel
theorem dX10_isIn_10 : decode cX10_isIn 10 = .ok (.goto 4, 3) := by decide +kernel
theorem dX10_isIn_13 : decode cX10_isIn 13 = .ok (.iconst 0, 1) := by decide +kernel
theorem dX10_isIn_14 : decode cX10_isIn 14 = .ok (.ireturn, 1) := by decide +kernel
theorem dX10_ones_0 : decode cX10_ones 0 = .ok (.iconst 0, 1) := by decide +kernel
theorem dX10_ones_1 : decode cX10_ones 1 = .ok (.istore_n 1, 1) := by decide +kernel
theorem dX10_ones_2 : decode cX10_ones 2 = .ok (.iconst 0, 1) := by decide +kernel
theorem dX10_ones_3 : decode cX10_ones 3 = .ok (.istore_n 2, 1) := by decide +kernel
theorem dX10_ones_4 : decode cX10_ones 4 = .ok (.iload_n 2, 1) := by decide +kernel
theorem dX10_ones_5 : decode cX10_ones 5 = .ok (.bipush 8, 2) := by decide +kernel
theorem dX10_ones_7 : decode cX10_ones 7 = .ok (.if_icmp .ge 17, 3) := by decide +kernel
theorem dX10_ones_10 : decode cX10_ones 10 = .ok (.iload_n 1, 1) := by decide +kernel
theorem dX10_ones_11 : decode cX10_ones 11 = .ok (.iload_n 0, 1) := by decide +kernel
theorem dX10_ones_12 : decode cX10_ones 12 = .ok (.iload_n 2, 1) := by decide +kernel
theorem dX10_ones_13 : decode cX10_ones 13 = .ok (.ishr, 1) := by decide +kernel
theorem dX10_ones_14 : decode cX10_ones 14 = .ok (.iconst 1, 1) := by decide +kernel
theorem dX10_ones_15 : decode cX10_ones 15 = .ok (.iand, 1) := by decide +kernel
theorem dX10_ones_16 : decode cX10_ones 16 = .ok (.iadd, 1) := by decide +kernel
theorem dX10_ones_17 : decode cX10_ones 17 = .ok (.istore_n 1, 1) := by decide +kernel
theorem dX10_ones_18 : decode cX10_ones 18 = .ok (.iinc 2 1, 3) := by decide +kernel
theorem dX10_ones_21 : decode cX10_ones 21 = .ok (.goto (-17), 3) := by decide +kernel
theorem dX10_ones_24 : decode cX10_ones 24 = .ok (.iload_n 1, 1) := by decide +kernel
theorem dX10_ones_25 : decode cX10_ones 25 = .ok (.ireturn, 1) := by decide +kernel
theorem dX10_isNine_0 : decode cX10_isNine 0 = .ok (.iload_n 0, 1) := by decide +kernel
theorem dX10_isNine_1 : decode cX10_isNine 1 = .ok (.iconst 0, 1) := by decide +kernel
theorem dX10_isNine_2 : decode cX10_isNine 2 = .ok (.bipush 9, 2) := by decide +kernel
theorem dX10_isNine_4 : decode cX10_isNine 4 = .ok (.invokestatic 18, 3) := by decide +kernel
theorem dX10_isNine_7 : decode cX10_isNine 7 = .ok (.ireturn, 1) := by decide +kernel
theorem dX10_isBit_0 : decode cX10_isBit 0 = .ok (.iload_n 0, 1) := by decide +kernel
theorem dX10_isBit_1 : decode cX10_isBit 1 = .ok (.iconst 0, 1) := by decide +kernel
theorem dX10_isBit_2 : decode cX10_isBit 2 = .ok (.iconst 1, 1) := by decide +kernel
theorem dX10_isBit_3 : decode cX10_isBit 3 = .ok (.invokestatic 18, 3) := by decide +kernel
theorem dX10_isBit_6 : decode cX10_isBit 6 = .ok (.ireturn, 1) := by decide +kernel
theorem dX10_init_0 : decode cX10_init 0 = .ok (.aload_n 0, 1) := by decide +kernel
theorem dX10_init_1 : decode cX10_init 1 = .ok (.invokespecial 22, 3) := by decide +kernel
theorem dX10_init_4 : decode cX10_init 4 = .ok (.aload_n 0, 1) := by decide +kernel
theorem dX10_init_5 : decode cX10_init 5 = .ok (.bipush 7, 2) := by decide +kernel
theorem dX10_init_7 : decode cX10_init 7 = .ok (.newarray .int, 2) := by decide +kernel
theorem dX10_init_9 : decode cX10_init 9 = .ok (.putfield 7, 3) := by decide +kernel
theorem dX10_init_12 : decode cX10_init 12 = .ok (.aload_n 0, 1) := by decide +kernel
theorem dX10_init_13 : decode cX10_init 13 = .ok (.sipush 5660, 3) := by decide +kernel
theorem dX10_init_16 : decode cX10_init 16 = .ok (.newarray .int, 2) := by decide +kernel
theorem dX10_init_18 : decode cX10_init 18 = .ok (.putfield 28, 3) := by decide +kernel
theorem dX10_init_21 : decode cX10_init 21 = .ok (.aload_n 0, 1) := by decide +kernel
theorem dX10_init_22 : decode cX10_init 22 = .ok (.sipush 11320, 3) := by decide +kernel
theorem dX10_init_25 : decode cX10_init 25 = .ok (.newarray .int, 2) := by decide +kernel
theorem dX10_init_27 : decode cX10_init 27 = .ok (.putfield 31, 3) := by decide +kernel
theorem dX10_init_30 : decode cX10_init 30 = .ok (.aload_n 0, 1) := by decide +kernel
theorem dX10_init_31 : decode cX10_init 31 = .ok (.iconst 2, 1) := by decide +kernel
theorem dX10_init_32 : decode cX10_init 32 = .ok (.newarray .boolean, 2) := by decide +kernel
theorem dX10_init_34 : decode cX10_init 34 = .ok (.putfield 34, 3) := by decide +kernel
theorem dX10_init_37 : decode cX10_init 37 = .ok (.aload_n 0, 1) := by decide +kernel
theorem dX10_init_38 : decode cX10_init 38 = .ok (.bipush 36, 2) := by decide +kernel
theorem dX10_init_40 : decode cX10_init 40 = .ok (.newarray .int, 2) := by decide +kernel
theorem dX10_init_42 : decode cX10_init 42 = .ok (.putfield 38, 3) := by decide +kernel
theorem dX10_init_45 : decode cX10_init 45 = .ok (.aload_n 0, 1) := by decide +kernel
theorem dX10_init_46 : decode cX10_init 46 = .ok (.bipush 123, 2) := by decide +kernel
theorem dX10_init_48 : decode cX10_init 48 = .ok (.newarray .byte, 2) := by decide +kernel
theorem dX10_init_50 : decode cX10_init 50 = .ok (.dup, 1) := by decide +kernel
theorem dX10_init_51 : decode cX10_init 51 = .ok (.iconst 0, 1) := by decide +kernel
theorem dX10_init_52 : decode cX10_init 52 = .ok (.bipush 110, 2) := by decide +kernel
theorem dX10_init_54 : decode cX10_init 54 = .ok (.bastore, 1) := by decide +kernel
theorem dX10_init_55 : decode cX10_init 55 = .ok (.dup, 1) := by decide +kernel
theorem dX10_init_56 : decode cX10_init 56 = .ok (.iconst 1, 1) := by decide +kernel
theorem dX10_init_57 : decode cX10_init 57 = .ok (.bipush 101, 2) := by decide +kernel
theorem dX10_init_59 : decode cX10_init 59 = .ok (.bastore, 1) := by decide +kernel
theorem dX10_init_60 : decode cX10_init 60 = .ok (.dup, 1) := by decide +kernel
theorem dX10_init_61 : decode cX10_init 61 = .ok (.iconst 2, 1) := by decide +kernel
theorem dX10_init_62 : decode cX10_init 62 = .ok (.bipush 101, 2) := by decide +kernel
theorem dX10_init_64 : decode cX10_init 64 = .ok (.bastore, 1) := by decide +kernel
theorem dX10_init_65 : decode cX10_init 65 = .ok (.dup, 1) := by decide +kernel
theorem dX10_init_66 : decode cX10_init 66 = .ok (.iconst 3, 1) := by decide +kernel
theorem dX10_init_67 : decode cX10_init 67 = .ok (.bipush 100, 2) := by decide +kernel
theorem dX10_init_69 : decode cX10_init 69 = .ok (.bastore, 1) := by decide +kernel
theorem dX10_init_70 : decode cX10_init 70 = .ok (.dup, 1) := by decide +kernel
theorem dX10_init_71 : decode cX10_init 71 = .ok (.iconst 4, 1) := by decide +kernel
theorem dX10_init_72 : decode cX10_init 72 = .ok (.bipush 115, 2) := by decide +kernel
theorem dX10_init_74 : decode cX10_init 74 = .ok (.bastore, 1) := by decide +kernel
theorem dX10_init_75 : decode cX10_init 75 = .ok (.dup, 1) := by decide +kernel
theorem dX10_init_76 : decode cX10_init 76 = .ok (.iconst 5, 1) := by decide +kernel
theorem dX10_init_77 : decode cX10_init 77 = .ok (.bipush 32, 2) := by decide +kernel
theorem dX10_init_79 : decode cX10_init 79 = .ok (.bastore, 1) := by decide +kernel
theorem dX10_init_80 : decode cX10_init 80 = .ok (.dup, 1) := by decide +kernel
theorem dX10_init_81 : decode cX10_init 81 = .ok (.bipush 6, 2) := by decide +kernel
theorem dX10_init_83 : decode cX10_init 83 = .ok (.bipush 119, 2) := by decide +kernel
theorem dX10_init_85 : decode cX10_init 85 = .ok (.bastore, 1) := by decide +kernel
theorem dX10_init_86 : decode cX10_init 86 = .ok (.dup, 1) := by decide +kernel
theorem dX10_init_87 : decode cX10_init 87 = .ok (.bipush 7, 2) := by decide +kernel
theorem dX10_init_89 : decode cX10_init 89 = .ok (.bipush 97, 2) := by decide +kernel
theorem dX10_init_91 : decode cX10_init 91 = .ok (.bastore, 1) := by decide +kernel
theorem dX10_init_92 : decode cX10_init 92 = .ok (.dup, 1) := by decide +kernel
theorem dX10_init_93 : decode cX10_init 93 = .ok (.bipush 8, 2) := by decide +kernel
theorem dX10_init_95 : decode cX10_init 95 = .ok (.bipush 110, 2) := by decide +kernel
theorem dX10_init_97 : decode cX10_init 97 = .ok (.bastore, 1) := by decide +kernel
theorem dX10_init_98 : decode cX10_init 98 = .ok (.dup, 1) := by decide +kernel
theorem dX10_init_99 : decode cX10_init 99 = .ok (.bipush 9, 2) := by decide +kernel
theorem dX10_init_101 : decode cX10_init 101 = .ok (.bipush 116, 2) := by decide +kernel
theorem dX10_init_103 : decode cX10_init 103 = .ok (.bastore, 1) := by decide +kernel
theorem dX10_init_104 : decode cX10_init 104 = .ok (.dup, 1) := by decide +kernel
theorem dX10_init_105 : decode cX10_init 105 = .ok (.bipush 10, 2) := by decide +kernel
theorem dX10_init_107 : decode cX10_init 107 = .ok (.bipush 115, 2) := by decide +kernel
theorem dX10_init_109 : decode cX10_init 109 = .ok (.bastore, 1) := by decide +kernel
theorem dX10_init_110 : decode cX10_init 110 = .ok (.dup, 1) := by decide +kernel
theorem dX10_init_111 : decode cX10_init 111 = .ok (.bipush 11, 2) := by decide +kernel
theorem dX10_init_113 : decode cX10_init 113 = .ok (.bipush 32, 2) := by decide +kernel
theorem dX10_init_115 : decode cX10_init 115 = .ok (.bastore, 1) := by decide +kernel
theorem dX10_init_116 : decode cX10_init 116 = .ok (.dup, 1) := by decide +kernel
theorem dX10_init_117 : decode cX10_init 117 = .ok (.bipush 12, 2) := by decide +kernel
theorem dX10_init_119 : decode cX10_init 119 = .ok (.bipush 115, 2) := by decide +kernel
theorem dX10_init_121 : decode cX10_init 121 = .ok (.bastore, 1) := by decide +kernel
theorem dX10_init_122 : decode cX10_init 122 = .ok (.dup, 1) := by decide +kernel
theorem dX10_init_123 : decode cX10_init 123 = .ok (.bipush 13, 2) := by decide +kernel
theorem dX10_init_125 : decode cX10_init 125 = .ok (.bipush 104, 2) := by decide +kernel
theorem dX10_init_127 : decode cX10_init 127 = .ok (.bastore, 1) := by decide +kernel
theorem dX10_init_128 : decode cX10_init 128 = .ok (.dup, 1) := by decide +kernel
theorem dX10_init_129 : decode cX10_init 129 = .ok (.bipush 14, 2) := by decide +kernel
theorem dX10_init_131 : decode cX10_init 131 = .ok (.bipush 117, 2) := by decide +kernel
theorem dX10_init_133 : decode cX10_init 133 = .ok (.bastore, 1) := by decide +kernel
theorem dX10_init_134 : decode cX10_init 134 = .ok (.dup, 1) := by decide +kernel
theorem dX10_init_135 : decode cX10_init 135 = .ok (.bipush 15, 2) := by decide +kernel
theorem dX10_init_137 : decode cX10_init 137 = .ok (.bipush 116, 2) := by decide +kernel
theorem dX10_init_139 : decode cX10_init 139 = .ok (.bastore, 1) := by decide +kernel
theorem dX10_init_140 : decode cX10_init 140 = .ok (.dup, 1) := by decide +kernel
theorem dX10_init_141 : decode cX10_init 141 = .ok (.bipush 16, 2) := by decide +kernel
theorem dX10_init_143 : decode cX10_init 143 = .ok (.bipush 115, 2) := by decide +kernel
theorem dX10_init_145 : decode cX10_init 145 = .ok (.bastore, 1) := by decide +kernel
theorem dX10_init_146 : decode cX10_init 146 = .ok (.dup, 1) := by decide +kernel
theorem dX10_init_147 : decode cX10_init 147 = .ok (.bipush 17, 2) := by decide +kernel
theorem dX10_init_149 : decode cX10_init 149 = .ok (.bipush 32, 2) := by decide +kernel
theorem dX10_init_151 : decode cX10_init 151 = .ok (.bastore, 1) := by decide +kernel
theorem dX10_init_152 : decode cX10_init 152 = .ok (.dup, 1) := by decide +kernel
theorem dX10_init_153 : decode cX10_init 153 = .ok (.bipush 18, 2) := by decide +kernel
theorem dX10_init_155 : decode cX10_init 155 = .ok (.bipush 105, 2) := by decide +kernel
theorem dX10_init_157 : decode cX10_init 157 = .ok (.bastore, 1) := by decide +kernel
theorem dX10_init_158 : decode cX10_init 158 = .ok (.dup, 1) := by decide +kernel
theorem dX10_init_159 : decode cX10_init 159 = .ok (.bipush 19, 2) := by decide +kernel
theorem dX10_init_161 : decode cX10_init 161 = .ok (.bipush 102, 2) := by decide +kernel
theorem dX10_init_163 : decode cX10_init 163 = .ok (.bastore, 1) := by decide +kernel
theorem dX10_init_164 : decode cX10_init 164 = .ok (.dup, 1) := by decide +kernel
theorem dX10_init_165 : decode cX10_init 165 = .ok (.bipush 20, 2) := by decide +kernel
theorem dX10_init_167 : decode cX10_init 167 = .ok (.bipush 32, 2) := by decide +kernel
theorem dX10_init_169 : decode cX10_init 169 = .ok (.bastore, 1) := by decide +kernel
theorem dX10_init_170 : decode cX10_init 170 = .ok (.dup, 1) := by decide +kernel
theorem dX10_init_171 : decode cX10_init 171 = .ok (.bipush 21, 2) := by decide +kernel
theorem dX10_init_173 : decode cX10_init 173 = .ok (.bipush 111, 2) := by decide +kernel
theorem dX10_init_175 : decode cX10_init 175 = .ok (.bastore, 1) := by decide +kernel
theorem dX10_init_176 : decode cX10_init 176 = .ok (.dup, 1) := by decide +kernel
theorem dX10_init_177 : decode cX10_init 177 = .ok (.bipush 22, 2) := by decide +kernel
theorem dX10_init_179 : decode cX10_init 179 = .ok (.bipush 114, 2) := by decide +kernel
theorem dX10_init_181 : decode cX10_init 181 = .ok (.bastore, 1) := by decide +kernel
theorem dX10_init_182 : decode cX10_init 182 = .ok (.dup, 1) := by decide +kernel
theorem dX10_init_183 : decode cX10_init 183 = .ok (.bipush 23, 2) := by decide +kernel
theorem dX10_init_185 : decode cX10_init 185 = .ok (.bipush 32, 2) := by decide +kernel
theorem dX10_init_187 : decode cX10_init 187 = .ok (.bastore, 1) := by decide +kernel
theorem dX10_init_188 : decode cX10_init 188 = .ok (.dup, 1) := by decide +kernel
theorem dX10_init_189 : decode cX10_init 189 = .ok (.bipush 24, 2) := by decide +kernel
theorem dX10_init_191 : decode cX10_init 191 = .ok (.bipush 97, 2) := by decide +kernel
theorem dX10_init_193 : decode cX10_init 193 = .ok (.bastore, 1) := by decide +kernel
theorem dX10_init_194 : decode cX10_init 194 = .ok (.dup, 1) := by decide +kernel
theorem dX10_init_195 : decode cX10_init 195 = .ok (.bipush 25, 2) := by decide +kernel
theorem dX10_init_197 : decode cX10_init 197 = .ok (.bipush 110, 2) := by decide +kernel
theorem dX10_init_199 : decode cX10_init 199 = .ok (.bastore, 1) := by decide +kernel
theorem dX10_init_200 : decode cX10_init 200 = .ok (.dup, 1) := by decide +kernel
theorem dX10_init_201 : decode cX10_init 201 = .ok (.bipush 26, 2) := by decide +kernel
theorem dX10_init_203 : decode cX10_init 203 = .ok (.bipush 100, 2) := by decide +kernel
theorem dX10_init_205 : decode cX10_init 205 = .ok (.bastore, 1) := by decide +kernel
theorem dX10_init_206 : decode cX10_init 206 = .ok (.dup, 1) := by decide +kernel
theorem dX10_init_207 : decode cX10_init 207 = .ok (.bipush 27, 2) := by decide +kernel
theorem dX10_init_209 : decode cX10_init 209 = .ok (.bipush 32, 2) := by decide +kernel
theorem dX10_init_211 : decode cX10_init 211 = .ok (.bastore, 1) := by decide +kernel
theorem dX10_init_212 : decode cX10_init 212 = .ok (.dup, 1) := by decide +kernel
theorem dX10_init_213 : decode cX10_init 213 = .ok (.bipush 28, 2) := by decide +kernel
theorem dX10_init_215 : decode cX10_init 215 = .ok (.bipush 110, 2) := by decide +kernel
theorem dX10_init_217 : decode cX10_init 217 = .ok (.bastore, 1) := by decide +kernel
theorem dX10_init_218 : decode cX10_init 218 = .ok (.dup, 1) := by decide +kernel
theorem dX10_init_219 : decode cX10_init 219 = .ok (.bipush 29, 2) := by decide +kernel
theorem dX10_init_221 : decode cX10_init 221 = .ok (.bipush 111, 2) := by decide +kernel
theorem dX10_init_223 : decode cX10_init 223 = .ok (.bastore, 1) := by decide +kernel
theorem dX10_init_224 : decode cX10_init 224 = .ok (.dup, 1) := by decide +kernel
theorem dX10_init_225 : decode cX10_init 225 = .ok (.bipush 30, 2) := by decide +kernel
theorem dX10_init_227 : decode cX10_init 227 = .ok (.bipush 116, 2) := by decide +kernel
theorem dX10_init_229 : decode cX10_init 229 = .ok (.bastore, 1) := by decide +kernel
theorem dX10_init_230 : decode cX10_init 230 = .ok (.dup, 1) := by decide +kernel
theorem dX10_init_231 : decode cX10_init 231 = .ok (.bipush 31, 2) := by decide +kernel
theorem dX10_init_233 : decode cX10_init 233 = .ok (.bipush 32, 2) := by decide +kernel
theorem dX10_init_235 : decode cX10_init 235 = .ok (.bastore, 1) := by decide +kernel
theorem dX10_init_236 : decode cX10_init 236 = .ok (.dup, 1) := by decide +kernel
theorem dX10_init_237 : decode cX10_init 237 = .ok (.bipush 32, 2) := by decide +kernel
theorem dX10_init_239 : decode cX10_init 239 = .ok (.bipush 119, 2) := by decide +kernel
theorem dX10_init_241 : decode cX10_init 241 = .ok (.bastore, 1) := by decide +kernel
theorem dX10_init_242 : decode cX10_init 242 = .ok (.dup, 1) := by decide +kernel
theorem dX10_init_243 : decode cX10_init 243 = .ok (.bipush 33, 2) := by decide +kernel
theorem dX10_init_245 : decode cX10_init 245 = .ok (.bipush 104, 2) := by decide +kernel
theorem dX10_init_247 : decode cX10_init 247 = .ok (.bastore, 1) := by decide +kernel
theorem dX10_init_248 : decode cX10_init 248 = .ok (.dup, 1) := by decide +kernel
theorem dX10_init_249 : decode cX10_init 249 = .ok (.bipush 34, 2) := by decide +kernel
theorem dX10_init_251 : decode cX10_init 251 = .ok (.bipush 111, 2) := by decide +kernel
theorem dX10_init_253 : decode cX10_init 253 = .ok (.bastore, 1) := by decide +kernel
theorem dX10_init_254 : decode cX10_init 254 = .ok (.dup, 1) := by decide +kernel
theorem dX10_init_255 : decode cX10_init 255 = .ok (.bipush 35, 2) := by decide +kernel
theorem dX10_init_257 : decode cX10_init 257 = .ok (.bipush 32, 2) := by decide +kernel
theorem dX10_init_259 : decode cX10_init 259 = .ok (.bastore, 1) := by decide +kernel
theorem dX10_init_260 : decode cX10_init 260 = .ok (.dup, 1) := by decide +kernel
theorem dX10_init_261 : decode cX10_init 261 = .ok (.bipush 36, 2) := by decide +kernel
theorem dX10_init_263 : decode cX10_init 263 = .ok (.bipush 115, 2) := by decide +kernel
theorem dX10_init_265 : decode cX10_init 265 = .ok (.bastore, 1) := by decide +kernel
theorem dX10_init_266 : decode cX10_init 266 = .ok (.dup, 1) := by decide +kernel
theorem dX10_init_267 : decode cX10_init 267 = .ok (.bipush 37, 2) := by decide +kernel
theorem dX10_init_269 : decode cX10_init 269 = .ok (.bipush 104, 2) := by decide +kernel
theorem dX10_init_271 : decode cX10_init 271 = .ok (.bastore, 1) := by decide +kernel
theorem dX10_init_272 : decode cX10_init 272 = .ok (.dup, 1) := by decide +kernel
theorem dX10_init_273 : decode cX10_init 273 = .ok (.bipush 38, 2) := by decide +kernel
theorem dX10_init_275 : decode cX10_init 275 = .ok (.bipush 121, 2) := by decide +kernel
theorem dX10_init_277 : decode cX10_init 277 = .ok (.bastore, 1) := by decide +kernel
theorem dX10_init_278 : decode cX10_init 278 = .ok (.dup, 1) := by decide +kernel
theorem dX10_init_279 : decode cX10_init 279 = .ok (.bipush 39, 2) := by decide +kernel
theorem dX10_init_281 : decode cX10_init 281 = .ok (.bipush 32, 2) := by decide +kernel
theorem dX10_init_283 : decode cX10_init 283 = .ok (.bastore, 1) := by decide +kernel
theorem dX10_init_284 : decode cX10_init 284 = .ok (.dup, 1) := by decide +kernel
theorem dX10_init_285 : decode cX10_init 285 = .ok (.bipush 40, 2) := by decide +kernel
theorem dX10_init_287 : decode cX10_init 287 = .ok (.bipush 110, 2) := by decide +kernel
theorem dX10_init_289 : decode cX10_init 289 = .ok (.bastore, 1) := by decide +kernel
theorem dX10_init_290 : decode cX10_init 290 = .ok (.dup, 1) := by decide +kernel
theorem dX10_init_291 : decode cX10_init 291 = .ok (.bipush 41, 2) := by decide +kernel
theorem dX10_init_293 : decode cX10_init 293 = .ok (.bipush 101, 2) := by decide +kernel
theorem dX10_init_295 : decode cX10_init 295 = .ok (.bastore, 1) := by decide +kernel
theorem dX10_init_296 : decode cX10_init 296 = .ok (.dup, 1) := by decide +kernel
theorem dX10_init_297 : decode cX10_init 297 = .ok (.bipush 42, 2) := by decide +kernel
theorem dX10_init_299 : decode cX10_init 299 = .ok (.bipush 97, 2) := by decide +kernel
theorem dX10_init_301 : decode cX10_init 301 = .ok (.bastore, 1) := by decide +kernel
theorem dX10_init_302 : decode cX10_init 302 = .ok (.dup, 1) := by decide +kernel
theorem dX10_init_303 : decode cX10_init 303 = .ok (.bipush 43, 2) := by decide +kernel
theorem dX10_init_305 : decode cX10_init 305 = .ok (.bipush 114, 2) := by decide +kernel
theorem dX10_init_307 : decode cX10_init 307 = .ok (.bastore, 1) := by decide +kernel
theorem dX10_init_308 : decode cX10_init 308 = .ok (.dup, 1) := by decide +kernel
theorem dX10_init_309 : decode cX10_init 309 = .ok (.bipush 44, 2) := by decide +kernel
theorem dX10_init_311 : decode cX10_init 311 = .ok (.bipush 32, 2) := by decide +kernel
theorem dX10_init_313 : decode cX10_init 313 = .ok (.bastore, 1) := by decide +kernel
theorem dX10_init_314 : decode cX10_init 314 = .ok (.dup, 1) := by decide +kernel
theorem dX10_init_315 : decode cX10_init 315 = .ok (.bipush 45, 2) := by decide +kernel
theorem dX10_init_317 : decode cX10_init 317 = .ok (.bipush 104, 2) := by decide +kernel
theorem dX10_init_319 : decode cX10_init 319 = .ok (.bastore, 1) := by decide +kernel
theorem dX10_init_320 : decode cX10_init 320 = .ok (.dup, 1) := by decide +kernel
theorem dX10_init_321 : decode cX10_init 321 = .ok (.bipush 46, 2) := by decide +kernel
theorem dX10_init_323 : decode cX10_init 323 = .ok (.bipush 117, 2) := by decide +kernel
theorem dX10_init_325 : decode cX10_init 325 = .ok (.bastore, 1) := by decide +kernel
theorem dX10_init_326 : decode cX10_init 326 = .ok (.dup, 1) := by decide +kernel
theorem dX10_init_327 : decode cX10_init 327 = .ok (.bipush 47, 2) := by decide +kernel
theorem dX10_init_329 : decode cX10_init 329 = .ok (.bipush 115, 2) := by decide +kernel
theorem dX10_init_331 : decode cX10_init 331 = .ok (.bastore, 1) := by decide +kernel
theorem dX10_init_332 : decode cX10_init 332 = .ok (.dup, 1) := by decide +kernel
theorem dX10_init_333 : decode cX10_init 333 = .ok (.bipush 48, 2) := by decide +kernel
theorem dX10_init_335 : decode cX10_init 335 = .ok (.bipush 104, 2) := by decide +kernel
theorem dX10_init_337 : decode cX10_init 337 = .ok (.bastore, 1) := by decide +kernel
theorem dX10_init_338 : decode cX10_init 338 = .ok (.dup, 1) := by decide +kernel
theorem dX10_init_339 : decode cX10_init 339 = .ok (.bipush 49, 2) := by decide +kernel
theorem dX10_init_341 : decode cX10_init 341 = .ok (.bipush 32, 2) := by decide +kernel
theorem dX10_init_343 : decode cX10_init 343 = .ok (.bastore, 1) := by decide +kernel
theorem dX10_init_344 : decode cX10_init 344 = .ok (.dup, 1) := by decide +kernel
theorem dX10_init_345 : decode cX10_init 345 = .ok (.bipush 50, 2) := by decide +kernel
theorem dX10_init_347 : decode cX10_init 347 = .ok (.bipush 109, 2) := by decide +kernel
theorem dX10_init_349 : decode cX10_init 349 = .ok (.bastore, 1) := by decide +kernel
theorem dX10_init_350 : decode cX10_init 350 = .ok (.dup, 1) := by decide +kernel
theorem dX10_init_351 : decode cX10_init 351 = .ok (.bipush 51, 2) := by decide +kernel
theorem dX10_init_353 : decode cX10_init 353 = .ok (.bipush 111, 2) := by decide +kernel
theorem dX10_init_355 : decode cX10_init 355 = .ok (.bastore, 1) := by decide +kernel
theorem dX10_init_356 : decode cX10_init 356 = .ok (.dup, 1) := by decide +kernel
theorem dX10_init_357 : decode cX10_init 357 = .ok (.bipush 52, 2) := by decide +kernel
theorem dX10_init_359 : decode cX10_init 359 = .ok (.bipush 111, 2) := by decide +kernel
theorem dX10_init_361 : decode cX10_init 361 = .ok (.bastore, 1) := by decide +kernel
theorem dX10_init_362 : decode cX10_init 362 = .ok (.dup, 1) := by decide +kernel
theorem dX10_init_363 : decode cX10_init 363 = .ok (.bipush 53, 2) := by decide +kernel
theorem dX10_init_365 : decode cX10_init 365 = .ok (.bipush 100, 2) := by decide +kernel
theorem dX10_init_367 : decode cX10_init 367 = .ok (.bastore, 1) := by decide +kernel
theorem dX10_init_368 : decode cX10_init 368 = .ok (.dup, 1) := by decide +kernel
theorem dX10_init_369 : decode cX10_init 369 = .ok (.bipush 54, 2) := by decide +kernel
theorem dX10_init_371 : decode cX10_init 371 = .ok (.bipush 32, 2) := by decide +kernel
theorem dX10_init_373 : decode cX10_init 373 = .ok (.bastore, 1) := by decide +kernel
theorem dX10_init_374 : decode cX10_init 374 = .ok (.dup, 1) := by decide +kernel
theorem dX10_init_375 : decode cX10_init 375 = .ok (.bipush 55, 2) := by decide +kernel
theorem dX10_init_377 : decode cX10_init 377 = .ok (.bipush 119, 2) := by decide +kernel
theorem dX10_init_379 : decode cX10_init 379 = .ok (.bastore, 1) := by decide +kernel
theorem dX10_init_380 : decode cX10_init 380 = .ok (.dup, 1) := by decide +kernel
theorem dX10_init_381 : decode cX10_init 381 = .ok (.bipush 56, 2) := by decide +kernel
theorem dX10_init_383 : decode cX10_init 383 = .ok (.bipush 97, 2) := by decide +kernel
theorem dX10_init_385 : decode cX10_init 385 = .ok (.bastore, 1) := by decide +kernel
theorem dX10_init_386 : decode cX10_init 386 = .ok (.dup, 1) := by decide +kernel
theorem dX10_init_387 : decode cX10_init 387 = .ok (.bipush 57, 2) := by decide +kernel
theorem dX10_init_389 : decode cX10_init 389 = .ok (.bipush 110, 2) := by decide +kernel
theorem dX10_init_391 : decode cX10_init 391 = .ok (.bastore, 1) := by decide +kernel
theorem dX10_init_392 : decode cX10_init 392 = .ok (.dup, 1) := by decide +kernel
theorem dX10_init_393 : decode cX10_init 393 = .ok (.bipush 58, 2) := by decide +kernel
theorem dX10_init_395 : decode cX10_init 395 = .ok (.bipush 116, 2) := by decide +kernel
theorem dX10_init_397 : decode cX10_init 397 = .ok (.bastore, 1) := by decide +kernel
theorem dX10_init_398 : decode cX10_init 398 = .ok (.dup, 1) := by decide +kernel
theorem dX10_init_399 : decode cX10_init 399 = .ok (.bipush 59, 2) := by decide +kernel
theorem dX10_init_401 : decode cX10_init 401 = .ok (.bipush 32, 2) := by decide +kernel
theorem dX10_init_403 : decode cX10_init 403 = .ok (.bastore, 1) := by decide +kernel
theorem dX10_init_404 : decode cX10_init 404 = .ok (.dup, 1) := by decide +kernel
theorem dX10_init_405 : decode cX10_init 405 = .ok (.bipush 60, 2) := by decide +kernel
theorem dX10_init_407 : decode cX10_init 407 = .ok (.bipush 115, 2) := by decide +kernel
theorem dX10_init_409 : decode cX10_init 409 = .ok (.bastore, 1) := by decide +kernel
theorem dX10_init_410 : decode cX10_init 410 = .ok (.dup, 1) := by decide +kernel
theorem dX10_init_411 : decode cX10_init 411 = .ok (.bipush 61, 2) := by decide +kernel
theorem dX10_init_413 : decode cX10_init 413 = .ok (.bipush 116, 2) := by decide +kernel
theorem dX10_init_415 : decode cX10_init 415 = .ok (.bastore, 1) := by decide +kernel
theorem dX10_init_416 : decode cX10_init 416 = .ok (.dup, 1) := by decide +kernel
theorem dX10_init_417 : decode cX10_init 417 = .ok (.bipush 62, 2) := by decide +kernel
theorem dX10_init_419 : decode cX10_init 419 = .ok (.bipush 105, 2) := by decide +kernel
theorem dX10_init_421 : decode cX10_init 421 = .ok (.bastore, 1) := by decide +kernel
theorem dX10_init_422 : decode cX10_init 422 = .ok (.dup, 1) := by decide +kernel
theorem dX10_init_423 : decode cX10_init 423 = .ok (.bipush 63, 2) := by decide +kernel
theorem dX10_init_425 : decode cX10_init 425 = .ok (.bipush 108, 2) := by decide +kernel
theorem dX10_init_427 : decode cX10_init 427 = .ok (.bastore, 1) := by decide +kernel
theorem dX10_init_428 : decode cX10_init 428 = .ok (.dup, 1) := by decide +kernel
theorem dX10_init_429 : decode cX10_init 429 = .ok (.bipush 64, 2) := by decide +kernel
theorem dX10_init_431 : decode cX10_init 431 = .ok (.bipush 108, 2) := by decide +kernel
theorem dX10_init_433 : decode cX10_init 433 = .ok (.bastore, 1) := by decide +kernel
theorem dX10_init_434 : decode cX10_init 434 = .ok (.dup, 1) := by decide +kernel
theorem dX10_init_435 : decode cX10_init 435 = .ok (.bipush 65, 2) := by decide +kernel
theorem dX10_init_437 : decode cX10_init 437 = .ok (.bipush 32, 2) := by decide +kernel
theorem dX10_init_439 : decode cX10_init 439 = .ok (.bastore, 1) := by decide +kernel
theorem dX10_init_440 : decode cX10_init 440 = .ok (.dup, 1) := by decide +kernel
theorem dX10_init_441 : decode cX10_init 441 = .ok (.bipush 66, 2) := by decide +kernel
theorem dX10_init_443 : decode cX10_init 443 = .ok (.bipush 97, 2) := by decide +kernel
theorem dX10_init_445 : decode cX10_init 445 = .ok (.bastore, 1) := by decide +kernel
theorem dX10_init_446 : decode cX10_init 446 = .ok (.dup, 1) := by decide +kernel
theorem dX10_init_447 : decode cX10_init 447 = .ok (.bipush 67, 2) := by decide +kernel
theorem dX10_init_449 : decode cX10_init 449 = .ok (.bipush 108, 2) := by decide +kernel
theorem dX10_init_451 : decode cX10_init 451 = .ok (.bastore, 1) := by decide +kernel
theorem dX10_init_452 : decode cX10_init 452 = .ok (.dup, 1) := by decide +kernel
theorem dX10_init_453 : decode cX10_init 453 = .ok (.bipush 68, 2) := by decide +kernel
theorem dX10_init_455 : decode cX10_init 455 = .ok (.bipush 108, 2) := by decide +kernel
theorem dX10_init_457 : decode cX10_init 457 = .ok (.bastore, 1) := by decide +kernel
theorem dX10_init_458 : decode cX10_init 458 = .ok (.dup, 1) := by decide +kernel
theorem dX10_init_459 : decode cX10_init 459 = .ok (.bipush 69, 2) := by decide +kernel
theorem dX10_init_461 : decode cX10_init 461 = .ok (.bipush 32, 2) := by decide +kernel
theorem dX10_init_463 : decode cX10_init 463 = .ok (.bastore, 1) := by decide +kernel
theorem dX10_init_464 : decode cX10_init 464 = .ok (.dup, 1) := by decide +kernel
theorem dX10_init_465 : decode cX10_init 465 = .ok (.bipush 70, 2) := by decide +kernel
theorem dX10_init_467 : decode cX10_init 467 = .ok (.bipush 109, 2) := by decide +kernel
theorem dX10_init_469 : decode cX10_init 469 = .ok (.bastore, 1) := by decide +kernel
theorem dX10_init_470 : decode cX10_init 470 = .ok (.dup, 1) := by decide +kernel
theorem dX10_init_471 : decode cX10_init 471 = .ok (.bipush 71, 2) := by decide +kernel
theorem dX10_init_473 : decode cX10_init 473 = .ok (.bipush 105, 2) := by decide +kernel
theorem dX10_init_475 : decode cX10_init 475 = .ok (.bastore, 1) := by decide +kernel
theorem dX10_init_476 : decode cX10_init 476 = .ok (.dup, 1) := by decide +kernel
theorem dX10_init_477 : decode cX10_init 477 = .ok (.bipush 72, 2) := by decide +kernel
theorem dX10_init_479 : decode cX10_init 479 = .ok (.bipush 110, 2) := by decide +kernel
theorem dX10_init_481 : decode cX10_init 481 = .ok (.bastore, 1) := by decide +kernel
theorem dX10_init_482 : decode cX10_init 482 = .ok (.dup, 1) := by decide +kernel
theorem dX10_init_483 : decode cX10_init 483 = .ok (.bipush 73, 2) := by decide +kernel
theorem dX10_init_485 : decode cX10_init 485 = .ok (.bipush 117, 2) := by decide +kernel
theorem dX10_init_487 : decode cX10_init 487 = .ok (.bastore, 1) := by decide +kernel
theorem dX10_init_488 : decode cX10_init 488 = .ok (.dup, 1) := by decide +kernel
theorem dX10_init_489 : decode cX10_init 489 = .ok (.bipush 74, 2) := by decide +kernel
theorem dX10_init_491 : decode cX10_init 491 = .ok (.bipush 116, 2) := by decide +kernel
theorem dX10_init_493 : decode cX10_init 493 = .ok (.bastore, 1) := by decide +kernel
theorem dX10_init_494 : decode cX10_init 494 = .ok (.dup, 1) := by decide +kernel
theorem dX10_init_495 : decode cX10_init 495 = .ok (.bipush 75, 2) := by decide +kernel
theorem dX10_init_497 : decode cX10_init 497 = .ok (.bipush 101, 2) := by decide +kernel
theorem dX10_init_499 : decode cX10_init 499 = .ok (.bastore, 1) := by decide +kernel
theorem dX10_init_500 : decode cX10_init 500 = .ok (.dup, 1) := by decide +kernel
theorem dX10_init_501 : decode cX10_init 501 = .ok (.bipush 76, 2) := by decide +kernel
theorem dX10_init_503 : decode cX10_init 503 = .ok (.bipush 32, 2) := by decide +kernel
theorem dX10_init_505 : decode cX10_init 505 = .ok (.bastore, 1) := by decide +kernel
theorem dX10_init_506 : decode cX10_init 506 = .ok (.dup, 1) := by decide +kernel
theorem dX10_init_507 : decode cX10_init 507 = .ok (.bipush 77, 2) := by decide +kernel
theorem dX10_init_509 : decode cX10_init 509 = .ok (.bipush 100, 2) := by decide +kernel
theorem dX10_init_511 : decode cX10_init 511 = .ok (.bastore, 1) := by decide +kernel
theorem dX10_init_512 : decode cX10_init 512 = .ok (.dup, 1) := by decide +kernel
theorem dX10_init_513 : decode cX10_init 513 = .ok (.bipush 78, 2) := by decide +kernel
theorem dX10_init_515 : decode cX10_init 515 = .ok (.bipush 111, 2) := by decide +kernel
theorem dX10_init_517 : decode cX10_init 517 = .ok (.bastore, 1) := by decide +kernel
theorem dX10_init_518 : decode cX10_init 518 = .ok (.dup, 1) := by decide +kernel
theorem dX10_init_519 : decode cX10_init 519 = .ok (.bipush 79, 2) := by decide +kernel
theorem dX10_init_521 : decode cX10_init 521 = .ok (.bipush 110, 2) := by decide +kernel
theorem dX10_init_523 : decode cX10_init 523 = .ok (.bastore, 1) := by decide +kernel
theorem dX10_init_524 : decode cX10_init 524 = .ok (.dup, 1) := by decide +kernel
theorem dX10_init_525 : decode cX10_init 525 = .ok (.bipush 80, 2) := by decide +kernel
theorem dX10_init_527 : decode cX10_init 527 = .ok (.bipush 101, 2) := by decide +kernel
theorem dX10_init_529 : decode cX10_init 529 = .ok (.bastore, 1) := by decide +kernel
theorem dX10_init_530 : decode cX10_init 530 = .ok (.dup, 1) := by decide +kernel
theorem dX10_init_531 : decode cX10_init 531 = .ok (.bipush 81, 2) := by decide +kernel
theorem dX10_init_533 : decode cX10_init 533 = .ok (.bipush 32, 2) := by decide +kernel
theorem dX10_init_535 : decode cX10_init 535 = .ok (.bastore, 1) := by decide +kernel
theorem dX10_init_536 : decode cX10_init 536 = .ok (.dup, 1) := by decide +kernel
theorem dX10_init_537 : decode cX10_init 537 = .ok (.bipush 82, 2) := by decide +kernel
theorem dX10_init_539 : decode cX10_init 539 = .ok (.bipush 108, 2) := by decide +kernel
theorem dX10_init_541 : decode cX10_init 541 = .ok (.bastore, 1) := by decide +kernel
theorem dX10_init_542 : decode cX10_init 542 = .ok (.dup, 1) := by decide +kernel
theorem dX10_init_543 : decode cX10_init 543 = .ok (.bipush 83, 2) := by decide +kernel
theorem dX10_init_545 : decode cX10_init 545 = .ok (.bipush 97, 2) := by decide +kernel
theorem dX10_init_547 : decode cX10_init 547 = .ok (.bastore, 1) := by decide +kernel
theorem dX10_init_548 : decode cX10_init 548 = .ok (.dup, 1) := by decide +kernel
theorem dX10_init_549 : decode cX10_init 549 = .ok (.bipush 84, 2) := by decide +kernel
theorem dX10_init_551 : decode cX10_init 551 = .ok (.bipush 116, 2) := by decide +kernel
theorem dX10_init_553 : decode cX10_init 553 = .ok (.bastore, 1) := by decide +kernel
theorem dX10_init_554 : decode cX10_init 554 = .ok (.dup, 1) := by decide +kernel
theorem dX10_init_555 : decode cX10_init 555 = .ok (.bipush 85, 2) := by decide +kernel
theorem dX10_init_557 : decode cX10_init 557 = .ok (.bipush 101, 2) := by decide +kernel
theorem dX10_init_559 : decode cX10_init 559 = .ok (.bastore, 1) := by decide +kernel
theorem dX10_init_560 : decode cX10_init 560 = .ok (.dup, 1) := by decide +kernel
theorem dX10_init_561 : decode cX10_init 561 = .ok (.bipush 86, 2) := by decide +kernel
theorem dX10_init_563 : decode cX10_init 563 = .ok (.bipush 115, 2) := by decide +kernel
theorem dX10_init_565 : decode cX10_init 565 = .ok (.bastore, 1) := by decide +kernel
theorem dX10_init_566 : decode cX10_init 566 = .ok (.dup, 1) := by decide +kernel
theorem dX10_init_567 : decode cX10_init 567 = .ok (.bipush 87, 2) := by decide +kernel
theorem dX10_init_569 : decode cX10_init 569 = .ok (.bipush 116, 2) := by decide +kernel
theorem dX10_init_571 : decode cX10_init 571 = .ok (.bastore, 1) := by decide +kernel
theorem dX10_init_572 : decode cX10_init 572 = .ok (.dup, 1) := by decide +kernel
theorem dX10_init_573 : decode cX10_init 573 = .ok (.bipush 88, 2) := by decide +kernel
theorem dX10_init_575 : decode cX10_init 575 = .ok (.bipush 32, 2) := by decide +kernel
theorem dX10_init_577 : decode cX10_init 577 = .ok (.bastore, 1) := by decide +kernel
theorem dX10_init_578 : decode cX10_init 578 = .ok (.dup, 1) := by decide +kernel
theorem dX10_init_579 : decode cX10_init 579 = .ok (.bipush 89, 2) := by decide +kernel
theorem dX10_init_581 : decode cX10_init 581 = .ok (.bipush 105, 2) := by decide +kernel
theorem dX10_init_583 : decode cX10_init 583 = .ok (.bastore, 1) := by decide +kernel
theorem dX10_init_584 : decode cX10_init 584 = .ok (.dup, 1) := by decide +kernel
theorem dX10_init_585 : decode cX10_init 585 = .ok (.bipush 90, 2) := by decide +kernel
theorem dX10_init_587 : decode cX10_init 587 = .ok (.bipush 115, 2) := by decide +kernel
theorem dX10_init_589 : decode cX10_init 589 = .ok (.bastore, 1) := by decide +kernel
theorem dX10_init_590 : decode cX10_init 590 = .ok (.dup, 1) := by decide +kernel
theorem dX10_init_591 : decode cX10_init 591 = .ok (.bipush 91, 2) := by decide +kernel
theorem dX10_init_593 : decode cX10_init 593 = .ok (.bipush 32, 2) := by decide +kernel
theorem dX10_init_595 : decode cX10_init 595 = .ok (.bastore, 1) := by decide +kernel
theorem dX10_init_596 : decode cX10_init 596 = .ok (.dup, 1) := by decide +kernel
theorem dX10_init_597 : decode cX10_init 597 = .ok (.bipush 92, 2) := by decide +kernel
theorem dX10_init_599 : decode cX10_init 599 = .ok (.bipush 116, 2) := by decide +kernel
theorem dX10_init_601 : decode cX10_init 601 = .ok (.bastore, 1) := by decide +kernel
theorem dX10_init_602 : decode cX10_init 602 = .ok (.dup, 1) := by decide +kernel
theorem dX10_init_603 : decode cX10_init 603 = .ok (.bipush 93, 2) := by decide +kernel
theorem dX10_init_605 : decode cX10_init 605 = .ok (.bipush 111, 2) := by decide +kernel
theorem dX10_init_607 : decode cX10_init 607 = .ok (.bastore, 1) := by decide +kernel
theorem dX10_init_608 : decode cX10_init 608 = .ok (.dup, 1) := by decide +kernel
theorem dX10_init_609 : decode cX10_init 609 = .ok (.bipush 94, 2) := by decide +kernel
theorem dX10_init_611 : decode cX10_init 611 = .ok (.bipush 117, 2) := by decide +kernel
theorem dX10_init_613 : decode cX10_init 613 = .ok (.bastore, 1) := by decide +kernel
theorem dX10_init_614 : decode cX10_init 614 = .ok (.dup, 1) := by decide +kernel
theorem dX10_init_615 : decode cX10_init 615 = .ok (.bipush 95, 2) := by decide +kernel
theorem dX10_init_617 : decode cX10_init 617 = .ok (.bipush 99, 2) := by decide +kernel
theorem dX10_init_619 : decode cX10_init 619 = .ok (.bastore, 1) := by decide +kernel
theorem dX10_init_620 : decode cX10_init 620 = .ok (.dup, 1) := by decide +kernel
theorem dX10_init_621 : decode cX10_init 621 = .ok (.bipush 96, 2) := by decide +kernel
theorem dX10_init_623 : decode cX10_init 623 = .ok (.bipush 104, 2) := by decide +kernel
theorem dX10_init_625 : decode cX10_init 625 = .ok (.bastore, 1) := by decide +kernel
theorem dX10_init_626 : decode cX10_init 626 = .ok (.dup, 1) := by decide +kernel
theorem dX10_init_627 : decode cX10_init 627 = .ok (.bipush 97, 2) := by decide +kernel
theorem dX10_init_629 : decode cX10_init 629 = .ok (.bipush 32, 2) := by decide +kernel
theorem dX10_init_631 : decode cX10_init 631 = .ok (.bastore, 1) := by decide +kernel
theorem dX10_init_632 : decode cX10_init 632 = .ok (.dup, 1) := by decide +kernel
theorem dX10_init_633 : decode cX10_init 633 = .ok (.bipush 98, 2) := by decide +kernel
theorem dX10_init_635 : decode cX10_init 635 = .ok (.bipush 99, 2) := by decide +kernel
theorem dX10_init_637 : decode cX10_init 637 = .ok (.bastore, 1) := by decide +kernel
theorem dX10_init_638 : decode cX10_init 638 = .ok (.dup, 1) := by decide +kernel
theorem dX10_init_639 : decode cX10_init 639 = .ok (.bipush 99, 2) := by decide +kernel
theorem dX10_init_641 : decode cX10_init 641 = .ok (.bipush 111, 2) := by decide +kernel
theorem dX10_init_643 : decode cX10_init 643 = .ok (.bastore, 1) := by decide +kernel
theorem dX10_init_644 : decode cX10_init 644 = .ok (.dup, 1) := by decide +kernel
theorem dX10_init_645 : decode cX10_init 645 = .ok (.bipush 100, 2) := by decide +kernel
theorem dX10_init_647 : decode cX10_init 647 = .ok (.bipush 97, 2) := by decide +kernel
theorem dX10_init_649 : decode cX10_init 649 = .ok (.bastore, 1) := by decide +kernel
theorem dX10_init_650 : decode cX10_init 650 = .ok (.dup, 1) := by decide +kernel
theorem dX10_init_651 : decode cX10_init 651 = .ok (.bipush 101, 2) := by decide +kernel
theorem dX10_init_653 : decode cX10_init 653 = .ok (.bipush 120, 2) := by decide +kernel
theorem dX10_init_655 : decode cX10_init 655 = .ok (.bastore, 1) := by decide +kernel
theorem dX10_init_656 : decode cX10_init 656 = .ok (.dup, 1) := by decide +kernel
theorem dX10_init_657 : decode cX10_init 657 = .ok (.bipush 102, 2) := by decide +kernel
theorem dX10_init_659 : decode cX10_init 659 = .ok (.bipush 32, 2) := by decide +kernel
theorem dX10_init_661 : decode cX10_init 661 = .ok (.bastore, 1) := by decide +kernel
theorem dX10_init_662 : decode cX10_init 662 = .ok (.dup, 1) := by decide +kernel
theorem dX10_init_663 : decode cX10_init 663 = .ok (.bipush 103, 2) := by decide +kernel
theorem dX10_init_665 : decode cX10_init 665 = .ok (.bipush 116, 2) := by decide +kernel
theorem dX10_init_667 : decode cX10_init 667 = .ok (.bastore, 1) := by decide +kernel
theorem dX10_init_668 : decode cX10_init 668 = .ok (.dup, 1) := by decide +kernel
theorem dX10_init_669 : decode cX10_init 669 = .ok (.bipush 104, 2) := by decide +kernel
theorem dX10_init_671 : decode cX10_init 671 = .ok (.bipush 101, 2) := by decide +kernel
theorem dX10_init_673 : decode cX10_init 673 = .ok (.bastore, 1) := by decide +kernel
theorem dX10_init_674 : decode cX10_init 674 = .ok (.dup, 1) := by decide +kernel
theorem dX10_init_675 : decode cX10_init 675 = .ok (.bipush 105, 2) := by decide +kernel
theorem dX10_init_677 : decode cX10_init 677 = .ok (.bipush 109, 2) := by decide +kernel
theorem dX10_init_679 : decode cX10_init 679 = .ok (.bastore, 1) := by decide +kernel
theorem dX10_init_680 : decode cX10_init 680 = .ok (.dup, 1) := by decide +kernel
theorem dX10_init_681 : decode cX10_init 681 = .ok (.bipush 106, 2) := by decide +kernel
theorem dX10_init_683 : decode cX10_init 683 = .ok (.bipush 112, 2) := by decide +kernel
theorem dX10_init_685 : decode cX10_init 685 = .ok (.bastore, 1) := by decide +kernel
theorem dX10_init_686 : decode cX10_init 686 = .ok (.dup, 1) := by decide +kernel
theorem dX10_init_687 : decode cX10_init 687 = .ok (.bipush 107, 2) := by decide +kernel
theorem dX10_init_689 : decode cX10_init 689 = .ok (.bipush 116, 2) := by decide +kernel
theorem dX10_init_691 : decode cX10_init 691 = .ok (.bastore, 1) := by decide +kernel
theorem dX10_init_692 : decode cX10_init 692 = .ok (.dup, 1) := by decide +kernel
theorem dX10_init_693 : decode cX10_init 693 = .ok (.bipush 108, 2) := by decide +kernel
theorem dX10_init_695 : decode cX10_init 695 = .ok (.bipush 32, 2) := by decide +kernel
theorem dX10_init_697 : decode cX10_init 697 = .ok (.bastore, 1) := by decide +kernel
theorem dX10_init_698 : decode cX10_init 698 = .ok (.dup, 1) := by decide +kernel
theorem dX10_init_699 : decode cX10_init 699 = .ok (.bipush 109, 2) := by decide +kernel
theorem dX10_init_701 : decode cX10_init 701 = .ok (.bipush 116, 2) := by decide +kernel
theorem dX10_init_703 : decode cX10_init 703 = .ok (.bastore, 1) := by decide +kernel
theorem dX10_init_704 : decode cX10_init 704 = .ok (.dup, 1) := by decide +kernel
theorem dX10_init_705 : decode cX10_init 705 = .ok (.bipush 110, 2) := by decide +kernel
theorem dX10_init_707 : decode cX10_init 707 = .ok (.bipush 111, 2) := by decide +kernel
theorem dX10_init_709 : decode cX10_init 709 = .ok (.bastore, 1) := by decide +kernel
theorem dX10_init_710 : decode cX10_init 710 = .ok (.dup, 1) := by decide +kernel
theorem dX10_init_711 : decode cX10_init 711 = .ok (.bipush 111, 2) := by decide +kernel
theorem dX10_init_713 : decode cX10_init 713 = .ok (.bipush 32, 2) := by decide +kernel
theorem dX10_init_715 : decode cX10_init 715 = .ok (.bastore, 1) := by decide +kernel
theorem dX10_init_716 : decode cX10_init 716 = .ok (.dup, 1) := by decide +kernel
theorem dX10_init_717 : decode cX10_init 717 = .ok (.bipush 112, 2) := by decide +kernel
theorem dX10_init_719 : decode cX10_init 719 = .ok (.bipush 112, 2) := by decide +kernel
theorem dX10_init_721 : decode cX10_init 721 = .ok (.bastore, 1) := by decide +kernel
theorem dX10_init_722 : decode cX10_init 722 = .ok (.dup, 1) := by decide +kernel
theorem dX10_init_723 : decode cX10_init 723 = .ok (.bipush 113, 2) := by decide +kernel
theorem dX10_init_725 : decode cX10_init 725 = .ok (.bipush 97, 2) := by decide +kernel
theorem dX10_init_727 : decode cX10_init 727 = .ok (.bastore, 1) := by decide +kernel
theorem dX10_init_728 : decode cX10_init 728 = .ok (.dup, 1) := by decide +kernel
theorem dX10_init_729 : decode cX10_init 729 = .ok (.bipush 114, 2) := by decide +kernel
theorem dX10_init_731 : decode cX10_init 731 = .ok (.bipush 115, 2) := by decide +kernel
theorem dX10_init_733 : decode cX10_init 733 = .ok (.bastore, 1) := by decide +kernel
theorem dX10_init_734 : decode cX10_init 734 = .ok (.dup, 1) := by decide +kernel
theorem dX10_init_735 : decode cX10_init 735 = .ok (.bipush 115, 2) := by decide +kernel
theorem dX10_init_737 : decode cX10_init 737 = .ok (.bipush 115, 2) := by decide +kernel
theorem dX10_init_739 : decode cX10_init 739 = .ok (.bastore, 1) := by decide +kernel
theorem dX10_init_740 : decode cX10_init 740 = .ok (.dup, 1) := by decide +kernel
theorem dX10_init_741 : decode cX10_init 741 = .ok (.bipush 116, 2) := by decide +kernel
theorem dX10_init_743 : decode cX10_init 743 = .ok (.bipush 32, 2) := by decide +kernel
theorem dX10_init_745 : decode cX10_init 745 = .ok (.bastore, 1) := by decide +kernel
theorem dX10_init_746 : decode cX10_init 746 = .ok (.dup, 1) := by decide +kernel
theorem dX10_init_747 : decode cX10_init 747 = .ok (.bipush 117, 2) := by decide +kernel
theorem dX10_init_749 : decode cX10_init 749 = .ok (.bipush 116, 2) := by decide +kernel
theorem dX10_init_751 : decode cX10_init 751 = .ok (.bastore, 1) := by decide +kernel
theorem dX10_init_752 : decode cX10_init 752 = .ok (.dup, 1) := by decide +kernel
theorem dX10_init_753 : decode cX10_init 753 = .ok (.bipush 118, 2) := by decide +kernel
theorem dX10_init_755 : decode cX10_init 755 = .ok (.bipush 105, 2) := by decide +kernel
theorem dX10_init_757 : decode cX10_init 757 = .ok (.bastore, 1) := by decide +kernel
theorem dX10_init_758 : decode cX10_init 758 = .ok (.dup, 1) := by decide +kernel
theorem dX10_init_759 : decode cX10_init 759 = .ok (.bipush 119, 2) := by decide +kernel
theorem dX10_init_761 : decode cX10_init 761 = .ok (.bipush 109, 2) := by decide +kernel
theorem dX10_init_763 : decode cX10_init 763 = .ok (.bastore, 1) := by decide +kernel
theorem dX10_init_764 : decode cX10_init 764 = .ok (.dup, 1) := by decide +kernel
theorem dX10_init_765 : decode cX10_init 765 = .ok (.bipush 120, 2) := by decide +kernel
theorem dX10_init_767 : decode cX10_init 767 = .ok (.bipush 101, 2) := by decide +kernel
theorem dX10_init_769 : decode cX10_init 769 = .ok (.bastore, 1) := by decide +kernel
theorem dX10_init_770 : decode cX10_init 770 = .ok (.dup, 1) := by decide +kernel
theorem dX10_init_771 : decode cX10_init 771 = .ok (.bipush 121, 2) := by decide +kernel
theorem dX10_init_773 : decode cX10_init 773 = .ok (.bipush 115, 2) := by decide +kernel
theorem dX10_init_775 : decode cX10_init 775 = .ok (.bastore, 1) := by decide +kernel
theorem dX10_init_776 : decode cX10_init 776 = .ok (.dup, 1) := by decide +kernel
theorem dX10_init_777 : decode cX10_init 777 = .ok (.bipush 122, 2) := by decide +kernel
theorem dX10_init_779 : decode cX10_init 779 = .ok (.bipush 32, 2) := by decide +kernel
theorem dX10_init_781 : decode cX10_init 781 = .ok (.bastore, 1) := by decide +kernel
theorem dX10_init_782 : decode cX10_init 782 = .ok (.putfield 41, 3) := by decide +kernel
theorem dX10_init_785 : decode cX10_init 785 = .ok (.aload_n 0, 1) := by decide +kernel
theorem dX10_init_786 : decode cX10_init 786 = .ok (.sipush 400, 3) := by decide +kernel
theorem dX10_init_789 : decode cX10_init 789 = .ok (.newarray .byte, 2) := by decide +kernel
theorem dX10_init_791 : decode cX10_init 791 = .ok (.putfield 45, 3) := by decide +kernel
theorem dX10_init_794 : decode cX10_init 794 = .ok (.aload_n 0, 1) := by decide +kernel
theorem dX10_init_795 : decode cX10_init 795 = .ok (.iconst 5, 1) := by decide +kernel
theorem dX10_init_796 : decode cX10_init 796 = .ok (.newarray .int, 2) := by decide +kernel
theorem dX10_init_798 : decode cX10_init 798 = .ok (.putfield 48, 3) := by decide +kernel
theorem dX10_init_801 : decode cX10_init 801 = .ok (.aload_n 0, 1) := by decide +kernel
theorem dX10_init_802 : decode cX10_init 802 = .ok (.iconst (-1), 1) := by decide +kernel
theorem dX10_init_803 : decode cX10_init 803 = .ok (.putfield 51, 3) := by decide +kernel
theorem dX10_init_806 : decode cX10_init 806 = .ok (.aload_n 0, 1) := by decide +kernel
theorem dX10_init_807 : decode cX10_init 807 = .ok (.sipush 401, 3) := by decide +kernel
theorem dX10_init_810 : decode cX10_init 810 = .ok (.newarray .int, 2) := by decide +kernel
theorem dX10_init_812 : decode cX10_init 812 = .ok (.putfield 54, 3) := by decide +kernel
theorem dX10_init_815 : decode cX10_init 815 = .ok (.aload_n 0, 1) := by decide +kernel
theorem dX10_init_816 : decode cX10_init 816 = .ok (.sipush 401, 3) := by decide +kernel
theorem dX10_init_819 : decode cX10_init 819 = .ok (.newarray .int, 2) := by decide +kernel
theorem dX10_init_821 : decode cX10_init 821 = .ok (.putfield 57, 3) := by decide +kernel
theorem dX10_init_824 : decode cX10_init 824 = .ok (.aload_n 0, 1) := by decide +kernel
theorem dX10_init_825 : decode cX10_init 825 = .ok (.sipush 401, 3) := by decide +kernel
theorem dX10_init_828 : decode cX10_init 828 = .ok (.newarray .int, 2) := by decide +kernel
theorem dX10_init_830 : decode cX10_init 830 = .ok (.putfield 60, 3) := by decide +kernel
theorem dX10_init_833 : decode cX10_init 833 = .ok (.aload_n 0, 1) := by decide +kernel
theorem dX10_init_834 : decode cX10_init 834 = .ok (.bipush 9, 2) := by decide +kernel
theorem dX10_init_836 : decode cX10_init 836 = .ok (.newarray .int, 2) := by decide +kernel
theorem dX10_init_838 : decode cX10_init 838 = .ok (.putfield 63, 3) := by decide +kernel
theorem dX10_init_841 : decode cX10_init 841 = .ok (.aload_n 0, 1) := by decide +kernel
theorem dX10_init_842 : decode cX10_init 842 = .ok (.bipush 8, 2) := by decide +kernel
theorem dX10_init_844 : decode cX10_init 844 = .ok (.newarray .int, 2) := by decide +kernel
theorem dX10_init_846 : decode cX10_init 846 = .ok (.putfield 66, 3) := by decide +kernel
theorem dX10_init_849 : decode cX10_init 849 = .ok (.aload_n 0, 1) := by decide +kernel
theorem dX10_init_850 : decode cX10_init 850 = .ok (.sipush 304, 3) := by decide +kernel
theorem dX10_init_853 : decode cX10_init 853 = .ok (.newarray .int, 2) := by decide +kernel
theorem dX10_init_855 : decode cX10_init 855 = .ok (.putfield 69, 3) := by decide +kernel
theorem dX10_init_858 : decode cX10_init 858 = .ok (.aload_n 0, 1) := by decide +kernel
theorem dX10_init_859 : decode cX10_init 859 = .ok (.sipush 304, 3) := by decide +kernel
theorem dX10_init_862 : decode cX10_init 862 = .ok (.newarray .int, 2) := by decide +kernel
theorem dX10_init_864 : decode cX10_init 864 = .ok (.putfield 72, 3) := by decide +kernel
theorem dX10_init_867 : decode cX10_init 867 = .ok (.aload_n 0, 1) := by decide +kernel
theorem dX10_init_868 : decode cX10_init 868 = .ok (.bipush 61, 2) := by decide +kernel
theorem dX10_init_870 : decode cX10_init 870 = .ok (.newarray .int, 2) := by decide +kernel
theorem dX10_init_872 : decode cX10_init 872 = .ok (.putfield 75, 3) := by decide +kernel
theorem dX10_init_875 : decode cX10_init 875 = .ok (.aload_n 0, 1) := by decide +kernel
theorem dX10_init_876 : decode cX10_init 876 = .ok (.bipush 8, 2) := by decide +kernel
theorem dX10_init_878 : decode cX10_init 878 = .ok (.newarray .int, 2) := by decide +kernel
theorem dX10_init_880 : decode cX10_init 880 = .ok (.putfield 78, 3) := by decide +kernel
theorem dX10_init_883 : decode cX10_init 883 = .ok (.aload_n 0, 1) := by decide +kernel
theorem dX10_init_884 : decode cX10_init 884 = .ok (.bipush 8, 2) := by decide +kernel
theorem dX10_init_886 : decode cX10_init 886 = .ok (.newarray .int, 2) := by decide +kernel
theorem dX10_init_888 : decode cX10_init 888 = .ok (.putfield 81, 3) := by decide +kernel
theorem dX10_init_891 : decode cX10_init 891 = .ok (.aload_n 0, 1) := by decide +kernel
theorem dX10_init_892 : decode cX10_init 892 = .ok (.bipush 8, 2) := by decide +kernel
theorem dX10_init_894 : decode cX10_init 894 = .ok (.newarray .int, 2) := by decide +kernel
theorem dX10_init_896 : decode cX10_init 896 = .ok (.putfield 84, 3) := by decide +kernel
theorem dX10_init_899 : decode cX10_init 899 = .ok (.aload_n 0, 1) := by decide +kernel
theorem dX10_init_900 : decode cX10_init 900 = .ok (.bipush 21, 2) := by decide +kernel
theorem dX10_init_902 : decode cX10_init 902 = .ok (.newarray .long, 2) := by decide +kernel
theorem dX10_init_904 : decode cX10_init 904 = .ok (.putfield 87, 3) := by decide +kernel
theorem dX10_init_907 : decode cX10_init 907 = .ok (.aload_n 0, 1) := by decide +kernel
theorem dX10_init_908 : decode cX10_init 908 = .ok (.iconst (-1), 1) := by decide +kernel
theorem dX10_init_909 : decode cX10_init 909 = .ok (.putfield 91, 3) := by decide +kernel
theorem dX10_init_912 : decode cX10_init 912 = .ok (.aload_n 0, 1) := by decide +kernel
theorem dX10_init_913 : decode cX10_init 913 = .ok (.iconst 2, 1) := by decide +kernel
theorem dX10_init_914 : decode cX10_init 914 = .ok (.newarray .long, 2) := by decide +kernel
theorem dX10_init_916 : decode cX10_init 916 = .ok (.putfield 94, 3) := by decide +kernel
theorem dX10_init_919 : decode cX10_init 919 = .ok (.aload_n 0, 1) := by decide +kernel
theorem dX10_init_920 : decode cX10_init 920 = .ok (.bipush 18, 2) := by decide +kernel
theorem dX10_init_922 : decode cX10_init 922 = .ok (.newarray .int, 2) := by decide +kernel
theorem dX10_init_924 : decode cX10_init 924 = .ok (.putfield 97, 3) := by decide +kernel
theorem dX10_init_927 : decode cX10_init 927 = .ok (.aload_n 0, 1) := by decide +kernel
theorem dX10_init_928 : decode cX10_init 928 = .ok (.iconst (-1), 1) := by decide +kernel
theorem dX10_init_929 : decode cX10_init 929 = .ok (.putfield 100, 3) := by decide +kernel
theorem dX10_init_932 : decode cX10_init 932 = .ok (.aload_n 0, 1) := by decide +kernel
theorem dX10_init_933 : decode cX10_init 933 = .ok (.getfield 28, 3) := by decide +kernel
theorem dX10_init_936 : decode cX10_init 936 = .ok (.bipush 46, 2) := by decide +kernel
theorem dX10_init_938 : decode cX10_init 938 = .ok (.iconst 1, 1) := by decide +kernel
theorem dX10_init_939 : decode cX10_init 939 = .ok (.iastore, 1) := by decide +kernel
theorem dX10_init_940 : decode cX10_init 940 = .ok (.aload_n 0, 1) := by decide +kernel
theorem dX10_init_941 : decode cX10_init 941 = .ok (.getfield 28, 3) := by decide +kernel
theorem dX10_init_944 : decode cX10_init 944 = .ok (.bipush 52, 2) := by decide +kernel
theorem dX10_init_946 : decode cX10_init 946 = .ok (.iconst (-1), 1) := by decide +kernel
theorem dX10_init_947 : decode cX10_init 947 = .ok (.iastore, 1) := by decide +kernel
theorem dX10_init_948 : decode cX10_init 948 = .ok (.return_, 1) := by decide +kernel
theorem dX10_laysAside_0 : decode cX10_laysAside 0 = .ok (.iconst 0, 1) := by decide +kernel
theorem dX10_laysAside_1 : decode cX10_laysAside 1 = .ok (.istore_n 2, 1) := by decide +kernel
theorem dX10_laysAside_2 : decode cX10_laysAside 2 = .ok (.iload_n 2, 1) := by decide +kernel
theorem dX10_laysAside_3 : decode cX10_laysAside 3 = .ok (.bipush 18, 2) := by decide +kernel
theorem dX10_laysAside_5 : decode cX10_laysAside 5 = .ok (.if_icmp .ge 26, 3) := by decide +kernel
theorem dX10_laysAside_8 : decode cX10_laysAside 8 = .ok (.aload_n 0, 1) := by decide +kernel
theorem dX10_laysAside_9 : decode cX10_laysAside 9 = .ok (.getfield 38, 3) := by decide +kernel
theorem dX10_laysAside_12 : decode cX10_laysAside 12 = .ok (.bipush 18, 2) := by decide +kernel
theorem dX10_laysAside_14 : decode cX10_laysAside 14 = .ok (.iload_n 1, 1) := by decide +kernel
theorem dX10_laysAside_15 : decode cX10_laysAside 15 = .ok (.imul, 1) := by decide +kernel
theorem dX10_laysAside_16 : decode cX10_laysAside 16 = .ok (.iload_n 2, 1) := by decide +kernel
theorem dX10_laysAside_17 : decode cX10_laysAside 17 = .ok (.iadd, 1) := by decide +kernel
theorem dX10_laysAside_18 : decode cX10_laysAside 18 = .ok (.aload_n 0, 1) := by decide +kernel
theorem dX10_laysAside_19 : decode cX10_laysAside 19 = .ok (.getfield 28, 3) := by decide +kernel
theorem dX10_laysAside_22 : decode cX10_laysAside 22 = .ok (.iload_n 2, 1) := by decide +kernel
theorem dX10_laysAside_23 : decode cX10_laysAside 23 = .ok (.iaload, 1) := by decide +kernel
theorem dX10_laysAside_24 : decode cX10_laysAside 24 = .ok (.iastore, 1) := by decide +kernel
theorem dX10_laysAside_25 : decode cX10_laysAside 25 = .ok (.iinc 2 1, 3) := by decide +kernel
theorem dX10_laysAside_28 : decode cX10_laysAside 28 = .ok (.goto (-26), 3) := by decide +kernel
theorem dX10_laysAside_31 : decode cX10_laysAside 31 = .ok (.return_, 1) := by decide +kernel
theorem dX10_takesBack_0 : decode cX10_takesBack 0 = .ok (.iconst 0, 1) := by decide +kernel
theorem dX10_takesBack_1 : decode cX10_takesBack 1 = .ok (.istore_n 2, 1) := by decide +kernel
theorem dX10_takesBack_2 : decode cX10_takesBack 2 = .ok (.iload_n 2, 1) := by decide +kernel
theorem dX10_takesBack_3 : decode cX10_takesBack 3 = .ok (.bipush 18, 2) := by decide +kernel
theorem dX10_takesBack_5 : decode cX10_takesBack 5 = .ok (.if_icmp .ge 26, 3) := by decide +kernel
theorem dX10_takesBack_8 : decode cX10_takesBack 8 = .ok (.aload_n 0, 1) := by decide +kernel
theorem dX10_takesBack_9 : decode cX10_takesBack 9 = .ok (.getfield 28, 3) := by decide +kernel
theorem dX10_takesBack_12 : decode cX10_takesBack 12 = .ok (.iload_n 2, 1) := by decide +kernel
theorem dX10_takesBack_13 : decode cX10_takesBack 13 = .ok (.aload_n 0, 1) := by decide +kernel
theorem dX10_takesBack_14 : decode cX10_takesBack 14 = .ok (.getfield 38, 3) := by decide +kernel
theorem dX10_takesBack_17 : decode cX10_takesBack 17 = .ok (.bipush 18, 2) := by decide +kernel
theorem dX10_takesBack_19 : decode cX10_takesBack 19 = .ok (.iload_n 1, 1) := by decide +kernel
theorem dX10_takesBack_20 : decode cX10_takesBack 20 = .ok (.imul, 1) := by decide +kernel
theorem dX10_takesBack_21 : decode cX10_takesBack 21 = .ok (.iload_n 2, 1) := by decide +kernel
theorem dX10_takesBack_22 : decode cX10_takesBack 22 = .ok (.iadd, 1) := by decide +kernel
theorem dX10_takesBack_23 : decode cX10_takesBack 23 = .ok (.iaload, 1) := by decide +kernel
theorem dX10_takesBack_24 : decode cX10_takesBack 24 = .ok (.iastore, 1) := by decide +kernel
theorem dX10_takesBack_25 : decode cX10_takesBack 25 = .ok (.iinc 2 1, 3) := by decide +kernel
theorem dX10_takesBack_28 : decode cX10_takesBack 28 = .ok (.goto (-26), 3) := by decide +kernel
theorem dX10_takesBack_31 : decode cX10_takesBack 31 = .ok (.return_, 1) := by decide +kernel
theorem dX10_image_0 : decode cX10_image 0 = .ok (.iload_n 1, 1) := by decide +kernel
theorem dX10_image_1 : decode cX10_image 1 = .ok (.iconst 0, 1) := by decide +kernel
theorem dX10_image_2 : decode cX10_image 2 = .ok (.iconst 1, 1) := by decide +kernel
theorem dX10_image_3 : decode cX10_image 3 = .ok (.invokestatic 18, 3) := by decide +kernel
theorem dX10_image_6 : decode cX10_image 6 = .ok (.ifCond .ne 9, 3) := by decide +kernel
theorem dX10_image_9 : decode cX10_image 9 = .ok (.aload_n 0, 1) := by decide +kernel
theorem dX10_image_10 : decode cX10_image 10 = .ok (.iconst (-1), 1) := by decide +kernel
theorem dX10_image_11 : decode cX10_image 11 = .ok (.invokevirtual 103, 3) := by decide +kernel
theorem dX10_image_14 : decode cX10_image 14 = .ok (.ireturn, 1) := by decide +kernel
theorem dX10_image_15 : decode cX10_image 15 = .ok (.iconst 0, 1) := by decide +kernel
theorem dX10_image_16 : decode cX10_image 16 = .ok (.istore_n 2, 1) := by decide +kernel
theorem dX10_image_17 : decode cX10_image 17 = .ok (.iload_n 2, 1) := by decide +kernel
theorem dX10_image_18 : decode cX10_image 18 = .ok (.sipush 5660, 3) := by decide +kernel
theorem dX10_image_21 : decode cX10_image 21 = .ok (.if_icmp .ge 27, 3) := by decide +kernel
theorem dX10_image_24 : decode cX10_image 24 = .ok (.aload_n 0, 1) := by decide +kernel
theorem dX10_image_25 : decode cX10_image 25 = .ok (.getfield 31, 3) := by decide +kernel
theorem dX10_image_28 : decode cX10_image 28 = .ok (.sipush 5660, 3) := by decide +kernel
theorem dX10_image_31 : decode cX10_image 31 = .ok (.iload_n 1, 1) := by decide +kernel
theorem dX10_image_32 : decode cX10_image 32 = .ok (.imul, 1) := by decide +kernel
theorem dX10_image_33 : decode cX10_image 33 = .ok (.iload_n 2, 1) := by decide +kernel
theorem dX10_image_34 : decode cX10_image 34 = .ok (.iadd, 1) := by decide +kernel
theorem dX10_image_35 : decode cX10_image 35 = .ok (.aload_n 0, 1) := by decide +kernel
theorem dX10_image_36 : decode cX10_image 36 = .ok (.getfield 28, 3) := by decide +kernel
theorem dX10_image_39 : decode cX10_image 39 = .ok (.iload_n 2, 1) := by decide +kernel
theorem dX10_image_40 : decode cX10_image 40 = .ok (.iaload, 1) := by decide +kernel
theorem dX10_image_41 : decode cX10_image 41 = .ok (.iastore, 1) := by decide +kernel
theorem dX10_image_42 : decode cX10_image 42 = .ok (.iinc 2 1, 3) := by decide +kernel
theorem dX10_image_45 : decode cX10_image 45 = .ok (.goto (-28), 3) := by decide +kernel
theorem dX10_image_48 : decode cX10_image 48 = .ok (.aload_n 0, 1) := by decide +kernel
theorem dX10_image_49 : decode cX10_image 49 = .ok (.getfield 34, 3) := by decide +kernel
theorem dX10_image_52 : decode cX10_image 52 = .ok (.iload_n 1, 1) := by decide +kernel
theorem dX10_image_53 : decode cX10_image 53 = .ok (.iconst 1, 1) := by decide +kernel
theorem dX10_image_54 : decode cX10_image 54 = .ok (.bastore, 1) := by decide +kernel
theorem dX10_image_55 : decode cX10_image 55 = .ok (.aload_n 0, 1) := by decide +kernel
theorem dX10_image_56 : decode cX10_image 56 = .ok (.iconst 0, 1) := by decide +kernel
theorem dX10_image_57 : decode cX10_image 57 = .ok (.invokevirtual 14, 3) := by decide +kernel
theorem dX10_image_60 : decode cX10_image 60 = .ok (.ireturn, 1) := by decide +kernel
theorem dX10_back_0 : decode cX10_back 0 = .ok (.iload_n 1, 1) := by decide +kernel
theorem dX10_back_1 : decode cX10_back 1 = .ok (.iconst 0, 1) := by decide +kernel
theorem dX10_back_2 : decode cX10_back 2 = .ok (.iconst 1, 1) := by decide +kernel
theorem dX10_back_3 : decode cX10_back 3 = .ok (.invokestatic 18, 3) := by decide +kernel
theorem dX10_back_6 : decode cX10_back 6 = .ok (.ifCond .ne 9, 3) := by decide +kernel
theorem dX10_back_9 : decode cX10_back 9 = .ok (.aload_n 0, 1) := by decide +kernel
theorem dX10_back_10 : decode cX10_back 10 = .ok (.iconst (-1), 1) := by decide +kernel
theorem dX10_back_11 : decode cX10_back 11 = .ok (.invokevirtual 103, 3) := by decide +kernel
theorem dX10_back_14 : decode cX10_back 14 = .ok (.ireturn, 1) := by decide +kernel
theorem dX10_back_15 : decode cX10_back 15 = .ok (.aload_n 0, 1) := by decide +kernel
theorem dX10_back_16 : decode cX10_back 16 = .ok (.getfield 34, 3) := by decide +kernel
theorem dX10_back_19 : decode cX10_back 19 = .ok (.iload_n 1, 1) := by decide +kernel
theorem dX10_back_20 : decode cX10_back 20 = .ok (.baload, 1) := by decide +kernel
theorem dX10_back_21 : decode cX10_back 21 = .ok (.ifCond .ne 10, 3) := by decide +kernel
theorem dX10_back_24 : decode cX10_back 24 = .ok (.aload_n 0, 1) := by decide +kernel
theorem dX10_back_25 : decode cX10_back 25 = .ok (.bipush (-2), 2) := by decide +kernel
theorem dX10_back_27 : decode cX10_back 27 = .ok (.invokevirtual 103, 3) := by decide +kernel
theorem dX10_back_30 : decode cX10_back 30 = .ok (.ireturn, 1) := by decide +kernel
theorem dX10_back_31 : decode cX10_back 31 = .ok (.iconst 0, 1) := by decide +kernel
theorem dX10_back_32 : decode cX10_back 32 = .ok (.istore_n 2, 1) := by decide +kernel
theorem dX10_back_33 : decode cX10_back 33 = .ok (.iload_n 2, 1) := by decide +kernel
theorem dX10_back_34 : decode cX10_back 34 = .ok (.sipush 5660, 3) := by decide +kernel
theorem dX10_back_37 : decode cX10_back 37 = .ok (.if_icmp .ge 27, 3) := by decide +kernel
theorem dX10_back_40 : decode cX10_back 40 = .ok (.aload_n 0, 1) := by decide +kernel
theorem dX10_back_41 : decode cX10_back 41 = .ok (.getfield 28, 3) := by decide +kernel
theorem dX10_back_44 : decode cX10_back 44 = .ok (.iload_n 2, 1) := by decide +kernel
theorem dX10_back_45 : decode cX10_back 45 = .ok (.aload_n 0, 1) := by decide +kernel
theorem dX10_back_46 : decode cX10_back 46 = .ok (.getfield 31, 3) := by decide +kernel
theorem dX10_back_49 : decode cX10_back 49 = .ok (.sipush 5660, 3) := by decide +kernel
theorem dX10_back_52 : decode cX10_back 52 = .ok (.iload_n 1, 1) := by decide +kernel
theorem dX10_back_53 : decode cX10_back 53 = .ok (.imul, 1) := by decide +kernel
theorem dX10_back_54 : decode cX10_back 54 = .ok (.iload_n 2, 1) := by decide +kernel
theorem dX10_back_55 : decode cX10_back 55 = .ok (.iadd, 1) := by decide +kernel
theorem dX10_back_56 : decode cX10_back 56 = .ok (.iaload, 1) := by decide +kernel
theorem dX10_back_57 : decode cX10_back 57 = .ok (.iastore, 1) := by decide +kernel
theorem dX10_back_58 : decode cX10_back 58 = .ok (.iinc 2 1, 3) := by decide +kernel
theorem dX10_back_61 : decode cX10_back 61 = .ok (.goto (-28), 3) := by decide +kernel
theorem dX10_back_64 : decode cX10_back 64 = .ok (.aload_n 0, 1) := by decide +kernel
theorem dX10_back_65 : decode cX10_back 65 = .ok (.iconst 0, 1) := by decide +kernel
theorem dX10_back_66 : decode cX10_back 66 = .ok (.invokevirtual 106, 3) := by decide +kernel
theorem dX10_back_69 : decode cX10_back 69 = .ok (.ireturn, 1) := by decide +kernel
theorem dX10_many_0 : decode cX10_many 0 = .ok (.aload_n 0, 1) := by decide +kernel
theorem dX10_many_1 : decode cX10_many 1 = .ok (.getfield 28, 3) := by decide +kernel
theorem dX10_many_4 : decode cX10_many 4 = .ok (.bipush 49, 2) := by decide +kernel
theorem dX10_many_6 : decode cX10_many 6 = .ok (.iaload, 1) := by decide +kernel
theorem dX10_many_7 : decode cX10_many 7 = .ok (.ireturn, 1) := by decide +kernel
theorem dX10_everybody_0 : decode cX10_everybody 0 = .ok (.iconst 1, 1) := by decide +kernel
theorem dX10_everybody_1 : decode cX10_everybody 1 = .ok (.aload_n 0, 1) := by decide +kernel
theorem dX10_everybody_2 : decode cX10_everybody 2 = .ok (.invokevirtual 109, 3) := by decide +kernel
theorem dX10_everybody_5 : decode cX10_everybody 5 = .ok (.ishl, 1) := by decide +kernel
theorem dX10_everybody_6 : decode cX10_everybody 6 = .ok (.iconst 1, 1) := by decide +kernel
theorem dX10_everybody_7 : decode cX10_everybody 7 = .ok (.isub, 1) := by decide +kernel
theorem dX10_everybody_8 : decode cX10_everybody 8 = .ok (.ireturn, 1) := by decide +kernel
theorem dX10_isOne_0 : decode cX10_isOne 0 = .ok (.iload_n 1, 1) := by decide +kernel
theorem dX10_isOne_1 : decode cX10_isOne 1 = .ok (.iconst 0, 1) := by decide +kernel
theorem dX10_isOne_2 : decode cX10_isOne 2 = .ok (.aload_n 0, 1) := by decide +kernel
theorem dX10_isOne_3 : decode cX10_isOne 3 = .ok (.invokevirtual 109, 3) := by decide +kernel
theorem dX10_isOne_6 : decode cX10_isOne 6 = .ok (.iconst 1, 1) := by decide +kernel
theorem dX10_isOne_7 : decode cX10_isOne 7 = .ok (.isub, 1) := by decide +kernel
theorem dX10_isOne_8 : decode cX10_isOne 8 = .ok (.invokestatic 18, 3) := by decide +kernel
theorem dX10_isOne_11 : decode cX10_isOne 11 = .ok (.ireturn, 1) := by decide +kernel
theorem dX10_isOpen_0 : decode cX10_isOpen 0 = .ok (.aload_n 0, 1) := by decide +kernel
theorem dX10_isOpen_1 : decode cX10_isOpen 1 = .ok (.getfield 28, 3) := by decide +kernel
theorem dX10_isOpen_4 : decode cX10_isOpen 4 = .ok (.iconst 0, 1) := by decide +kernel
theorem dX10_isOpen_5 : decode cX10_isOpen 5 = .ok (.iaload, 1) := by decide +kernel
theorem dX10_isOpen_6 : decode cX10_isOpen 6 = .ok (.iload_n 1, 1) := by decide +kernel
theorem dX10_isOpen_7 : decode cX10_isOpen 7 = .ok (.invokestatic 113, 3) := by decide +kernel
theorem dX10_isOpen_10 : decode cX10_isOpen 10 = .ok (.ireturn, 1) := by decide +kernel
theorem dX10_adds_0 : decode cX10_adds 0 = .ok (.aload_n 0, 1) := by decide +kernel
theorem dX10_adds_1 : decode cX10_adds 1 = .ok (.invokevirtual 109, 3) := by decide +kernel
theorem dX10_adds_4 : decode cX10_adds 4 = .ok (.istore 4, 2) := by decide +kernel
theorem dX10_adds_6 : decode cX10_adds 6 = .ok (.aload_n 0, 1) := by decide +kernel
theorem dX10_adds_7 : decode cX10_adds 7 = .ok (.getfield 28, 3) := by decide +kernel
theorem dX10_adds_10 : decode cX10_adds 10 = .ok (.iconst 0, 1) := by decide +kernel
theorem dX10_adds_11 : decode cX10_adds 11 = .ok (.dup2, 1) := by decide +kernel
theorem dX10_adds_12 : decode cX10_adds 12 = .ok (.iaload, 1) := by decide +kernel
theorem dX10_adds_13 : decode cX10_adds 13 = .ok (.iconst 1, 1) := by decide +kernel
theorem dX10_adds_14 : decode cX10_adds 14 = .ok (.iload 4, 2) := by decide +kernel
theorem dX10_adds_16 : decode cX10_adds 16 = .ok (.ishl, 1) := by decide +kernel
theorem dX10_adds_17 : decode cX10_adds 17 = .ok (.iconst (-1), 1) := by decide +kernel
theorem dX10_adds_18 : decode cX10_adds 18 = .ok (.ixor, 1) := by decide +kernel
theorem dX10_adds_19 : decode cX10_adds 19 = .ok (.iand, 1) := by decide +kernel
theorem dX10_adds_20 : decode cX10_adds 20 = .ok (.iastore, 1) := by decide +kernel
theorem dX10_adds_21 : decode cX10_adds 21 = .ok (.aload_n 0, 1) := by decide +kernel
theorem dX10_adds_22 : decode cX10_adds 22 = .ok (.getfield 28, 3) := by decide +kernel
theorem dX10_adds_25 : decode cX10_adds 25 = .ok (.iconst 1, 1) := by decide +kernel
theorem dX10_adds_26 : decode cX10_adds 26 = .ok (.iload 4, 2) := by decide +kernel
theorem dX10_adds_28 : decode cX10_adds 28 = .ok (.iadd, 1) := by decide +kernel
theorem dX10_adds_29 : decode cX10_adds 29 = .ok (.iload_n 1, 1) := by decide +kernel
theorem dX10_adds_30 : decode cX10_adds 30 = .ok (.iastore, 1) := by decide +kernel
theorem dX10_adds_31 : decode cX10_adds 31 = .ok (.aload_n 0, 1) := by decide +kernel
theorem dX10_adds_32 : decode cX10_adds 32 = .ok (.getfield 28, 3) := by decide +kernel
theorem dX10_adds_35 : decode cX10_adds 35 = .ok (.bipush 9, 2) := by decide +kernel
theorem dX10_adds_37 : decode cX10_adds 37 = .ok (.iload 4, 2) := by decide +kernel
theorem dX10_adds_39 : decode cX10_adds 39 = .ok (.iadd, 1) := by decide +kernel
theorem dX10_adds_40 : decode cX10_adds 40 = .ok (.iconst 0, 1) := by decide +kernel
theorem dX10_adds_41 : decode cX10_adds 41 = .ok (.iastore, 1) := by decide +kernel
theorem dX10_adds_42 : decode cX10_adds 42 = .ok (.aload_n 0, 1) := by decide +kernel
theorem dX10_adds_43 : decode cX10_adds 43 = .ok (.getfield 28, 3) := by decide +kernel
theorem dX10_adds_46 : decode cX10_adds 46 = .ok (.bipush 18, 2) := by decide +kernel
theorem dX10_adds_48 : decode cX10_adds 48 = .ok (.iload 4, 2) := by decide +kernel
theorem dX10_adds_50 : decode cX10_adds 50 = .ok (.iadd, 1) := by decide +kernel
theorem dX10_adds_51 : decode cX10_adds 51 = .ok (.iload_n 2, 1) := by decide +kernel
theorem dX10_adds_52 : decode cX10_adds 52 = .ok (.iastore, 1) := by decide +kernel
theorem dX10_adds_53 : decode cX10_adds 53 = .ok (.aload_n 0, 1) := by decide +kernel
theorem dX10_adds_54 : decode cX10_adds 54 = .ok (.getfield 28, 3) := by decide +kernel
theorem dX10_adds_57 : decode cX10_adds 57 = .ok (.bipush 26, 2) := by decide +kernel
theorem dX10_adds_59 : decode cX10_adds 59 = .ok (.iload 4, 2) := by decide +kernel
theorem dX10_adds_61 : decode cX10_adds 61 = .ok (.iadd, 1) := by decide +kernel
theorem dX10_adds_62 : decode cX10_adds 62 = .ok (.iload_n 3, 1) := by decide +kernel
theorem dX10_adds_63 : decode cX10_adds 63 = .ok (.iastore, 1) := by decide +kernel
theorem dX10_adds_64 : decode cX10_adds 64 = .ok (.aload_n 0, 1) := by decide +kernel
theorem dX10_adds_65 : decode cX10_adds 65 = .ok (.getfield 28, 3) := by decide +kernel
theorem dX10_adds_68 : decode cX10_adds 68 = .ok (.bipush 49, 2) := by decide +kernel
theorem dX10_adds_70 : decode cX10_adds 70 = .ok (.dup2, 1) := by decide +kernel
theorem dX10_adds_71 : decode cX10_adds 71 = .ok (.iaload, 1) := by decide +kernel
theorem dX10_adds_72 : decode cX10_adds 72 = .ok (.iconst 1, 1) := by decide +kernel
theorem dX10_adds_73 : decode cX10_adds 73 = .ok (.iadd, 1) := by decide +kernel
theorem dX10_adds_74 : decode cX10_adds 74 = .ok (.iastore, 1) := by decide +kernel
theorem dX10_adds_75 : decode cX10_adds 75 = .ok (.iload 4, 2) := by decide +kernel
theorem dX10_adds_77 : decode cX10_adds 77 = .ok (.ireturn, 1) := by decide +kernel
theorem dX10_hedgehog_0 : decode cX10_hedgehog 0 = .ok (.iload_n 1, 1) := by decide +kernel
theorem dX10_hedgehog_1 : decode cX10_hedgehog 1 = .ok (.invokestatic 117, 3) := by decide +kernel
theorem dX10_hedgehog_4 : decode cX10_hedgehog 4 = .ok (.ifCond .eq 10, 3) := by decide +kernel
theorem dX10_hedgehog_7 : decode cX10_hedgehog 7 = .ok (.iload_n 2, 1) := by decide +kernel
theorem dX10_hedgehog_8 : decode cX10_hedgehog 8 = .ok (.invokestatic 117, 3) := by decide +kernel
theorem dX10_hedgehog_11 : decode cX10_hedgehog 11 = .ok (.ifCond .ne 9, 3) := by decide +kernel
theorem dX10_hedgehog_14 : decode cX10_hedgehog 14 = .ok (.aload_n 0, 1) := by decide +kernel
theorem dX10_hedgehog_15 : decode cX10_hedgehog 15 = .ok (.iconst (-1), 1) := by decide +kernel
theorem dX10_hedgehog_16 : decode cX10_hedgehog 16 = .ok (.invokevirtual 103, 3) := by decide +kernel
theorem dX10_hedgehog_19 : decode cX10_hedgehog 19 = .ok (.ireturn, 1) := by decide +kernel
theorem dX10_hedgehog_20 : decode cX10_hedgehog 20 = .ok (.aload_n 0, 1) := by decide +kernel
theorem dX10_hedgehog_21 : decode cX10_hedgehog 21 = .ok (.invokevirtual 109, 3) := by decide +kernel
theorem dX10_hedgehog_24 : decode cX10_hedgehog 24 = .ok (.bipush 8, 2) := by decide +kernel
theorem dX10_hedgehog_26 : decode cX10_hedgehog 26 = .ok (.if_icmp .ne 10, 3) := by decide +kernel
theorem dX10_hedgehog_29 : decode cX10_hedgehog 29 = .ok (.aload_n 0, 1) := by decide +kernel
theorem dX10_hedgehog_30 : decode cX10_hedgehog 30 = .ok (.bipush (-5), 2) := by decide +kernel
theorem dX10_hedgehog_32 : decode cX10_hedgehog 32 = .ok (.invokevirtual 103, 3) := by decide +kernel
theorem dX10_hedgehog_35 : decode cX10_hedgehog 35 = .ok (.ireturn, 1) := by decide +kernel
theorem dX10_hedgehog_36 : decode cX10_hedgehog 36 = .ok (.aload_n 0, 1) := by decide +kernel
theorem dX10_hedgehog_37 : decode cX10_hedgehog 37 = .ok (.aload_n 0, 1) := by decide +kernel
theorem dX10_hedgehog_38 : decode cX10_hedgehog 38 = .ok (.iload_n 1, 1) := by decide +kernel
theorem dX10_hedgehog_39 : decode cX10_hedgehog 39 = .ok (.iload_n 2, 1) := by decide +kernel
theorem dX10_hedgehog_40 : decode cX10_hedgehog 40 = .ok (.iconst 0, 1) := by decide +kernel
theorem dX10_hedgehog_41 : decode cX10_hedgehog 41 = .ok (.invokevirtual 121, 3) := by decide +kernel
theorem dX10_hedgehog_44 : decode cX10_hedgehog 44 = .ok (.invokevirtual 106, 3) := by decide +kernel
theorem dX10_hedgehog_47 : decode cX10_hedgehog 47 = .ok (.ireturn, 1) := by decide +kernel
theorem dX10_watch_0 : decode cX10_watch 0 = .ok (.iload_n 1, 1) := by decide +kernel
theorem dX10_watch_1 : decode cX10_watch 1 = .ok (.iload_n 2, 1) := by decide +kernel
theorem dX10_watch_2 : decode cX10_watch 2 = .ok (.if_icmp .eq 10, 3) := by decide +kernel
theorem dX10_watch_5 : decode cX10_watch 5 = .ok (.iload_n 3, 1) := by decide +kernel
theorem dX10_watch_6 : decode cX10_watch 6 = .ok (.invokestatic 125, 3) := by decide +kernel
theorem dX10_watch_9 : decode cX10_watch 9 = .ok (.ifCond .ne 9, 3) := by decide +kernel
theorem dX10_watch_12 : decode cX10_watch 12 = .ok (.aload_n 0, 1) := by decide +kernel
theorem dX10_watch_13 : decode cX10_watch 13 = .ok (.iconst (-1), 1) := by decide +kernel
theorem dX10_watch_14 : decode cX10_watch 14 = .ok (.invokevirtual 103, 3) := by decide +kernel
theorem dX10_watch_17 : decode cX10_watch 17 = .ok (.ireturn, 1) := by decide +kernel
theorem dX10_watch_18 : decode cX10_watch 18 = .ok (.aload_n 0, 1) := by decide +kernel
theorem dX10_watch_19 : decode cX10_watch 19 = .ok (.iload_n 1, 1) := by decide +kernel
theorem dX10_watch_20 : decode cX10_watch 20 = .ok (.invokevirtual 128, 3) := by decide +kernel
theorem dX10_watch_23 : decode cX10_watch 23 = .ok (.ifCond .eq 11, 3) := by decide +kernel
theorem dX10_watch_26 : decode cX10_watch 26 = .ok (.aload_n 0, 1) := by decide +kernel
theorem dX10_watch_27 : decode cX10_watch 27 = .ok (.iload_n 2, 1) := by decide +kernel
theorem dX10_watch_28 : decode cX10_watch 28 = .ok (.invokevirtual 128, 3) := by decide +kernel
theorem dX10_watch_31 : decode cX10_watch 31 = .ok (.ifCond .ne 10, 3) := by decide +kernel
theorem dX10_watch_34 : decode cX10_watch 34 = .ok (.aload_n 0, 1) := by decide +kernel
theorem dX10_watch_35 : decode cX10_watch 35 = .ok (.bipush (-2), 2) := by decide +kernel
theorem dX10_watch_37 : decode cX10_watch 37 = .ok (.invokevirtual 103, 3) := by decide +kernel
theorem dX10_watch_40 : decode cX10_watch 40 = .ok (.ireturn, 1) := by decide +kernel
theorem dX10_watch_41 : decode cX10_watch 41 = .ok (.aload_n 0, 1) := by decide +kernel
theorem dX10_watch_42 : decode cX10_watch 42 = .ok (.getfield 28, 3) := by decide +kernel
theorem dX10_watch_45 : decode cX10_watch 45 = .ok (.bipush 26, 2) := by decide +kernel
theorem dX10_watch_47 : decode cX10_watch 47 = .ok (.iload_n 1, 1) := by decide +kernel
theorem dX10_watch_48 : decode cX10_watch 48 = .ok (.iadd, 1) := by decide +kernel
theorem dX10_watch_49 : decode cX10_watch 49 = .ok (.iaload, 1) := by decide +kernel
theorem dX10_watch_50 : decode cX10_watch 50 = .ok (.iload_n 2, 1) := by decide +kernel
theorem dX10_watch_51 : decode cX10_watch 51 = .ok (.ishr, 1) := by decide +kernel
theorem dX10_watch_52 : decode cX10_watch 52 = .ok (.iconst 1, 1) := by decide +kernel
theorem dX10_watch_53 : decode cX10_watch 53 = .ok (.iand, 1) := by decide +kernel
theorem dX10_watch_54 : decode cX10_watch 54 = .ok (.istore 4, 2) := by decide +kernel
theorem dX10_watch_56 : decode cX10_watch 56 = .ok (.aload_n 0, 1) := by decide +kernel
theorem dX10_watch_57 : decode cX10_watch 57 = .ok (.getfield 28, 3) := by decide +kernel
theorem dX10_watch_60 : decode cX10_watch 60 = .ok (.bipush 26, 2) := by decide +kernel
theorem dX10_watch_62 : decode cX10_watch 62 = .ok (.iload_n 1, 1) := by decide +kernel
theorem dX10_watch_63 : decode cX10_watch 63 = .ok (.iadd, 1) := by decide +kernel
theorem dX10_watch_64 : decode cX10_watch 64 = .ok (.aload_n 0, 1) := by decide +kernel
theorem dX10_watch_65 : decode cX10_watch 65 = .ok (.getfield 28, 3) := by decide +kernel
theorem dX10_watch_68 : decode cX10_watch 68 = .ok (.bipush 26, 2) := by decide +kernel
theorem dX10_watch_70 : decode cX10_watch 70 = .ok (.iload_n 1, 1) := by decide +kernel
theorem dX10_watch_71 : decode cX10_watch 71 = .ok (.iadd, 1) := by decide +kernel
theorem dX10_watch_72 : decode cX10_watch 72 = .ok (.iaload, 1) := by decide +kernel
theorem dX10_watch_73 : decode cX10_watch 73 = .ok (.iconst 1, 1) := by decide +kernel
theorem dX10_watch_74 : decode cX10_watch 74 = .ok (.iload_n 2, 1) := by decide +kernel
theorem dX10_watch_75 : decode cX10_watch 75 = .ok (.ishl, 1) := by decide +kernel
theorem dX10_watch_76 : decode cX10_watch 76 = .ok (.iconst (-1), 1) := by decide +kernel
theorem dX10_watch_77 : decode cX10_watch 77 = .ok (.ixor, 1) := by decide +kernel
theorem dX10_watch_78 : decode cX10_watch 78 = .ok (.iand, 1) := by decide +kernel
theorem dX10_watch_79 : decode cX10_watch 79 = .ok (.iload_n 3, 1) := by decide +kernel
theorem dX10_watch_80 : decode cX10_watch 80 = .ok (.iload_n 2, 1) := by decide +kernel
theorem dX10_watch_81 : decode cX10_watch 81 = .ok (.ishl, 1) := by decide +kernel
theorem dX10_watch_82 : decode cX10_watch 82 = .ok (.ior, 1) := by decide +kernel
theorem dX10_watch_83 : decode cX10_watch 83 = .ok (.iastore, 1) := by decide +kernel
theorem dX10_watch_84 : decode cX10_watch 84 = .ok (.aload_n 0, 1) := by decide +kernel
theorem dX10_watch_85 : decode cX10_watch 85 = .ok (.iload 4, 2) := by decide +kernel
theorem dX10_watch_87 : decode cX10_watch 87 = .ok (.invokevirtual 14, 3) := by decide +kernel
theorem dX10_watch_90 : decode cX10_watch 90 = .ok (.ireturn, 1) := by decide +kernel
theorem dX10_toldBare_0 : decode cX10_toldBare 0 = .ok (.iload_n 2, 1) := by decide +kernel
theorem dX10_toldBare_1 : decode cX10_toldBare 1 = .ok (.tableswitch 74 0 3 #[31, 40, 50, 60], 31) := by decide +kernel
theorem dX10_toldBare_32 : decode cX10_toldBare 32 = .ok (.aload_n 0, 1) := by decide +kernel
theorem dX10_toldBare_33 : decode cX10_toldBare 33 = .ok (.getfield 28, 3) := by decide +kernel
theorem dX10_toldBare_36 : decode cX10_toldBare 36 = .ok (.iconst 1, 1) := by decide +kernel
theorem dX10_toldBare_37 : decode cX10_toldBare 37 = .ok (.iload_n 1, 1) := by decide +kernel
theorem dX10_toldBare_38 : decode cX10_toldBare 38 = .ok (.iadd, 1) := by decide +kernel
theorem dX10_toldBare_39 : decode cX10_toldBare 39 = .ok (.iaload, 1) := by decide +kernel
theorem dX10_toldBare_40 : decode cX10_toldBare 40 = .ok (.ireturn, 1) := by decide +kernel
theorem dX10_toldBare_41 : decode cX10_toldBare 41 = .ok (.aload_n 0, 1) := by decide +kernel
theorem dX10_toldBare_42 : decode cX10_toldBare 42 = .ok (.getfield 28, 3) := by decide +kernel
theorem dX10_toldBare_45 : decode cX10_toldBare 45 = .ok (.bipush 18, 2) := by decide +kernel
theorem dX10_toldBare_47 : decode cX10_toldBare 47 = .ok (.iload_n 1, 1) := by decide +kernel
theorem dX10_toldBare_48 : decode cX10_toldBare 48 = .ok (.iadd, 1) := by decide +kernel
theorem dX10_toldBare_49 : decode cX10_toldBare 49 = .ok (.iaload, 1) := by decide +kernel
theorem dX10_toldBare_50 : decode cX10_toldBare 50 = .ok (.ireturn, 1) := by decide +kernel
theorem dX10_toldBare_51 : decode cX10_toldBare 51 = .ok (.aload_n 0, 1) := by decide +kernel
theorem dX10_toldBare_52 : decode cX10_toldBare 52 = .ok (.getfield 28, 3) := by decide +kernel
theorem dX10_toldBare_55 : decode cX10_toldBare 55 = .ok (.bipush 26, 2) := by decide +kernel
theorem dX10_toldBare_57 : decode cX10_toldBare 57 = .ok (.iload_n 1, 1) := by decide +kernel
theorem dX10_toldBare_58 : decode cX10_toldBare 58 = .ok (.iadd, 1) := by decide +kernel
theorem dX10_toldBare_59 : decode cX10_toldBare 59 = .ok (.iaload, 1) := by decide +kernel
theorem dX10_toldBare_60 : decode cX10_toldBare 60 = .ok (.ireturn, 1) := by decide +kernel
theorem dX10_toldBare_61 : decode cX10_toldBare 61 = .ok (.aload_n 0, 1) := by decide +kernel
theorem dX10_toldBare_62 : decode cX10_toldBare 62 = .ok (.iload_n 1, 1) := by decide +kernel
theorem dX10_toldBare_63 : decode cX10_toldBare 63 = .ok (.invokevirtual 131, 3) := by decide +kernel
theorem dX10_toldBare_66 : decode cX10_toldBare 66 = .ok (.ifCond .eq 7, 3) := by decide +kernel
theorem dX10_toldBare_69 : decode cX10_toldBare 69 = .ok (.iconst 1, 1) := by decide +kernel
theorem dX10_toldBare_70 : decode cX10_toldBare 70 = .ok (.goto 4, 3) := by decide +kernel
theorem dX10_toldBare_73 : decode cX10_toldBare 73 = .ok (.iconst 0, 1) := by decide +kernel
theorem dX10_toldBare_74 : decode cX10_toldBare 74 = .ok (.ireturn, 1) := by decide +kernel
theorem dX10_toldBare_75 : decode cX10_toldBare 75 = .ok (.aload_n 0, 1) := by decide +kernel
theorem dX10_toldBare_76 : decode cX10_toldBare 76 = .ok (.getfield 28, 3) := by decide +kernel
theorem dX10_toldBare_79 : decode cX10_toldBare 79 = .ok (.bipush 9, 2) := by decide +kernel
theorem dX10_toldBare_81 : decode cX10_toldBare 81 = .ok (.iload_n 1, 1) := by decide +kernel
theorem dX10_toldBare_82 : decode cX10_toldBare 82 = .ok (.iadd, 1) := by decide +kernel
theorem dX10_toldBare_83 : decode cX10_toldBare 83 = .ok (.iaload, 1) := by decide +kernel
theorem dX10_toldBare_84 : decode cX10_toldBare 84 = .ok (.ireturn, 1) := by decide +kernel
theorem dX10_toldByLaw_0 : decode cX10_toldByLaw 0 = .ok (.iload_n 2, 1) := by decide +kernel
theorem dX10_toldByLaw_1 : decode cX10_toldByLaw 1 = .ok (.tableswitch 53 5 7 #[27, 33, 39], 27) := by decide +kernel
theorem dX10_toldByLaw_28 : decode cX10_toldByLaw 28 = .ok (.aload_n 0, 1) := by decide +kernel
theorem dX10_toldByLaw_29 : decode cX10_toldByLaw 29 = .ok (.iload_n 1, 1) := by decide +kernel
theorem dX10_toldByLaw_30 : decode cX10_toldByLaw 30 = .ok (.invokevirtual 134, 3) := by decide +kernel
theorem dX10_toldByLaw_33 : decode cX10_toldByLaw 33 = .ok (.ireturn, 1) := by decide +kernel
theorem dX10_toldByLaw_34 : decode cX10_toldByLaw 34 = .ok (.aload_n 0, 1) := by decide +kernel
theorem dX10_toldByLaw_35 : decode cX10_toldByLaw 35 = .ok (.iload_n 1, 1) := by decide +kernel
theorem dX10_toldByLaw_36 : decode cX10_toldByLaw 36 = .ok (.invokevirtual 137, 3) := by decide +kernel
theorem dX10_toldByLaw_39 : decode cX10_toldByLaw 39 = .ok (.ireturn, 1) := by decide +kernel
theorem dX10_toldByLaw_40 : decode cX10_toldByLaw 40 = .ok (.aload_n 0, 1) := by decide +kernel
theorem dX10_toldByLaw_41 : decode cX10_toldByLaw 41 = .ok (.iload_n 1, 1) := by decide +kernel
theorem dX10_toldByLaw_42 : decode cX10_toldByLaw 42 = .ok (.invokevirtual 140, 3) := by decide +kernel
theorem dX10_toldByLaw_45 : decode cX10_toldByLaw 45 = .ok (.ifCond .eq 7, 3) := by decide +kernel
theorem dX10_toldByLaw_48 : decode cX10_toldByLaw 48 = .ok (.iconst 1, 1) := by decide +kernel
theorem dX10_toldByLaw_49 : decode cX10_toldByLaw 49 = .ok (.goto 4, 3) := by decide +kernel
theorem dX10_toldByLaw_52 : decode cX10_toldByLaw 52 = .ok (.iconst 0, 1) := by decide +kernel
theorem dX10_toldByLaw_53 : decode cX10_toldByLaw 53 = .ok (.ireturn, 1) := by decide +kernel
theorem dX10_toldByLaw_54 : decode cX10_toldByLaw 54 = .ok (.aload_n 0, 1) := by decide +kernel
theorem dX10_toldByLaw_55 : decode cX10_toldByLaw 55 = .ok (.iload_n 1, 1) := by decide +kernel
theorem dX10_toldByLaw_56 : decode cX10_toldByLaw 56 = .ok (.invokevirtual 143, 3) := by decide +kernel
theorem dX10_toldByLaw_59 : decode cX10_toldByLaw 59 = .ok (.ifCond .eq 7, 3) := by decide +kernel
theorem dX10_toldByLaw_62 : decode cX10_toldByLaw 62 = .ok (.iconst 1, 1) := by decide +kernel
theorem dX10_toldByLaw_63 : decode cX10_toldByLaw 63 = .ok (.goto 4, 3) := by decide +kernel
theorem dX10_toldByLaw_66 : decode cX10_toldByLaw 66 = .ok (.iconst 0, 1) := by decide +kernel
theorem dX10_toldByLaw_67 : decode cX10_toldByLaw 67 = .ok (.ireturn, 1) := by decide +kernel
theorem dX10_of_0 : decode cX10_of 0 = .ok (.aload_n 0, 1) := by decide +kernel
theorem dX10_of_1 : decode cX10_of 1 = .ok (.iload_n 1, 1) := by decide +kernel
theorem dX10_of_2 : decode cX10_of 2 = .ok (.invokevirtual 128, 3) := by decide +kernel
theorem dX10_of_5 : decode cX10_of 5 = .ok (.ifCond .eq 13, 3) := by decide +kernel
theorem dX10_of_8 : decode cX10_of 8 = .ok (.iload_n 2, 1) := by decide +kernel
theorem dX10_of_9 : decode cX10_of 9 = .ok (.iconst 0, 1) := by decide +kernel
theorem dX10_of_10 : decode cX10_of 10 = .ok (.bipush 8, 2) := by decide +kernel
theorem dX10_of_12 : decode cX10_of 12 = .ok (.invokestatic 18, 3) := by decide +kernel
theorem dX10_of_15 : decode cX10_of 15 = .ok (.ifCond .ne 5, 3) := by decide +kernel
theorem dX10_of_18 : decode cX10_of 18 = .ok (.iconst (-1), 1) := by decide +kernel
theorem dX10_of_19 : decode cX10_of 19 = .ok (.ireturn, 1) := by decide +kernel
theorem dX10_of_20 : decode cX10_of 20 = .ok (.iload_n 2, 1) := by decide +kernel
theorem dX10_of_21 : decode cX10_of 21 = .ok (.iconst 5, 1) := by decide +kernel
theorem dX10_of_22 : decode cX10_of 22 = .ok (.if_icmp .ge 12, 3) := by decide +kernel
theorem dX10_of_25 : decode cX10_of 25 = .ok (.aload_n 0, 1) := by decide +kernel
theorem dX10_of_26 : decode cX10_of 26 = .ok (.iload_n 1, 1) := by decide +kernel
theorem dX10_of_27 : decode cX10_of 27 = .ok (.iload_n 2, 1) := by decide +kernel
theorem dX10_of_28 : decode cX10_of 28 = .ok (.invokevirtual 146, 3) := by decide +kernel
theorem dX10_of_31 : decode cX10_of 31 = .ok (.goto 9, 3) := by decide +kernel
theorem dX10_of_34 : decode cX10_of 34 = .ok (.aload_n 0, 1) := by decide +kernel
theorem dX10_of_35 : decode cX10_of 35 = .ok (.iload_n 1, 1) := by decide +kernel
theorem dX10_of_36 : decode cX10_of 36 = .ok (.iload_n 2, 1) := by decide +kernel
theorem dX10_of_37 : decode cX10_of 37 = .ok (.invokevirtual 150, 3) := by decide +kernel
theorem dX10_of_40 : decode cX10_of 40 = .ok (.ireturn, 1) := by decide +kernel
theorem dX10_isTerm_0 : decode cX10_isTerm 0 = .ok (.iload_n 0, 1) := by decide +kernel
theorem dX10_isTerm_1 : decode cX10_isTerm 1 = .ok (.tableswitch 58 0 3 #[31, 40, 48, 53], 31) := by decide +kernel
theorem dX10_isTerm_32 : decode cX10_isTerm 32 = .ok (.iload_n 1, 1) := by decide +kernel
theorem dX10_isTerm_33 : decode cX10_isTerm 33 = .ok (.iconst 0, 1) := by decide +kernel
theorem dX10_isTerm_34 : decode cX10_isTerm 34 = .ok (.sipush 999, 3) := by decide +kernel
theorem dX10_isTerm_37 : decode cX10_isTerm 37 = .ok (.invokestatic 18, 3) := by decide +kernel
theorem dX10_isTerm_40 : decode cX10_isTerm 40 = .ok (.ireturn, 1) := by decide +kernel
theorem dX10_isTerm_41 : decode cX10_isTerm 41 = .ok (.iload_n 1, 1) := by decide +kernel
theorem dX10_isTerm_42 : decode cX10_isTerm 42 = .ok (.iconst 0, 1) := by decide +kernel
theorem dX10_isTerm_43 : decode cX10_isTerm 43 = .ok (.bipush 10, 2) := by decide +kernel
theorem dX10_isTerm_45 : decode cX10_isTerm 45 = .ok (.invokestatic 18, 3) := by decide +kernel
theorem dX10_isTerm_48 : decode cX10_isTerm 48 = .ok (.ireturn, 1) := by decide +kernel
theorem dX10_isTerm_49 : decode cX10_isTerm 49 = .ok (.iload_n 1, 1) := by decide +kernel
theorem dX10_isTerm_50 : decode cX10_isTerm 50 = .ok (.invokestatic 117, 3) := by decide +kernel
theorem dX10_isTerm_53 : decode cX10_isTerm 53 = .ok (.ireturn, 1) := by decide +kernel
theorem dX10_isTerm_54 : decode cX10_isTerm 54 = .ok (.iload_n 1, 1) := by decide +kernel
theorem dX10_isTerm_55 : decode cX10_isTerm 55 = .ok (.invokestatic 117, 3) := by decide +kernel
theorem dX10_isTerm_58 : decode cX10_isTerm 58 = .ok (.ireturn, 1) := by decide +kernel
theorem dX10_isTerm_59 : decode cX10_isTerm 59 = .ok (.iconst 0, 1) := by decide +kernel
theorem dX10_isTerm_60 : decode cX10_isTerm 60 = .ok (.ireturn, 1) := by decide +kernel
theorem dX10_termAt_0 : decode cX10_termAt 0 = .ok (.iload_n 0, 1) := by decide +kernel
theorem dX10_termAt_1 : decode cX10_termAt 1 = .ok (.tableswitch 36 0 2 #[27, 30, 33], 27) := by decide +kernel
theorem dX10_termAt_28 : decode cX10_termAt 28 = .ok (.bipush 17, 2) := by decide +kernel
theorem dX10_termAt_30 : decode cX10_termAt 30 = .ok (.ireturn, 1) := by decide +kernel
theorem dX10_termAt_31 : decode cX10_termAt 31 = .ok (.bipush 46, 2) := by decide +kernel
theorem dX10_termAt_33 : decode cX10_termAt 33 = .ok (.ireturn, 1) := by decide +kernel
theorem dX10_termAt_34 : decode cX10_termAt 34 = .ok (.bipush 47, 2) := by decide +kernel
theorem dX10_termAt_36 : decode cX10_termAt 36 = .ok (.ireturn, 1) := by decide +kernel
theorem dX10_termAt_37 : decode cX10_termAt 37 = .ok (.bipush 48, 2) := by decide +kernel
theorem dX10_termAt_39 : decode cX10_termAt 39 = .ok (.ireturn, 1) := by decide +kernel
theorem dX10_terms_0 : decode cX10_terms 0 = .ok (.iload_n 1, 1) := by decide +kernel
theorem dX10_terms_1 : decode cX10_terms 1 = .ok (.iload_n 2, 1) := by decide +kernel
theorem dX10_terms_2 : decode cX10_terms 2 = .ok (.invokestatic 153, 3) := by decide +kernel
theorem dX10_terms_5 : decode cX10_terms 5 = .ok (.ifCond .ne 9, 3) := by decide +kernel
theorem dX10_terms_8 : decode cX10_terms 8 = .ok (.aload_n 0, 1) := by decide +kernel
theorem dX10_terms_9 : decode cX10_terms 9 = .ok (.iconst (-1), 1) := by decide +kernel
theorem dX10_terms_10 : decode cX10_terms 10 = .ok (.invokevirtual 103, 3) := by decide +kernel
theorem dX10_terms_13 : decode cX10_terms 13 = .ok (.ireturn, 1) := by decide +kernel
theorem dX10_terms_14 : decode cX10_terms 14 = .ok (.aload_n 0, 1) := by decide +kernel
theorem dX10_terms_15 : decode cX10_terms 15 = .ok (.getfield 28, 3) := by decide +kernel
theorem dX10_terms_18 : decode cX10_terms 18 = .ok (.iload_n 1, 1) := by decide +kernel
theorem dX10_terms_19 : decode cX10_terms 19 = .ok (.invokestatic 156, 3) := by decide +kernel
theorem dX10_terms_22 : decode cX10_terms 22 = .ok (.iaload, 1) := by decide +kernel
theorem dX10_terms_23 : decode cX10_terms 23 = .ok (.istore_n 3, 1) := by decide +kernel
theorem dX10_terms_24 : decode cX10_terms 24 = .ok (.aload_n 0, 1) := by decide +kernel
theorem dX10_terms_25 : decode cX10_terms 25 = .ok (.getfield 28, 3) := by decide +kernel
theorem dX10_terms_28 : decode cX10_terms 28 = .ok (.iload_n 1, 1) := by decide +kernel
theorem dX10_terms_29 : decode cX10_terms 29 = .ok (.invokestatic 156, 3) := by decide +kernel
theorem dX10_terms_32 : decode cX10_terms 32 = .ok (.iload_n 2, 1) := by decide +kernel
theorem dX10_terms_33 : decode cX10_terms 33 = .ok (.iastore, 1) := by decide +kernel
theorem dX10_terms_34 : decode cX10_terms 34 = .ok (.aload_n 0, 1) := by decide +kernel
theorem dX10_terms_35 : decode cX10_terms 35 = .ok (.iload_n 3, 1) := by decide +kernel
theorem dX10_terms_36 : decode cX10_terms 36 = .ok (.invokevirtual 106, 3) := by decide +kernel
theorem dX10_terms_39 : decode cX10_terms 39 = .ok (.ireturn, 1) := by decide +kernel
theorem dX10_watchAt_0 : decode cX10_watchAt 0 = .ok (.aload_n 0, 1) := by decide +kernel
theorem dX10_watchAt_1 : decode cX10_watchAt 1 = .ok (.getfield 45, 3) := by decide +kernel
theorem dX10_watchAt_4 : decode cX10_watchAt 4 = .ok (.iload_n 1, 1) := by decide +kernel
theorem dX10_watchAt_5 : decode cX10_watchAt 5 = .ok (.iconst 2, 1) := by decide +kernel
theorem dX10_watchAt_6 : decode cX10_watchAt 6 = .ok (.iadd, 1) := by decide +kernel
theorem dX10_watchAt_7 : decode cX10_watchAt 7 = .ok (.baload, 1) := by decide +kernel
theorem dX10_watchAt_8 : decode cX10_watchAt 8 = .ok (.sipush 255, 3) := by decide +kernel
theorem dX10_watchAt_11 : decode cX10_watchAt 11 = .ok (.iand, 1) := by decide +kernel
theorem dX10_watchAt_12 : decode cX10_watchAt 12 = .ok (.ireturn, 1) := by decide +kernel
theorem dX10_canRow_0 : decode cX10_canRow 0 = .ok (.aload_n 0, 1) := by decide +kernel
theorem dX10_canRow_1 : decode cX10_canRow 1 = .ok (.invokevirtual 109, 3) := by decide +kernel
theorem dX10_canRow_4 : decode cX10_canRow 4 = .ok (.bipush 8, 2) := by decide +kernel
theorem dX10_canRow_6 : decode cX10_canRow 6 = .ok (.if_icmp .ne 5, 3) := by decide +kernel
theorem dX10_canRow_9 : decode cX10_canRow 9 = .ok (.iconst 0, 1) := by decide +kernel
theorem dX10_canRow_10 : decode cX10_canRow 10 = .ok (.ireturn, 1) := by decide +kernel
theorem dX10_canRow_11 : decode cX10_canRow 11 = .ok (.aload_n 0, 1) := by decide +kernel
theorem dX10_canRow_12 : decode cX10_canRow 12 = .ok (.getfield 45, 3) := by decide +kernel
theorem dX10_canRow_15 : decode cX10_canRow 15 = .ok (.iload_n 1, 1) := by decide +kernel
theorem dX10_canRow_16 : decode cX10_canRow 16 = .ok (.baload, 1) := by decide +kernel
theorem dX10_canRow_17 : decode cX10_canRow 17 = .ok (.invokestatic 117, 3) := by decide +kernel
theorem dX10_canRow_20 : decode cX10_canRow 20 = .ok (.ifCond .eq 17, 3) := by decide +kernel
theorem dX10_canRow_23 : decode cX10_canRow 23 = .ok (.aload_n 0, 1) := by decide +kernel
theorem dX10_canRow_24 : decode cX10_canRow 24 = .ok (.getfield 45, 3) := by decide +kernel
theorem dX10_canRow_27 : decode cX10_canRow 27 = .ok (.iload_n 1, 1) := by decide +kernel
theorem dX10_canRow_28 : decode cX10_canRow 28 = .ok (.iconst 1, 1) := by decide +kernel
theorem dX10_canRow_29 : decode cX10_canRow 29 = .ok (.iadd, 1) := by decide +kernel
theorem dX10_canRow_30 : decode cX10_canRow 30 = .ok (.baload, 1) := by decide +kernel
theorem dX10_canRow_31 : decode cX10_canRow 31 = .ok (.invokestatic 117, 3) := by decide +kernel
theorem dX10_canRow_34 : decode cX10_canRow 34 = .ok (.ifCond .ne 5, 3) := by decide +kernel
theorem dX10_canRow_37 : decode cX10_canRow 37 = .ok (.iconst 0, 1) := by decide +kernel
theorem dX10_canRow_38 : decode cX10_canRow 38 = .ok (.ireturn, 1) := by decide +kernel
theorem dX10_canRow_39 : decode cX10_canRow 39 = .ok (.aload_n 0, 1) := by decide +kernel
theorem dX10_canRow_40 : decode cX10_canRow 40 = .ok (.iload_n 1, 1) := by decide +kernel
theorem dX10_canRow_41 : decode cX10_canRow 41 = .ok (.invokevirtual 159, 3) := by decide +kernel
theorem dX10_canRow_44 : decode cX10_canRow 44 = .ok (.aload_n 0, 1) := by decide +kernel
theorem dX10_canRow_45 : decode cX10_canRow 45 = .ok (.invokevirtual 162, 3) := by decide +kernel
theorem dX10_canRow_48 : decode cX10_canRow 48 = .ok (.if_icmp .gt 7, 3) := by decide +kernel
theorem dX10_canRow_51 : decode cX10_canRow 51 = .ok (.iconst 1, 1) := by decide +kernel
theorem dX10_canRow_52 : decode cX10_canRow 52 = .ok (.goto 4, 3) := by decide +kernel
theorem dX10_canRow_55 : decode cX10_canRow 55 = .ok (.iconst 0, 1) := by decide +kernel
theorem dX10_canRow_56 : decode cX10_canRow 56 = .ok (.ireturn, 1) := by decide +kernel
theorem dX10_row_0 : decode cX10_row 0 = .ok (.aload_n 0, 1) := by decide +kernel
theorem dX10_row_1 : decode cX10_row 1 = .ok (.getfield 165, 3) := by decide +kernel
theorem dX10_row_4 : decode cX10_row 4 = .ok (.istore_n 1, 1) := by decide +kernel
theorem dX10_row_5 : decode cX10_row 5 = .ok (.aload_n 0, 1) := by decide +kernel
theorem dX10_row_6 : decode cX10_row 6 = .ok (.iconst 0, 1) := by decide +kernel
theorem dX10_row_7 : decode cX10_row 7 = .ok (.putfield 165, 3) := by decide +kernel
theorem dX10_row_10 : decode cX10_row 10 = .ok (.iload_n 1, 1) := by decide +kernel
theorem dX10_row_11 : decode cX10_row 11 = .ok (.ifCond .ne 10, 3) := by decide +kernel
theorem dX10_row_14 : decode cX10_row 14 = .ok (.aload_n 0, 1) := by decide +kernel
theorem dX10_row_15 : decode cX10_row 15 = .ok (.bipush (-6), 2) := by decide +kernel
theorem dX10_row_17 : decode cX10_row 17 = .ok (.invokevirtual 103, 3) := by decide +kernel
theorem dX10_row_20 : decode cX10_row 20 = .ok (.ireturn, 1) := by decide +kernel
theorem dX10_row_21 : decode cX10_row 21 = .ok (.iconst 0, 1) := by decide +kernel
theorem dX10_row_22 : decode cX10_row 22 = .ok (.istore_n 2, 1) := by decide +kernel
theorem dX10_row_23 : decode cX10_row 23 = .ok (.iload_n 1, 1) := by decide +kernel
theorem dX10_row_24 : decode cX10_row 24 = .ok (.iconst 2, 1) := by decide +kernel
theorem dX10_row_25 : decode cX10_row 25 = .ok (.iadd, 1) := by decide +kernel
theorem dX10_row_26 : decode cX10_row 26 = .ok (.iconst 3, 1) := by decide +kernel
theorem dX10_row_27 : decode cX10_row 27 = .ok (.idiv, 1) := by decide +kernel
theorem dX10_row_28 : decode cX10_row 28 = .ok (.istore_n 3, 1) := by decide +kernel
theorem dX10_row_29 : decode cX10_row 29 = .ok (.iconst 0, 1) := by decide +kernel
theorem dX10_row_30 : decode cX10_row 30 = .ok (.istore 4, 2) := by decide +kernel
theorem dX10_row_32 : decode cX10_row 32 = .ok (.iload 4, 2) := by decide +kernel
theorem dX10_row_34 : decode cX10_row 34 = .ok (.iconst 3, 1) := by decide +kernel
theorem dX10_row_35 : decode cX10_row 35 = .ok (.iadd, 1) := by decide +kernel
theorem dX10_row_36 : decode cX10_row 36 = .ok (.iload_n 1, 1) := by decide +kernel
theorem dX10_row_37 : decode cX10_row 37 = .ok (.if_icmp .gt 51, 3) := by decide +kernel
theorem dX10_row_40 : decode cX10_row 40 = .ok (.aload_n 0, 1) := by decide +kernel
theorem dX10_row_41 : decode cX10_row 41 = .ok (.iload 4, 2) := by decide +kernel
theorem dX10_row_43 : decode cX10_row 43 = .ok (.invokevirtual 168, 3) := by decide +kernel
theorem dX10_row_46 : decode cX10_row 46 = .ok (.ifCond .ne 6, 3) := by decide +kernel
theorem dX10_row_49 : decode cX10_row 49 = .ok (.goto 33, 3) := by decide +kernel
theorem dX10_row_52 : decode cX10_row 52 = .ok (.aload_n 0, 1) := by decide +kernel
theorem dX10_row_53 : decode cX10_row 53 = .ok (.aload_n 0, 1) := by decide +kernel
theorem dX10_row_54 : decode cX10_row 54 = .ok (.getfield 45, 3) := by decide +kernel
theorem dX10_row_57 : decode cX10_row 57 = .ok (.iload 4, 2) := by decide +kernel
theorem dX10_row_59 : decode cX10_row 59 = .ok (.baload, 1) := by decide +kernel
theorem dX10_row_60 : decode cX10_row 60 = .ok (.aload_n 0, 1) := by decide +kernel
theorem dX10_row_61 : decode cX10_row 61 = .ok (.getfield 45, 3) := by decide +kernel
theorem dX10_row_64 : decode cX10_row 64 = .ok (.iload 4, 2) := by decide +kernel
theorem dX10_row_66 : decode cX10_row 66 = .ok (.iconst 1, 1) := by decide +kernel
theorem dX10_row_67 : decode cX10_row 67 = .ok (.iadd, 1) := by decide +kernel
