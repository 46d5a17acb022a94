theorem dX9_lies_0 : decode cX9_lies 0 = .ok (.iload_n 0, 1) := by decide +kernel
theorem dX9_lies_1 : decode cX9_lies 1 = .ok (.iload_n 1, 1) := by decide +kernel
theorem dX9_lies_2 : decode cX9_lies 2 = .ok (.if_icmp .lt 12, 3) := by decide +kernel
theorem dX9_lies_5 : decode cX9_lies 5 = .ok (.iload_n 0, 1) := by decide +kernel
theorem dX9_lies_6 : decode cX9_lies 6 = .ok (.iload_n 2, 1) := by decide +kernel
theorem dX9_lies_7 : decode cX9_lies 7 = .ok (.if_icmp .gt 7, 3) := by decide +kernel
theorem dX9_lies_10 : decode cX9_lies 10 = .ok (.iconst 1, 1) := by decide +kernel
theorem dX9_lies_11 : decode cX9_lies 11 = .ok (.goto 4, 3) := by decide +kernel
theorem dX9_lies_14 : decode cX9_lies 14 = .ok (.iconst 0, 1) := by decide +kernel
theorem dX9_lies_15 : decode cX9_lies 15 = .ok (.ireturn, 1) := by decide +kernel
theorem dX9_refuses_0 : decode cX9_refuses 0 = .ok (.aload_n 0, 1) := by decide +kernel
theorem dX9_refuses_1 : decode cX9_refuses 1 = .ok (.iload_n 1, 1) := by decide +kernel
theorem dX9_refuses_2 : decode cX9_refuses 2 = .ok (.putfield 3, 3) := by decide +kernel
theorem dX9_refuses_5 : decode cX9_refuses 5 = .ok (.aload_n 0, 1) := by decide +kernel
theorem dX9_refuses_6 : decode cX9_refuses 6 = .ok (.getfield 7, 3) := by decide +kernel
theorem dX9_refuses_9 : decode cX9_refuses 9 = .ok (.iload_n 1, 1) := by decide +kernel
theorem dX9_refuses_10 : decode cX9_refuses 10 = .ok (.ineg, 1) := by decide +kernel
theorem dX9_refuses_11 : decode cX9_refuses 11 = .ok (.dup2, 1) := by decide +kernel
theorem dX9_refuses_12 : decode cX9_refuses 12 = .ok (.iaload, 1) := by decide +kernel
theorem dX9_refuses_13 : decode cX9_refuses 13 = .ok (.iconst 1, 1) := by decide +kernel
theorem dX9_refuses_14 : decode cX9_refuses 14 = .ok (.iadd, 1) := by decide +kernel
theorem dX9_refuses_15 : decode cX9_refuses 15 = .ok (.iastore, 1) := by decide +kernel
theorem dX9_refuses_16 : decode cX9_refuses 16 = .ok (.iload_n 1, 1) := by decide +kernel
theorem dX9_refuses_17 : decode cX9_refuses 17 = .ok (.ireturn, 1) := by decide +kernel
theorem dX9_good_0 : decode cX9_good 0 = .ok (.aload_n 0, 1) := by decide +kernel
theorem dX9_good_1 : decode cX9_good 1 = .ok (.iconst 0, 1) := by decide +kernel
theorem dX9_good_2 : decode cX9_good 2 = .ok (.putfield 3, 3) := by decide +kernel
theorem dX9_good_5 : decode cX9_good 5 = .ok (.aload_n 0, 1) := by decide +kernel
theorem dX9_good_6 : decode cX9_good 6 = .ok (.dup, 1) := by decide +kernel
theorem dX9_good_7 : decode cX9_good 7 = .ok (.getfield 11, 3) := by decide +kernel
theorem dX9_good_10 : decode cX9_good 10 = .ok (.iconst 1, 1) := by decide +kernel
theorem dX9_good_11 : decode cX9_good 11 = .ok (.iadd, 1) := by decide +kernel
theorem dX9_good_12 : decode cX9_good 12 = .ok (.putfield 11, 3) := by decide +kernel
theorem dX9_good_15 : decode cX9_good 15 = .ok (.iload_n 1, 1) := by decide +kernel
theorem dX9_good_16 : decode cX9_good 16 = .ok (.ireturn, 1) := by decide +kernel
theorem dX9_isIn_0 : decode cX9_isIn 0 = .ok (.iload_n 0, 1) := by decide +kernel
theorem dX9_isIn_1 : decode cX9_isIn 1 = .ok (.iload_n 1, 1) := by decide +kernel
theorem dX9_isIn_2 : decode cX9_isIn 2 = .ok (.ishr, 1) := by decide +kernel
theorem dX9_isIn_3 : decode cX9_isIn 3 = .ok (.iconst 1, 1) := by decide +kernel
theorem dX9_isIn_4 : decode cX9_isIn 4 = .ok (.iand, 1) := by decide +kernel
theorem dX9_isIn_5 : decode cX9_isIn 5 = .ok (.iconst 1, 1) := by decide +kernel
theorem dX9_isIn_6 : decode cX9_isIn 6 = .ok (.if_icmp .ne 7, 3) := by decide +kernel
theorem dX9_isIn_9 : decode cX9_isIn 9 = .ok (.iconst 1, 1) := by decide +kernel
theorem dX9_isIn_10 : decode cX9_isIn 10 = .ok (.goto 4, 3) := by decide +kernel
theorem dX9_isIn_13 : decode cX9_isIn 13 = .ok (.iconst 0, 1) := by decide +kernel
theorem dX9_isIn_14 : decode cX9_isIn 14 = .ok (.ireturn, 1) := by decide +kernel
theorem dX9_ones_0 : decode cX9_ones 0 = .ok (.iconst 0, 1) := by decide +kernel
theorem dX9_ones_1 : decode cX9_ones 1 = .ok (.istore_n 1, 1) := by decide +kernel
theorem dX9_ones_2 : decode cX9_ones 2 = .ok (.iconst 0, 1) := by decide +kernel
theorem dX9_ones_3 : decode cX9_ones 3 = .ok (.istore_n 2, 1) := by decide +kernel
theorem dX9_ones_4 : decode cX9_ones 4 = .ok (.iload_n 2, 1) := by decide +kernel
theorem dX9_ones_5 : decode cX9_ones 5 = .ok (.bipush 10, 2) := by decide +kernel
theorem dX9_ones_7 : decode cX9_ones 7 = .ok (.if_icmp .ge 17, 3) := by decide +kernel
theorem dX9_ones_10 : decode cX9_ones 10 = .ok (.iload_n 1, 1) := by decide +kernel
theorem dX9_ones_11 : decode cX9_ones 11 = .ok (.iload_n 0, 1) := by decide +kernel
theorem dX9_ones_12 : decode cX9_ones 12 = .ok (.iload_n 2, 1) := by decide +kernel
theorem dX9_ones_13 : decode cX9_ones 13 = .ok (.ishr, 1) := by decide +kernel
theorem dX9_ones_14 : decode cX9_ones 14 = .ok (.iconst 1, 1) := by decide +kernel
theorem dX9_ones_15 : decode cX9_ones 15 = .ok (.iand, 1) := by decide +kernel
theorem dX9_ones_16 : decode cX9_ones 16 = .ok (.iadd, 1) := by decide +kernel
theorem dX9_ones_17 : decode cX9_ones 17 = .ok (.istore_n 1, 1) := by decide +kernel
theorem dX9_ones_18 : decode cX9_ones 18 = .ok (.iinc 2 1, 3) := by decide +kernel
theorem dX9_ones_21 : decode cX9_ones 21 = .ok (.goto (-17), 3) := by decide +kernel
theorem dX9_ones_24 : decode cX9_ones 24 = .ok (.iload_n 1, 1) := by decide +kernel
theorem dX9_ones_25 : decode cX9_ones 25 = .ok (.ireturn, 1) := by decide +kernel
theorem dX9_lesser_0 : decode cX9_lesser 0 = .ok (.iload_n 0, 1) := by decide +kernel
theorem dX9_lesser_1 : decode cX9_lesser 1 = .ok (.iload_n 1, 1) := by decide +kernel
theorem dX9_lesser_2 : decode cX9_lesser 2 = .ok (.if_icmp .ge 7, 3) := by decide +kernel
theorem dX9_lesser_5 : decode cX9_lesser 5 = .ok (.iload_n 0, 1) := by decide +kernel
theorem dX9_lesser_6 : decode cX9_lesser 6 = .ok (.goto 4, 3) := by decide +kernel
theorem dX9_lesser_9 : decode cX9_lesser 9 = .ok (.iload_n 1, 1) := by decide +kernel
theorem dX9_lesser_10 : decode cX9_lesser 10 = .ok (.ireturn, 1) := by decide +kernel
theorem dX9_greater_0 : decode cX9_greater 0 = .ok (.iload_n 0, 1) := by decide +kernel
theorem dX9_greater_1 : decode cX9_greater 1 = .ok (.iload_n 1, 1) := by decide +kernel
theorem dX9_greater_2 : decode cX9_greater 2 = .ok (.if_icmp .le 7, 3) := by decide +kernel
theorem dX9_greater_5 : decode cX9_greater 5 = .ok (.iload_n 0, 1) := by decide +kernel
theorem dX9_greater_6 : decode cX9_greater 6 = .ok (.goto 4, 3) := by decide +kernel
theorem dX9_greater_9 : decode cX9_greater 9 = .ok (.iload_n 1, 1) := by decide +kernel
theorem dX9_greater_10 : decode cX9_greater 10 = .ok (.ireturn, 1) := by decide +kernel
theorem dX9_init_0 : decode cX9_init 0 = .ok (.aload_n 0, 1) := by decide +kernel
theorem dX9_init_1 : decode cX9_init 1 = .ok (.invokespecial 14, 3) := by decide +kernel
theorem dX9_init_4 : decode cX9_init 4 = .ok (.aload_n 0, 1) := by decide +kernel
theorem dX9_init_5 : decode cX9_init 5 = .ok (.bipush 7, 2) := by decide +kernel
theorem dX9_init_7 : decode cX9_init 7 = .ok (.newarray .int, 2) := by decide +kernel
theorem dX9_init_9 : decode cX9_init 9 = .ok (.putfield 7, 3) := by decide +kernel
theorem dX9_init_12 : decode cX9_init 12 = .ok (.aload_n 0, 1) := by decide +kernel
theorem dX9_init_13 : decode cX9_init 13 = .ok (.sipush 4945, 3) := by decide +kernel
theorem dX9_init_16 : decode cX9_init 16 = .ok (.newarray .int, 2) := by decide +kernel
theorem dX9_init_18 : decode cX9_init 18 = .ok (.putfield 20, 3) := by decide +kernel
theorem dX9_init_21 : decode cX9_init 21 = .ok (.aload_n 0, 1) := by decide +kernel
theorem dX9_init_22 : decode cX9_init 22 = .ok (.sipush 9890, 3) := by decide +kernel
theorem dX9_init_25 : decode cX9_init 25 = .ok (.newarray .int, 2) := by decide +kernel
theorem dX9_init_27 : decode cX9_init 27 = .ok (.putfield 23, 3) := by decide +kernel
theorem dX9_init_30 : decode cX9_init 30 = .ok (.aload_n 0, 1) := by decide +kernel
theorem dX9_init_31 : decode cX9_init 31 = .ok (.iconst 2, 1) := by decide +kernel
theorem dX9_init_32 : decode cX9_init 32 = .ok (.newarray .boolean, 2) := by decide +kernel
theorem dX9_init_34 : decode cX9_init 34 = .ok (.putfield 26, 3) := by decide +kernel
theorem dX9_init_37 : decode cX9_init 37 = .ok (.aload_n 0, 1) := by decide +kernel
theorem dX9_init_38 : decode cX9_init 38 = .ok (.bipush 70, 2) := by decide +kernel
theorem dX9_init_40 : decode cX9_init 40 = .ok (.newarray .byte, 2) := by decide +kernel
theorem dX9_init_42 : decode cX9_init 42 = .ok (.dup, 1) := by decide +kernel
theorem dX9_init_43 : decode cX9_init 43 = .ok (.iconst 0, 1) := by decide +kernel
theorem dX9_init_44 : decode cX9_init 44 = .ok (.bipush 119, 2) := by decide +kernel
theorem dX9_init_46 : decode cX9_init 46 = .ok (.bastore, 1) := by decide +kernel
theorem dX9_init_47 : decode cX9_init 47 = .ok (.dup, 1) := by decide +kernel
theorem dX9_init_48 : decode cX9_init 48 = .ok (.iconst 1, 1) := by decide +kernel
theorem dX9_init_49 : decode cX9_init 49 = .ok (.bipush 111, 2) := by decide +kernel
theorem dX9_init_51 : decode cX9_init 51 = .ok (.bastore, 1) := by decide +kernel
theorem dX9_init_52 : decode cX9_init 52 = .ok (.dup, 1) := by decide +kernel
theorem dX9_init_53 : decode cX9_init 53 = .ok (.iconst 2, 1) := by decide +kernel
theorem dX9_init_54 : decode cX9_init 54 = .ok (.bipush 114, 2) := by decide +kernel
theorem dX9_init_56 : decode cX9_init 56 = .ok (.bastore, 1) := by decide +kernel
theorem dX9_init_57 : decode cX9_init 57 = .ok (.dup, 1) := by decide +kernel
theorem dX9_init_58 : decode cX9_init 58 = .ok (.iconst 3, 1) := by decide +kernel
theorem dX9_init_59 : decode cX9_init 59 = .ok (.bipush 116, 2) := by decide +kernel
theorem dX9_init_61 : decode cX9_init 61 = .ok (.bastore, 1) := by decide +kernel
theorem dX9_init_62 : decode cX9_init 62 = .ok (.dup, 1) := by decide +kernel
theorem dX9_init_63 : decode cX9_init 63 = .ok (.iconst 4, 1) := by decide +kernel
theorem dX9_init_64 : decode cX9_init 64 = .ok (.bipush 104, 2) := by decide +kernel
theorem dX9_init_66 : decode cX9_init 66 = .ok (.bastore, 1) := by decide +kernel
theorem dX9_init_67 : decode cX9_init 67 = .ok (.dup, 1) := by decide +kernel
theorem dX9_init_68 : decode cX9_init 68 = .ok (.iconst 5, 1) := by decide +kernel
theorem dX9_init_69 : decode cX9_init 69 = .ok (.bipush 32, 2) := by decide +kernel
theorem dX9_init_71 : decode cX9_init 71 = .ok (.bastore, 1) := by decide +kernel
theorem dX9_init_72 : decode cX9_init 72 = .ok (.dup, 1) := by decide +kernel
theorem dX9_init_73 : decode cX9_init 73 = .ok (.bipush 6, 2) := by decide +kernel
theorem dX9_init_75 : decode cX9_init 75 = .ok (.bipush 103, 2) := by decide +kernel
theorem dX9_init_77 : decode cX9_init 77 = .ok (.bastore, 1) := by decide +kernel
theorem dX9_init_78 : decode cX9_init 78 = .ok (.dup, 1) := by decide +kernel
theorem dX9_init_79 : decode cX9_init 79 = .ok (.bipush 7, 2) := by decide +kernel
theorem dX9_init_81 : decode cX9_init 81 = .ok (.bipush 97, 2) := by decide +kernel
theorem dX9_init_83 : decode cX9_init 83 = .ok (.bastore, 1) := by decide +kernel
theorem dX9_init_84 : decode cX9_init 84 = .ok (.dup, 1) := by decide +kernel
theorem dX9_init_85 : decode cX9_init 85 = .ok (.bipush 8, 2) := by decide +kernel
theorem dX9_init_87 : decode cX9_init 87 = .ok (.bipush 112, 2) := by decide +kernel
theorem dX9_init_89 : decode cX9_init 89 = .ok (.bastore, 1) := by decide +kernel
theorem dX9_init_90 : decode cX9_init 90 = .ok (.dup, 1) := by decide +kernel
theorem dX9_init_91 : decode cX9_init 91 = .ok (.bipush 9, 2) := by decide +kernel
theorem dX9_init_93 : decode cX9_init 93 = .ok (.bipush 32, 2) := by decide +kernel
theorem dX9_init_95 : decode cX9_init 95 = .ok (.bastore, 1) := by decide +kernel
theorem dX9_init_96 : decode cX9_init 96 = .ok (.dup, 1) := by decide +kernel
theorem dX9_init_97 : decode cX9_init 97 = .ok (.bipush 10, 2) := by decide +kernel
theorem dX9_init_99 : decode cX9_init 99 = .ok (.bipush 98, 2) := by decide +kernel
theorem dX9_init_101 : decode cX9_init 101 = .ok (.bastore, 1) := by decide +kernel
theorem dX9_init_102 : decode cX9_init 102 = .ok (.dup, 1) := by decide +kernel
theorem dX9_init_103 : decode cX9_init 103 = .ok (.bipush 11, 2) := by decide +kernel
theorem dX9_init_105 : decode cX9_init 105 = .ok (.bipush 97, 2) := by decide +kernel
theorem dX9_init_107 : decode cX9_init 107 = .ok (.bastore, 1) := by decide +kernel
theorem dX9_init_108 : decode cX9_init 108 = .ok (.dup, 1) := by decide +kernel
theorem dX9_init_109 : decode cX9_init 109 = .ok (.bipush 12, 2) := by decide +kernel
theorem dX9_init_111 : decode cX9_init 111 = .ok (.bipush 114, 2) := by decide +kernel
theorem dX9_init_113 : decode cX9_init 113 = .ok (.bastore, 1) := by decide +kernel
theorem dX9_init_114 : decode cX9_init 114 = .ok (.dup, 1) := by decide +kernel
theorem dX9_init_115 : decode cX9_init 115 = .ok (.bipush 13, 2) := by decide +kernel
theorem dX9_init_117 : decode cX9_init 117 = .ok (.bipush 115, 2) := by decide +kernel
theorem dX9_init_119 : decode cX9_init 119 = .ok (.bastore, 1) := by decide +kernel
theorem dX9_init_120 : decode cX9_init 120 = .ok (.dup, 1) := by decide +kernel
theorem dX9_init_121 : decode cX9_init 121 = .ok (.bipush 14, 2) := by decide +kernel
theorem dX9_init_123 : decode cX9_init 123 = .ok (.bipush 32, 2) := by decide +kernel
theorem dX9_init_125 : decode cX9_init 125 = .ok (.bastore, 1) := by decide +kernel
theorem dX9_init_126 : decode cX9_init 126 = .ok (.dup, 1) := by decide +kernel
theorem dX9_init_127 : decode cX9_init 127 = .ok (.bipush 15, 2) := by decide +kernel
theorem dX9_init_129 : decode cX9_init 129 = .ok (.bipush 105, 2) := by decide +kernel
theorem dX9_init_131 : decode cX9_init 131 = .ok (.bastore, 1) := by decide +kernel
theorem dX9_init_132 : decode cX9_init 132 = .ok (.dup, 1) := by decide +kernel
theorem dX9_init_133 : decode cX9_init 133 = .ok (.bipush 16, 2) := by decide +kernel
theorem dX9_init_135 : decode cX9_init 135 = .ok (.bipush 102, 2) := by decide +kernel
theorem dX9_init_137 : decode cX9_init 137 = .ok (.bastore, 1) := by decide +kernel
theorem dX9_init_138 : decode cX9_init 138 = .ok (.dup, 1) := by decide +kernel
theorem dX9_init_139 : decode cX9_init 139 = .ok (.bipush 17, 2) := by decide +kernel
theorem dX9_init_141 : decode cX9_init 141 = .ok (.bipush 32, 2) := by decide +kernel
theorem dX9_init_143 : decode cX9_init 143 = .ok (.bastore, 1) := by decide +kernel
theorem dX9_init_144 : decode cX9_init 144 = .ok (.dup, 1) := by decide +kernel
theorem dX9_init_145 : decode cX9_init 145 = .ok (.bipush 18, 2) := by decide +kernel
theorem dX9_init_147 : decode cX9_init 147 = .ok (.bipush 111, 2) := by decide +kernel
theorem dX9_init_149 : decode cX9_init 149 = .ok (.bastore, 1) := by decide +kernel
theorem dX9_init_150 : decode cX9_init 150 = .ok (.dup, 1) := by decide +kernel
theorem dX9_init_151 : decode cX9_init 151 = .ok (.bipush 19, 2) := by decide +kernel
theorem dX9_init_153 : decode cX9_init 153 = .ok (.bipush 114, 2) := by decide +kernel
theorem dX9_init_155 : decode cX9_init 155 = .ok (.bastore, 1) := by decide +kernel
theorem dX9_init_156 : decode cX9_init 156 = .ok (.dup, 1) := by decide +kernel
theorem dX9_init_157 : decode cX9_init 157 = .ok (.bipush 20, 2) := by decide +kernel
theorem dX9_init_159 : decode cX9_init 159 = .ok (.bipush 32, 2) := by decide +kernel
theorem dX9_init_161 : decode cX9_init 161 = .ok (.bastore, 1) := by decide +kernel
theorem dX9_init_162 : decode cX9_init 162 = .ok (.dup, 1) := by decide +kernel
theorem dX9_init_163 : decode cX9_init 163 = .ok (.bipush 21, 2) := by decide +kernel
theorem dX9_init_165 : decode cX9_init 165 = .ok (.bipush 97, 2) := by decide +kernel
theorem dX9_init_167 : decode cX9_init 167 = .ok (.bastore, 1) := by decide +kernel
theorem dX9_init_168 : decode cX9_init 168 = .ok (.dup, 1) := by decide +kernel
theorem dX9_init_169 : decode cX9_init 169 = .ok (.bipush 22, 2) := by decide +kernel
theorem dX9_init_171 : decode cX9_init 171 = .ok (.bipush 110, 2) := by decide +kernel
theorem dX9_init_173 : decode cX9_init 173 = .ok (.bastore, 1) := by decide +kernel
theorem dX9_init_174 : decode cX9_init 174 = .ok (.dup, 1) := by decide +kernel
theorem dX9_init_175 : decode cX9_init 175 = .ok (.bipush 23, 2) := by decide +kernel
theorem dX9_init_177 : decode cX9_init 177 = .ok (.bipush 100, 2) := by decide +kernel
theorem dX9_init_179 : decode cX9_init 179 = .ok (.bastore, 1) := by decide +kernel
theorem dX9_init_180 : decode cX9_init 180 = .ok (.dup, 1) := by decide +kernel
theorem dX9_init_181 : decode cX9_init 181 = .ok (.bipush 24, 2) := by decide +kernel
theorem dX9_init_183 : decode cX9_init 183 = .ok (.bipush 32, 2) := by decide +kernel
theorem dX9_init_185 : decode cX9_init 185 = .ok (.bastore, 1) := by decide +kernel
theorem dX9_init_186 : decode cX9_init 186 = .ok (.dup, 1) := by decide +kernel
theorem dX9_init_187 : decode cX9_init 187 = .ok (.bipush 25, 2) := by decide +kernel
theorem dX9_init_189 : decode cX9_init 189 = .ok (.bipush 110, 2) := by decide +kernel
theorem dX9_init_191 : decode cX9_init 191 = .ok (.bastore, 1) := by decide +kernel
theorem dX9_init_192 : decode cX9_init 192 = .ok (.dup, 1) := by decide +kernel
theorem dX9_init_193 : decode cX9_init 193 = .ok (.bipush 26, 2) := by decide +kernel
theorem dX9_init_195 : decode cX9_init 195 = .ok (.bipush 111, 2) := by decide +kernel
theorem dX9_init_197 : decode cX9_init 197 = .ok (.bastore, 1) := by decide +kernel
theorem dX9_init_198 : decode cX9_init 198 = .ok (.dup, 1) := by decide +kernel
theorem dX9_init_199 : decode cX9_init 199 = .ok (.bipush 27, 2) := by decide +kernel
theorem dX9_init_201 : decode cX9_init 201 = .ok (.bipush 116, 2) := by decide +kernel
theorem dX9_init_203 : decode cX9_init 203 = .ok (.bastore, 1) := by decide +kernel
theorem dX9_init_204 : decode cX9_init 204 = .ok (.dup, 1) := by decide +kernel
theorem dX9_init_205 : decode cX9_init 205 = .ok (.bipush 28, 2) := by decide +kernel
theorem dX9_init_207 : decode cX9_init 207 = .ok (.bipush 32, 2) := by decide +kernel
theorem dX9_init_209 : decode cX9_init 209 = .ok (.bastore, 1) := by decide +kernel
theorem dX9_init_210 : decode cX9_init 210 = .ok (.dup, 1) := by decide +kernel
theorem dX9_init_211 : decode cX9_init 211 = .ok (.bipush 29, 2) := by decide +kernel
theorem dX9_init_213 : decode cX9_init 213 = .ok (.bipush 116, 2) := by decide +kernel
theorem dX9_init_215 : decode cX9_init 215 = .ok (.bastore, 1) := by decide +kernel
theorem dX9_init_216 : decode cX9_init 216 = .ok (.dup, 1) := by decide +kernel
theorem dX9_init_217 : decode cX9_init 217 = .ok (.bipush 30, 2) := by decide +kernel
theorem dX9_init_219 : decode cX9_init 219 = .ok (.bipush 97, 2) := by decide +kernel
theorem dX9_init_221 : decode cX9_init 221 = .ok (.bastore, 1) := by decide +kernel
theorem dX9_init_222 : decode cX9_init 222 = .ok (.dup, 1) := by decide +kernel
theorem dX9_init_223 : decode cX9_init 223 = .ok (.bipush 31, 2) := by decide +kernel
theorem dX9_init_225 : decode cX9_init 225 = .ok (.bipush 108, 2) := by decide +kernel
theorem dX9_init_227 : decode cX9_init 227 = .ok (.bastore, 1) := by decide +kernel
theorem dX9_init_228 : decode cX9_init 228 = .ok (.dup, 1) := by decide +kernel
theorem dX9_init_229 : decode cX9_init 229 = .ok (.bipush 32, 2) := by decide +kernel
theorem dX9_init_231 : decode cX9_init 231 = .ok (.bipush 101, 2) := by decide +kernel
theorem dX9_init_233 : decode cX9_init 233 = .ok (.bastore, 1) := by decide +kernel
theorem dX9_init_234 : decode cX9_init 234 = .ok (.dup, 1) := by decide +kernel
theorem dX9_init_235 : decode cX9_init 235 = .ok (.bipush 33, 2) := by decide +kernel
theorem dX9_init_237 : decode cX9_init 237 = .ok (.bipush 32, 2) := by decide +kernel
theorem dX9_init_239 : decode cX9_init 239 = .ok (.bastore, 1) := by decide +kernel
theorem dX9_init_240 : decode cX9_init 240 = .ok (.dup, 1) := by decide +kernel
theorem dX9_init_241 : decode cX9_init 241 = .ok (.bipush 34, 2) := by decide +kernel
theorem dX9_init_243 : decode cX9_init 243 = .ok (.bipush 102, 2) := by decide +kernel
theorem dX9_init_245 : decode cX9_init 245 = .ok (.bastore, 1) := by decide +kernel
theorem dX9_init_246 : decode cX9_init 246 = .ok (.dup, 1) := by decide +kernel
theorem dX9_init_247 : decode cX9_init 247 = .ok (.bipush 35, 2) := by decide +kernel
theorem dX9_init_249 : decode cX9_init 249 = .ok (.bipush 114, 2) := by decide +kernel
theorem dX9_init_251 : decode cX9_init 251 = .ok (.bastore, 1) := by decide +kernel
theorem dX9_init_252 : decode cX9_init 252 = .ok (.dup, 1) := by decide +kernel
theorem dX9_init_253 : decode cX9_init 253 = .ok (.bipush 36, 2) := by decide +kernel
theorem dX9_init_255 : decode cX9_init 255 = .ok (.bipush 111, 2) := by decide +kernel
theorem dX9_init_257 : decode cX9_init 257 = .ok (.bastore, 1) := by decide +kernel
theorem dX9_init_258 : decode cX9_init 258 = .ok (.dup, 1) := by decide +kernel
theorem dX9_init_259 : decode cX9_init 259 = .ok (.bipush 37, 2) := by decide +kernel
theorem dX9_init_261 : decode cX9_init 261 = .ok (.bipush 109, 2) := by decide +kernel
theorem dX9_init_263 : decode cX9_init 263 = .ok (.bastore, 1) := by decide +kernel
theorem dX9_init_264 : decode cX9_init 264 = .ok (.dup, 1) := by decide +kernel
theorem dX9_init_265 : decode cX9_init 265 = .ok (.bipush 38, 2) := by decide +kernel
theorem dX9_init_267 : decode cX9_init 267 = .ok (.bipush 32, 2) := by decide +kernel
theorem dX9_init_269 : decode cX9_init 269 = .ok (.bastore, 1) := by decide +kernel
theorem dX9_init_270 : decode cX9_init 270 = .ok (.dup, 1) := by decide +kernel
theorem dX9_init_271 : decode cX9_init 271 = .ok (.bipush 39, 2) := by decide +kernel
theorem dX9_init_273 : decode cX9_init 273 = .ok (.bipush 116, 2) := by decide +kernel
theorem dX9_init_275 : decode cX9_init 275 = .ok (.bastore, 1) := by decide +kernel
theorem dX9_init_276 : decode cX9_init 276 = .ok (.dup, 1) := by decide +kernel
theorem dX9_init_277 : decode cX9_init 277 = .ok (.bipush 40, 2) := by decide +kernel
theorem dX9_init_279 : decode cX9_init 279 = .ok (.bipush 111, 2) := by decide +kernel
theorem dX9_init_281 : decode cX9_init 281 = .ok (.bastore, 1) := by decide +kernel
theorem dX9_init_282 : decode cX9_init 282 = .ok (.dup, 1) := by decide +kernel
theorem dX9_init_283 : decode cX9_init 283 = .ok (.bipush 41, 2) := by decide +kernel
theorem dX9_init_285 : decode cX9_init 285 = .ok (.bipush 32, 2) := by decide +kernel
theorem dX9_init_287 : decode cX9_init 287 = .ok (.bastore, 1) := by decide +kernel
theorem dX9_init_288 : decode cX9_init 288 = .ok (.dup, 1) := by decide +kernel
theorem dX9_init_289 : decode cX9_init 289 = .ok (.bipush 42, 2) := by decide +kernel
theorem dX9_init_291 : decode cX9_init 291 = .ok (.bipush 115, 2) := by decide +kernel
theorem dX9_init_293 : decode cX9_init 293 = .ok (.bastore, 1) := by decide +kernel
theorem dX9_init_294 : decode cX9_init 294 = .ok (.dup, 1) := by decide +kernel
theorem dX9_init_295 : decode cX9_init 295 = .ok (.bipush 43, 2) := by decide +kernel
theorem dX9_init_297 : decode cX9_init 297 = .ok (.bipush 112, 2) := by decide +kernel
theorem dX9_init_299 : decode cX9_init 299 = .ok (.bastore, 1) := by decide +kernel
theorem dX9_init_300 : decode cX9_init 300 = .ok (.dup, 1) := by decide +kernel
theorem dX9_init_301 : decode cX9_init 301 = .ok (.bipush 44, 2) := by decide +kernel
theorem dX9_init_303 : decode cX9_init 303 = .ok (.bipush 97, 2) := by decide +kernel
theorem dX9_init_305 : decode cX9_init 305 = .ok (.bastore, 1) := by decide +kernel
theorem dX9_init_306 : decode cX9_init 306 = .ok (.dup, 1) := by decide +kernel
theorem dX9_init_307 : decode cX9_init 307 = .ok (.bipush 45, 2) := by decide +kernel
theorem dX9_init_309 : decode cX9_init 309 = .ok (.bipush 110, 2) := by decide +kernel
theorem dX9_init_311 : decode cX9_init 311 = .ok (.bastore, 1) := by decide +kernel
theorem dX9_init_312 : decode cX9_init 312 = .ok (.dup, 1) := by decide +kernel
theorem dX9_init_313 : decode cX9_init 313 = .ok (.bipush 46, 2) := by decide +kernel
theorem dX9_init_315 : decode cX9_init 315 = .ok (.bipush 32, 2) := by decide +kernel
theorem dX9_init_317 : decode cX9_init 317 = .ok (.bastore, 1) := by decide +kernel
theorem dX9_init_318 : decode cX9_init 318 = .ok (.dup, 1) := by decide +kernel
theorem dX9_init_319 : decode cX9_init 319 = .ok (.bipush 47, 2) := by decide +kernel
theorem dX9_init_321 : decode cX9_init 321 = .ok (.bipush 98, 2) := by decide +kernel
theorem dX9_init_323 : decode cX9_init 323 = .ok (.bastore, 1) := by decide +kernel
theorem dX9_init_324 : decode cX9_init 324 = .ok (.dup, 1) := by decide +kernel
theorem dX9_init_325 : decode cX9_init 325 = .ok (.bipush 48, 2) := by decide +kernel
theorem dX9_init_327 : decode cX9_init 327 = .ok (.bipush 97, 2) := by decide +kernel
theorem dX9_init_329 : decode cX9_init 329 = .ok (.bastore, 1) := by decide +kernel
theorem dX9_init_330 : decode cX9_init 330 = .ok (.dup, 1) := by decide +kernel
theorem dX9_init_331 : decode cX9_init 331 = .ok (.bipush 49, 2) := by decide +kernel
theorem dX9_init_333 : decode cX9_init 333 = .ok (.bipush 115, 2) := by decide +kernel
theorem dX9_init_335 : decode cX9_init 335 = .ok (.bastore, 1) := by decide +kernel
theorem dX9_init_336 : decode cX9_init 336 = .ok (.dup, 1) := by decide +kernel
theorem dX9_init_337 : decode cX9_init 337 = .ok (.bipush 50, 2) := by decide +kernel
theorem dX9_init_339 : decode cX9_init 339 = .ok (.bipush 101, 2) := by decide +kernel
theorem dX9_init_341 : decode cX9_init 341 = .ok (.bastore, 1) := by decide +kernel
theorem dX9_init_342 : decode cX9_init 342 = .ok (.dup, 1) := by decide +kernel
theorem dX9_init_343 : decode cX9_init 343 = .ok (.bipush 51, 2) := by decide +kernel
theorem dX9_init_345 : decode cX9_init 345 = .ok (.bipush 32, 2) := by decide +kernel
theorem dX9_init_347 : decode cX9_init 347 = .ok (.bastore, 1) := by decide +kernel
theorem dX9_init_348 : decode cX9_init 348 = .ok (.dup, 1) := by decide +kernel
theorem dX9_init_349 : decode cX9_init 349 = .ok (.bipush 52, 2) := by decide +kernel
theorem dX9_init_351 : decode cX9_init 351 = .ok (.bipush 107, 2) := by decide +kernel
theorem dX9_init_353 : decode cX9_init 353 = .ok (.bastore, 1) := by decide +kernel
theorem dX9_init_354 : decode cX9_init 354 = .ok (.dup, 1) := by decide +kernel
theorem dX9_init_355 : decode cX9_init 355 = .ok (.bipush 53, 2) := by decide +kernel
theorem dX9_init_357 : decode cX9_init 357 = .ok (.bipush 110, 2) := by decide +kernel
theorem dX9_init_359 : decode cX9_init 359 = .ok (.bastore, 1) := by decide +kernel
theorem dX9_init_360 : decode cX9_init 360 = .ok (.dup, 1) := by decide +kernel
theorem dX9_init_361 : decode cX9_init 361 = .ok (.bipush 54, 2) := by decide +kernel
theorem dX9_init_363 : decode cX9_init 363 = .ok (.bipush 111, 2) := by decide +kernel
theorem dX9_init_365 : decode cX9_init 365 = .ok (.bastore, 1) := by decide +kernel
theorem dX9_init_366 : decode cX9_init 366 = .ok (.dup, 1) := by decide +kernel
theorem dX9_init_367 : decode cX9_init 367 = .ok (.bipush 55, 2) := by decide +kernel
theorem dX9_init_369 : decode cX9_init 369 = .ok (.bipush 119, 2) := by decide +kernel
theorem dX9_init_371 : decode cX9_init 371 = .ok (.bastore, 1) := by decide +kernel
theorem dX9_init_372 : decode cX9_init 372 = .ok (.dup, 1) := by decide +kernel
theorem dX9_init_373 : decode cX9_init 373 = .ok (.bipush 56, 2) := by decide +kernel
theorem dX9_init_375 : decode cX9_init 375 = .ok (.bipush 110, 2) := by decide +kernel
theorem dX9_init_377 : decode cX9_init 377 = .ok (.bastore, 1) := by decide +kernel
theorem dX9_init_378 : decode cX9_init 378 = .ok (.dup, 1) := by decide +kernel
theorem dX9_init_379 : decode cX9_init 379 = .ok (.bipush 57, 2) := by decide +kernel
theorem dX9_init_381 : decode cX9_init 381 = .ok (.bipush 32, 2) := by decide +kernel
theorem dX9_init_383 : decode cX9_init 383 = .ok (.bastore, 1) := by decide +kernel
theorem dX9_init_384 : decode cX9_init 384 = .ok (.dup, 1) := by decide +kernel
theorem dX9_init_385 : decode cX9_init 385 = .ok (.bipush 58, 2) := by decide +kernel
theorem dX9_init_387 : decode cX9_init 387 = .ok (.bipush 109, 2) := by decide +kernel
theorem dX9_init_389 : decode cX9_init 389 = .ok (.bastore, 1) := by decide +kernel
theorem dX9_init_390 : decode cX9_init 390 = .ok (.dup, 1) := by decide +kernel
theorem dX9_init_391 : decode cX9_init 391 = .ok (.bipush 59, 2) := by decide +kernel
theorem dX9_init_393 : decode cX9_init 393 = .ok (.bipush 111, 2) := by decide +kernel
theorem dX9_init_395 : decode cX9_init 395 = .ok (.bastore, 1) := by decide +kernel
theorem dX9_init_396 : decode cX9_init 396 = .ok (.dup, 1) := by decide +kernel
theorem dX9_init_397 : decode cX9_init 397 = .ok (.bipush 60, 2) := by decide +kernel
theorem dX9_init_399 : decode cX9_init 399 = .ok (.bipush 111, 2) := by decide +kernel
theorem dX9_init_401 : decode cX9_init 401 = .ok (.bastore, 1) := by decide +kernel
theorem dX9_init_402 : decode cX9_init 402 = .ok (.dup, 1) := by decide +kernel
theorem dX9_init_403 : decode cX9_init 403 = .ok (.bipush 61, 2) := by decide +kernel
theorem dX9_init_405 : decode cX9_init 405 = .ok (.bipush 100, 2) := by decide +kernel
theorem dX9_init_407 : decode cX9_init 407 = .ok (.bastore, 1) := by decide +kernel
theorem dX9_init_408 : decode cX9_init 408 = .ok (.dup, 1) := by decide +kernel
theorem dX9_init_409 : decode cX9_init 409 = .ok (.bipush 62, 2) := by decide +kernel
theorem dX9_init_411 : decode cX9_init 411 = .ok (.bipush 32, 2) := by decide +kernel
theorem dX9_init_413 : decode cX9_init 413 = .ok (.bastore, 1) := by decide +kernel
theorem dX9_init_414 : decode cX9_init 414 = .ok (.dup, 1) := by decide +kernel
theorem dX9_init_415 : decode cX9_init 415 = .ok (.bipush 63, 2) := by decide +kernel
theorem dX9_init_417 : decode cX9_init 417 = .ok (.bipush 116, 2) := by decide +kernel
theorem dX9_init_419 : decode cX9_init 419 = .ok (.bastore, 1) := by decide +kernel
theorem dX9_init_420 : decode cX9_init 420 = .ok (.dup, 1) := by decide +kernel
theorem dX9_init_421 : decode cX9_init 421 = .ok (.bipush 64, 2) := by decide +kernel
theorem dX9_init_423 : decode cX9_init 423 = .ok (.bipush 101, 2) := by decide +kernel
theorem dX9_init_425 : decode cX9_init 425 = .ok (.bastore, 1) := by decide +kernel
theorem dX9_init_426 : decode cX9_init 426 = .ok (.dup, 1) := by decide +kernel
theorem dX9_init_427 : decode cX9_init 427 = .ok (.bipush 65, 2) := by decide +kernel
theorem dX9_init_429 : decode cX9_init 429 = .ok (.bipush 108, 2) := by decide +kernel
theorem dX9_init_431 : decode cX9_init 431 = .ok (.bastore, 1) := by decide +kernel
theorem dX9_init_432 : decode cX9_init 432 = .ok (.dup, 1) := by decide +kernel
theorem dX9_init_433 : decode cX9_init 433 = .ok (.bipush 66, 2) := by decide +kernel
theorem dX9_init_435 : decode cX9_init 435 = .ok (.bipush 108, 2) := by decide +kernel
theorem dX9_init_437 : decode cX9_init 437 = .ok (.bastore, 1) := by decide +kernel
theorem dX9_init_438 : decode cX9_init 438 = .ok (.dup, 1) := by decide +kernel
theorem dX9_init_439 : decode cX9_init 439 = .ok (.bipush 67, 2) := by decide +kernel
theorem dX9_init_441 : decode cX9_init 441 = .ok (.bipush 101, 2) := by decide +kernel
theorem dX9_init_443 : decode cX9_init 443 = .ok (.bastore, 1) := by decide +kernel
theorem dX9_init_444 : decode cX9_init 444 = .ok (.dup, 1) := by decide +kernel
theorem dX9_init_445 : decode cX9_init 445 = .ok (.bipush 68, 2) := by decide +kernel
theorem dX9_init_447 : decode cX9_init 447 = .ok (.bipush 114, 2) := by decide +kernel
theorem dX9_init_449 : decode cX9_init 449 = .ok (.bastore, 1) := by decide +kernel
theorem dX9_init_450 : decode cX9_init 450 = .ok (.dup, 1) := by decide +kernel
theorem dX9_init_451 : decode cX9_init 451 = .ok (.bipush 69, 2) := by decide +kernel
theorem dX9_init_453 : decode cX9_init 453 = .ok (.bipush 32, 2) := by decide +kernel
theorem dX9_init_455 : decode cX9_init 455 = .ok (.bastore, 1) := by decide +kernel
theorem dX9_init_456 : decode cX9_init 456 = .ok (.putfield 30, 3) := by decide +kernel
theorem dX9_init_459 : decode cX9_init 459 = .ok (.aload_n 0, 1) := by decide +kernel
theorem dX9_init_460 : decode cX9_init 460 = .ok (.sipush 400, 3) := by decide +kernel
theorem dX9_init_463 : decode cX9_init 463 = .ok (.newarray .byte, 2) := by decide +kernel
theorem dX9_init_465 : decode cX9_init 465 = .ok (.putfield 34, 3) := by decide +kernel
theorem dX9_init_468 : decode cX9_init 468 = .ok (.aload_n 0, 1) := by decide +kernel
theorem dX9_init_469 : decode cX9_init 469 = .ok (.iconst 5, 1) := by decide +kernel
theorem dX9_init_470 : decode cX9_init 470 = .ok (.newarray .int, 2) := by decide +kernel
theorem dX9_init_472 : decode cX9_init 472 = .ok (.putfield 37, 3) := by decide +kernel
theorem dX9_init_475 : decode cX9_init 475 = .ok (.aload_n 0, 1) := by decide +kernel
theorem dX9_init_476 : decode cX9_init 476 = .ok (.iconst (-1), 1) := by decide +kernel
theorem dX9_init_477 : decode cX9_init 477 = .ok (.putfield 40, 3) := by decide +kernel
theorem dX9_init_480 : decode cX9_init 480 = .ok (.aload_n 0, 1) := by decide +kernel
theorem dX9_init_481 : decode cX9_init 481 = .ok (.sipush 401, 3) := by decide +kernel
theorem dX9_init_484 : decode cX9_init 484 = .ok (.newarray .int, 2) := by decide +kernel
theorem dX9_init_486 : decode cX9_init 486 = .ok (.putfield 43, 3) := by decide +kernel
theorem dX9_init_489 : decode cX9_init 489 = .ok (.aload_n 0, 1) := by decide +kernel
theorem dX9_init_490 : decode cX9_init 490 = .ok (.sipush 401, 3) := by decide +kernel
theorem dX9_init_493 : decode cX9_init 493 = .ok (.newarray .int, 2) := by decide +kernel
theorem dX9_init_495 : decode cX9_init 495 = .ok (.putfield 46, 3) := by decide +kernel
theorem dX9_init_498 : decode cX9_init 498 = .ok (.aload_n 0, 1) := by decide +kernel
theorem dX9_init_499 : decode cX9_init 499 = .ok (.sipush 401, 3) := by decide +kernel
theorem dX9_init_502 : decode cX9_init 502 = .ok (.newarray .int, 2) := by decide +kernel
theorem dX9_init_504 : decode cX9_init 504 = .ok (.putfield 49, 3) := by decide +kernel
theorem dX9_init_507 : decode cX9_init 507 = .ok (.aload_n 0, 1) := by decide +kernel
theorem dX9_init_508 : decode cX9_init 508 = .ok (.bipush 8, 2) := by decide +kernel
theorem dX9_init_510 : decode cX9_init 510 = .ok (.newarray .int, 2) := by decide +kernel
theorem dX9_init_512 : decode cX9_init 512 = .ok (.putfield 52, 3) := by decide +kernel
theorem dX9_init_515 : decode cX9_init 515 = .ok (.aload_n 0, 1) := by decide +kernel
theorem dX9_init_516 : decode cX9_init 516 = .ok (.bipush 10, 2) := by decide +kernel
theorem dX9_init_518 : decode cX9_init 518 = .ok (.newarray .int, 2) := by decide +kernel
theorem dX9_init_520 : decode cX9_init 520 = .ok (.putfield 55, 3) := by decide +kernel
theorem dX9_init_523 : decode cX9_init 523 = .ok (.aload_n 0, 1) := by decide +kernel
theorem dX9_init_524 : decode cX9_init 524 = .ok (.bipush 10, 2) := by decide +kernel
theorem dX9_init_526 : decode cX9_init 526 = .ok (.newarray .int, 2) := by decide +kernel
theorem dX9_init_528 : decode cX9_init 528 = .ok (.putfield 58, 3) := by decide +kernel
theorem dX9_init_531 : decode cX9_init 531 = .ok (.aload_n 0, 1) := by decide +kernel
theorem dX9_init_532 : decode cX9_init 532 = .ok (.bipush 10, 2) := by decide +kernel
theorem dX9_init_534 : decode cX9_init 534 = .ok (.newarray .int, 2) := by decide +kernel
theorem dX9_init_536 : decode cX9_init 536 = .ok (.putfield 61, 3) := by decide +kernel
theorem dX9_init_539 : decode cX9_init 539 = .ok (.aload_n 0, 1) := by decide +kernel
theorem dX9_init_540 : decode cX9_init 540 = .ok (.iconst (-1), 1) := by decide +kernel
theorem dX9_init_541 : decode cX9_init 541 = .ok (.putfield 64, 3) := by decide +kernel
theorem dX9_init_544 : decode cX9_init 544 = .ok (.aload_n 0, 1) := by decide +kernel
theorem dX9_init_545 : decode cX9_init 545 = .ok (.sipush 5120, 3) := by decide +kernel
theorem dX9_init_548 : decode cX9_init 548 = .ok (.newarray .int, 2) := by decide +kernel
theorem dX9_init_550 : decode cX9_init 550 = .ok (.putfield 67, 3) := by decide +kernel
theorem dX9_init_553 : decode cX9_init 553 = .ok (.aload_n 0, 1) := by decide +kernel
theorem dX9_init_554 : decode cX9_init 554 = .ok (.bipush 10, 2) := by decide +kernel
theorem dX9_init_556 : decode cX9_init 556 = .ok (.newarray .int, 2) := by decide +kernel
theorem dX9_init_558 : decode cX9_init 558 = .ok (.putfield 70, 3) := by decide +kernel
theorem dX9_init_561 : decode cX9_init 561 = .ok (.aload_n 0, 1) := by decide +kernel
theorem dX9_init_562 : decode cX9_init 562 = .ok (.bipush 10, 2) := by decide +kernel
theorem dX9_init_564 : decode cX9_init 564 = .ok (.newarray .int, 2) := by decide +kernel
theorem dX9_init_566 : decode cX9_init 566 = .ok (.putfield 73, 3) := by decide +kernel
theorem dX9_init_569 : decode cX9_init 569 = .ok (.aload_n 0, 1) := by decide +kernel
theorem dX9_init_570 : decode cX9_init 570 = .ok (.bipush 10, 2) := by decide +kernel
theorem dX9_init_572 : decode cX9_init 572 = .ok (.newarray .int, 2) := by decide +kernel
theorem dX9_init_574 : decode cX9_init 574 = .ok (.putfield 76, 3) := by decide +kernel
theorem dX9_init_577 : decode cX9_init 577 = .ok (.aload_n 0, 1) := by decide +kernel
theorem dX9_init_578 : decode cX9_init 578 = .ok (.bipush 11, 2) := by decide +kernel
theorem dX9_init_580 : decode cX9_init 580 = .ok (.newarray .int, 2) := by decide +kernel
theorem dX9_init_582 : decode cX9_init 582 = .ok (.putfield 79, 3) := by decide +kernel
theorem dX9_init_585 : decode cX9_init 585 = .ok (.aload_n 0, 1) := by decide +kernel
theorem dX9_init_586 : decode cX9_init 586 = .ok (.sipush 5120, 3) := by decide +kernel
theorem dX9_init_589 : decode cX9_init 589 = .ok (.newarray .int, 2) := by decide +kernel
theorem dX9_init_591 : decode cX9_init 591 = .ok (.putfield 82, 3) := by decide +kernel
theorem dX9_init_594 : decode cX9_init 594 = .ok (.aload_n 0, 1) := by decide +kernel
theorem dX9_init_595 : decode cX9_init 595 = .ok (.bipush 10, 2) := by decide +kernel
theorem dX9_init_597 : decode cX9_init 597 = .ok (.newarray .int, 2) := by decide +kernel
theorem dX9_init_599 : decode cX9_init 599 = .ok (.putfield 85, 3) := by decide +kernel
theorem dX9_init_602 : decode cX9_init 602 = .ok (.aload_n 0, 1) := by decide +kernel
theorem dX9_init_603 : decode cX9_init 603 = .ok (.bipush 10, 2) := by decide +kernel
theorem dX9_init_605 : decode cX9_init 605 = .ok (.newarray .int, 2) := by decide +kernel
theorem dX9_init_607 : decode cX9_init 607 = .ok (.putfield 88, 3) := by decide +kernel
theorem dX9_init_610 : decode cX9_init 610 = .ok (.aload_n 0, 1) := by decide +kernel
theorem dX9_init_611 : decode cX9_init 611 = .ok (.bipush 30, 2) := by decide +kernel
theorem dX9_init_613 : decode cX9_init 613 = .ok (.newarray .int, 2) := by decide +kernel
theorem dX9_init_615 : decode cX9_init 615 = .ok (.putfield 91, 3) := by decide +kernel
theorem dX9_init_618 : decode cX9_init 618 = .ok (.aload_n 0, 1) := by decide +kernel
theorem dX9_init_619 : decode cX9_init 619 = .ok (.getfield 20, 3) := by decide +kernel
theorem dX9_init_622 : decode cX9_init 622 = .ok (.bipush 40, 2) := by decide +kernel
theorem dX9_init_624 : decode cX9_init 624 = .ok (.iconst 2, 1) := by decide +kernel
theorem dX9_init_625 : decode cX9_init 625 = .ok (.iastore, 1) := by decide +kernel
theorem dX9_init_626 : decode cX9_init 626 = .ok (.aload_n 0, 1) := by decide +kernel
theorem dX9_init_627 : decode cX9_init 627 = .ok (.getfield 20, 3) := by decide +kernel
theorem dX9_init_630 : decode cX9_init 630 = .ok (.bipush 41, 2) := by decide +kernel
theorem dX9_init_632 : decode cX9_init 632 = .ok (.iconst 1, 1) := by decide +kernel
theorem dX9_init_633 : decode cX9_init 633 = .ok (.iastore, 1) := by decide +kernel
theorem dX9_init_634 : decode cX9_init 634 = .ok (.aload_n 0, 1) := by decide +kernel
theorem dX9_init_635 : decode cX9_init 635 = .ok (.getfield 20, 3) := by decide +kernel
theorem dX9_init_638 : decode cX9_init 638 = .ok (.sipush 138, 3) := by decide +kernel
theorem dX9_init_641 : decode cX9_init 641 = .ok (.iconst (-1), 1) := by decide +kernel
theorem dX9_init_642 : decode cX9_init 642 = .ok (.iastore, 1) := by decide +kernel
theorem dX9_init_643 : decode cX9_init 643 = .ok (.return_, 1) := by decide +kernel
theorem dX9_image_0 : decode cX9_image 0 = .ok (.iload_n 1, 1) := by decide +kernel
theorem dX9_image_1 : decode cX9_image 1 = .ok (.iconst 0, 1) := by decide +kernel
theorem dX9_image_2 : decode cX9_image 2 = .ok (.iconst 1, 1) := by decide +kernel
theorem dX9_image_3 : decode cX9_image 3 = .ok (.invokestatic 94, 3) := by decide +kernel
theorem dX9_image_6 : decode cX9_image 6 = .ok (.ifCond .ne 9, 3) := by decide +kernel
theorem dX9_image_9 : decode cX9_image 9 = .ok (.aload_n 0, 1) := by decide +kernel
theorem dX9_image_10 : decode cX9_image 10 = .ok (.iconst (-1), 1) := by decide +kernel
theorem dX9_image_11 : decode cX9_image 11 = .ok (.invokevirtual 98, 3) := by decide +kernel
theorem dX9_image_14 : decode cX9_image 14 = .ok (.ireturn, 1) := by decide +kernel
theorem dX9_image_15 : decode cX9_image 15 = .ok (.iconst 0, 1) := by decide +kernel
theorem dX9_image_16 : decode cX9_image 16 = .ok (.istore_n 2, 1) := by decide +kernel
theorem dX9_image_17 : decode cX9_image 17 = .ok (.iload_n 2, 1) := by decide +kernel
theorem dX9_image_18 : decode cX9_image 18 = .ok (.sipush 4945, 3) := by decide +kernel
theorem dX9_image_21 : decode cX9_image 21 = .ok (.if_icmp .ge 27, 3) := by decide +kernel
theorem dX9_image_24 : decode cX9_image 24 = .ok (.aload_n 0, 1) := by decide +kernel
theorem dX9_image_25 : decode cX9_image 25 = .ok (.getfield 23, 3) := by decide +kernel
theorem dX9_image_28 : decode cX9_image 28 = .ok (.sipush 4945, 3) := by decide +kernel
theorem dX9_image_31 : decode cX9_image 31 = .ok (.iload_n 1, 1) := by decide +kernel
theorem dX9_image_32 : decode cX9_image 32 = .ok (.imul, 1) := by decide +kernel
theorem dX9_image_33 : decode cX9_image 33 = .ok (.iload_n 2, 1) := by decide +kernel
theorem dX9_image_34 : decode cX9_image 34 = .ok (.iadd, 1) := by decide +kernel
theorem dX9_image_35 : decode cX9_image 35 = .ok (.aload_n 0, 1) := by decide +kernel
theorem dX9_image_36 : decode cX9_image 36 = .ok (.getfield 20, 3) := by decide +kernel
theorem dX9_image_39 : decode cX9_image 39 = .ok (.iload_n 2, 1) := by decide +kernel
theorem dX9_image_40 : decode cX9_image 40 = .ok (.iaload, 1) := by decide +kernel
theorem dX9_image_41 : decode cX9_image 41 = .ok (.iastore, 1) := by decide +kernel
theorem dX9_image_42 : decode cX9_image 42 = .ok (.iinc 2 1, 3) := by decide +kernel
theorem dX9_image_45 : decode cX9_image 45 = .ok (.goto (-28), 3) := by decide +kernel
theorem dX9_image_48 : decode cX9_image 48 = .ok (.aload_n 0, 1) := by decide +kernel
theorem dX9_image_49 : decode cX9_image 49 = .ok (.getfield 26, 3) := by decide +kernel
theorem dX9_image_52 : decode cX9_image 52 = .ok (.iload_n 1, 1) := by decide +kernel
theorem dX9_image_53 : decode cX9_image 53 = .ok (.iconst 1, 1) := by decide +kernel
theorem dX9_image_54 : decode cX9_image 54 = .ok (.bastore, 1) := by decide +kernel
theorem dX9_image_55 : decode cX9_image 55 = .ok (.aload_n 0, 1) := by decide +kernel
theorem dX9_image_56 : decode cX9_image 56 = .ok (.iconst 0, 1) := by decide +kernel
theorem dX9_image_57 : decode cX9_image 57 = .ok (.invokevirtual 102, 3) := by decide +kernel
theorem dX9_image_60 : decode cX9_image 60 = .ok (.ireturn, 1) := by decide +kernel
theorem dX9_back_0 : decode cX9_back 0 = .ok (.iload_n 1, 1) := by decide +kernel
theorem dX9_back_1 : decode cX9_back 1 = .ok (.iconst 0, 1) := by decide +kernel
theorem dX9_back_2 : decode cX9_back 2 = .ok (.iconst 1, 1) := by decide +kernel
theorem dX9_back_3 : decode cX9_back 3 = .ok (.invokestatic 94, 3) := by decide +kernel
theorem dX9_back_6 : decode cX9_back 6 = .ok (.ifCond .ne 9, 3) := by decide +kernel
theorem dX9_back_9 : decode cX9_back 9 = .ok (.aload_n 0, 1) := by decide +kernel
theorem dX9_back_10 : decode cX9_back 10 = .ok (.iconst (-1), 1) := by decide +kernel
theorem dX9_back_11 : decode cX9_back 11 = .ok (.invokevirtual 98, 3) := by decide +kernel
theorem dX9_back_14 : decode cX9_back 14 = .ok (.ireturn, 1) := by decide +kernel
theorem dX9_back_15 : decode cX9_back 15 = .ok (.aload_n 0, 1) := by decide +kernel
theorem dX9_back_16 : decode cX9_back 16 = .ok (.getfield 26, 3) := by decide +kernel
theorem dX9_back_19 : decode cX9_back 19 = .ok (.iload_n 1, 1) := by decide +kernel
theorem dX9_back_20 : decode cX9_back 20 = .ok (.baload, 1) := by decide +kernel
theorem dX9_back_21 : decode cX9_back 21 = .ok (.ifCond .ne 10, 3) := by decide +kernel
theorem dX9_back_24 : decode cX9_back 24 = .ok (.aload_n 0, 1) := by decide +kernel
theorem dX9_back_25 : decode cX9_back 25 = .ok (.bipush (-2), 2) := by decide +kernel
theorem dX9_back_27 : decode cX9_back 27 = .ok (.invokevirtual 98, 3) := by decide +kernel
theorem dX9_back_30 : decode cX9_back 30 = .ok (.ireturn, 1) := by decide +kernel
theorem dX9_back_31 : decode cX9_back 31 = .ok (.iconst 0, 1) := by decide +kernel
theorem dX9_back_32 : decode cX9_back 32 = .ok (.istore_n 2, 1) := by decide +kernel
theorem dX9_back_33 : decode cX9_back 33 = .ok (.iload_n 2, 1) := by decide +kernel
theorem dX9_back_34 : decode cX9_back 34 = .ok (.sipush 4945, 3) := by decide +kernel
theorem dX9_back_37 : decode cX9_back 37 = .ok (.if_icmp .ge 27, 3) := by decide +kernel
theorem dX9_back_40 : decode cX9_back 40 = .ok (.aload_n 0, 1) := by decide +kernel
theorem dX9_back_41 : decode cX9_back 41 = .ok (.getfield 20, 3) := by decide +kernel
theorem dX9_back_44 : decode cX9_back 44 = .ok (.iload_n 2, 1) := by decide +kernel
theorem dX9_back_45 : decode cX9_back 45 = .ok (.aload_n 0, 1) := by decide +kernel
theorem dX9_back_46 : decode cX9_back 46 = .ok (.getfield 23, 3) := by decide +kernel
theorem dX9_back_49 : decode cX9_back 49 = .ok (.sipush 4945, 3) := by decide +kernel
theorem dX9_back_52 : decode cX9_back 52 = .ok (.iload_n 1, 1) := by decide +kernel
theorem dX9_back_53 : decode cX9_back 53 = .ok (.imul, 1) := by decide +kernel
theorem dX9_back_54 : decode cX9_back 54 = .ok (.iload_n 2, 1) := by decide +kernel
theorem dX9_back_55 : decode cX9_back 55 = .ok (.iadd, 1) := by decide +kernel
theorem dX9_back_56 : decode cX9_back 56 = .ok (.iaload, 1) := by decide +kernel
theorem dX9_back_57 : decode cX9_back 57 = .ok (.iastore, 1) := by decide +kernel
theorem dX9_back_58 : decode cX9_back 58 = .ok (.iinc 2 1, 3) := by decide +kernel
theorem dX9_back_61 : decode cX9_back 61 = .ok (.goto (-28), 3) := by decide +kernel
theorem dX9_back_64 : decode cX9_back 64 = .ok (.aload_n 0, 1) := by decide +kernel
theorem dX9_back_65 : decode cX9_back 65 = .ok (.iconst 0, 1) := by decide +kernel
theorem dX9_back_66 : decode cX9_back 66 = .ok (.invokevirtual 102, 3) := by decide +kernel
theorem dX9_back_69 : decode cX9_back 69 = .ok (.ireturn, 1) := by decide +kernel
theorem dX9_tales_0 : decode cX9_tales 0 = .ok (.aload_n 0, 1) := by decide +kernel
theorem dX9_tales_1 : decode cX9_tales 1 = .ok (.getfield 20, 3) := by decide +kernel
theorem dX9_tales_4 : decode cX9_tales 4 = .ok (.sipush 133, 3) := by decide +kernel
theorem dX9_tales_7 : decode cX9_tales 7 = .ok (.iaload, 1) := by decide +kernel
theorem dX9_tales_8 : decode cX9_tales 8 = .ok (.ireturn, 1) := by decide +kernel
theorem dX9_isTale_0 : decode cX9_isTale 0 = .ok (.iload_n 1, 1) := by decide +kernel
theorem dX9_isTale_1 : decode cX9_isTale 1 = .ok (.iconst 0, 1) := by decide +kernel
theorem dX9_isTale_2 : decode cX9_isTale 2 = .ok (.aload_n 0, 1) := by decide +kernel
theorem dX9_isTale_3 : decode cX9_isTale 3 = .ok (.invokevirtual 105, 3) := by decide +kernel
theorem dX9_isTale_6 : decode cX9_isTale 6 = .ok (.iconst 1, 1) := by decide +kernel
theorem dX9_isTale_7 : decode cX9_isTale 7 = .ok (.isub, 1) := by decide +kernel
theorem dX9_isTale_8 : decode cX9_isTale 8 = .ok (.invokestatic 94, 3) := by decide +kernel
theorem dX9_isTale_11 : decode cX9_isTale 11 = .ok (.ireturn, 1) := by decide +kernel
theorem dX9_isTeller_0 : decode cX9_isTeller 0 = .ok (.iload_n 1, 1) := by decide +kernel
theorem dX9_isTeller_1 : decode cX9_isTeller 1 = .ok (.iconst 0, 1) := by decide +kernel
theorem dX9_isTeller_2 : decode cX9_isTeller 2 = .ok (.aload_n 0, 1) := by decide +kernel
theorem dX9_isTeller_3 : decode cX9_isTeller 3 = .ok (.getfield 20, 3) := by decide +kernel
theorem dX9_isTeller_6 : decode cX9_isTeller 6 = .ok (.bipush 40, 2) := by decide +kernel
theorem dX9_isTeller_8 : decode cX9_isTeller 8 = .ok (.iaload, 1) := by decide +kernel
theorem dX9_isTeller_9 : decode cX9_isTeller 9 = .ok (.iconst 1, 1) := by decide +kernel
theorem dX9_isTeller_10 : decode cX9_isTeller 10 = .ok (.isub, 1) := by decide +kernel
theorem dX9_isTeller_11 : decode cX9_isTeller 11 = .ok (.invokestatic 94, 3) := by decide +kernel
theorem dX9_isTeller_14 : decode cX9_isTeller 14 = .ok (.ireturn, 1) := by decide +kernel
theorem dX9_factOf_0 : decode cX9_factOf 0 = .ok (.aload_n 0, 1) := by decide +kernel
theorem dX9_factOf_1 : decode cX9_factOf 1 = .ok (.getfield 20, 3) := by decide +kernel
theorem dX9_factOf_4 : decode cX9_factOf 4 = .ok (.iconst 4, 1) := by decide +kernel
theorem dX9_factOf_5 : decode cX9_factOf 5 = .ok (.iload_n 1, 1) := by decide +kernel
theorem dX9_factOf_6 : decode cX9_factOf 6 = .ok (.imul, 1) := by decide +kernel
theorem dX9_factOf_7 : decode cX9_factOf 7 = .ok (.iload_n 2, 1) := by decide +kernel
theorem dX9_factOf_8 : decode cX9_factOf 8 = .ok (.iadd, 1) := by decide +kernel
theorem dX9_factOf_9 : decode cX9_factOf 9 = .ok (.iaload, 1) := by decide +kernel
theorem dX9_factOf_10 : decode cX9_factOf 10 = .ok (.ireturn, 1) := by decide +kernel
theorem dX9_canBe_0 : decode cX9_canBe 0 = .ok (.iload_n 0, 1) := by decide +kernel
theorem dX9_canBe_1 : decode cX9_canBe 1 = .ok (.iconst 0, 1) := by decide +kernel
theorem dX9_canBe_2 : decode cX9_canBe 2 = .ok (.sipush 2000, 3) := by decide +kernel
theorem dX9_canBe_5 : decode cX9_canBe 5 = .ok (.invokestatic 94, 3) := by decide +kernel
theorem dX9_canBe_8 : decode cX9_canBe 8 = .ok (.ifCond .eq 38, 3) := by decide +kernel
theorem dX9_canBe_11 : decode cX9_canBe 11 = .ok (.iload_n 1, 1) := by decide +kernel
theorem dX9_canBe_12 : decode cX9_canBe 12 = .ok (.iload_n 0, 1) := by decide +kernel
theorem dX9_canBe_13 : decode cX9_canBe 13 = .ok (.sipush 2000, 3) := by decide +kernel
theorem dX9_canBe_16 : decode cX9_canBe 16 = .ok (.invokestatic 94, 3) := by decide +kernel
theorem dX9_canBe_19 : decode cX9_canBe 19 = .ok (.ifCond .eq 27, 3) := by decide +kernel
theorem dX9_canBe_22 : decode cX9_canBe 22 = .ok (.iload_n 2, 1) := by decide +kernel
theorem dX9_canBe_23 : decode cX9_canBe 23 = .ok (.iconst 0, 1) := by decide +kernel
theorem dX9_canBe_24 : decode cX9_canBe 24 = .ok (.bipush 99, 2) := by decide +kernel
theorem dX9_canBe_26 : decode cX9_canBe 26 = .ok (.invokestatic 94, 3) := by decide +kernel
theorem dX9_canBe_29 : decode cX9_canBe 29 = .ok (.ifCond .eq 17, 3) := by decide +kernel
theorem dX9_canBe_32 : decode cX9_canBe 32 = .ok (.iload_n 3, 1) := by decide +kernel
theorem dX9_canBe_33 : decode cX9_canBe 33 = .ok (.iconst 0, 1) := by decide +kernel
theorem dX9_canBe_34 : decode cX9_canBe 34 = .ok (.bipush 15, 2) := by decide +kernel
theorem dX9_canBe_36 : decode cX9_canBe 36 = .ok (.invokestatic 94, 3) := by decide +kernel
theorem dX9_canBe_39 : decode cX9_canBe 39 = .ok (.ifCond .eq 7, 3) := by decide +kernel
theorem dX9_canBe_42 : decode cX9_canBe 42 = .ok (.iconst 1, 1) := by decide +kernel
theorem dX9_canBe_43 : decode cX9_canBe 43 = .ok (.goto 4, 3) := by decide +kernel
theorem dX9_canBe_46 : decode cX9_canBe 46 = .ok (.iconst 0, 1) := by decide +kernel
theorem dX9_canBe_47 : decode cX9_canBe 47 = .ok (.ireturn, 1) := by decide +kernel
theorem dX9_adds_0 : decode cX9_adds 0 = .ok (.iconst 4, 1) := by decide +kernel
theorem dX9_adds_1 : decode cX9_adds 1 = .ok (.aload_n 0, 1) := by decide +kernel
theorem dX9_adds_2 : decode cX9_adds 2 = .ok (.invokevirtual 105, 3) := by decide +kernel
theorem dX9_adds_5 : decode cX9_adds 5 = .ok (.imul, 1) := by decide +kernel
theorem dX9_adds_6 : decode cX9_adds 6 = .ok (.istore 5, 2) := by decide +kernel
theorem dX9_adds_8 : decode cX9_adds 8 = .ok (.aload_n 0, 1) := by decide +kernel
theorem dX9_adds_9 : decode cX9_adds 9 = .ok (.getfield 20, 3) := by decide +kernel
theorem dX9_adds_12 : decode cX9_adds 12 = .ok (.iload 5, 2) := by decide +kernel
theorem dX9_adds_14 : decode cX9_adds 14 = .ok (.iload_n 1, 1) := by decide +kernel
theorem dX9_adds_15 : decode cX9_adds 15 = .ok (.iastore, 1) := by decide +kernel
theorem dX9_adds_16 : decode cX9_adds 16 = .ok (.aload_n 0, 1) := by decide +kernel
theorem dX9_adds_17 : decode cX9_adds 17 = .ok (.getfield 20, 3) := by decide +kernel
theorem dX9_adds_20 : decode cX9_adds 20 = .ok (.iload 5, 2) := by decide +kernel
theorem dX9_adds_22 : decode cX9_adds 22 = .ok (.iconst 1, 1) := by decide +kernel
theorem dX9_adds_23 : decode cX9_adds 23 = .ok (.iadd, 1) := by decide +kernel
theorem dX9_adds_24 : decode cX9_adds 24 = .ok (.iload_n 2, 1) := by decide +kernel
theorem dX9_adds_25 : decode cX9_adds 25 = .ok (.iastore, 1) := by decide +kernel
theorem dX9_adds_26 : decode cX9_adds 26 = .ok (.aload_n 0, 1) := by decide +kernel
theorem dX9_adds_27 : decode cX9_adds 27 = .ok (.getfield 20, 3) := by decide +kernel
theorem dX9_adds_30 : decode cX9_adds 30 = .ok (.iload 5, 2) := by decide +kernel
theorem dX9_adds_32 : decode cX9_adds 32 = .ok (.iconst 2, 1) := by decide +kernel
theorem dX9_adds_33 : decode cX9_adds 33 = .ok (.iadd, 1) := by decide +kernel
theorem dX9_adds_34 : decode cX9_adds 34 = .ok (.iload_n 3, 1) := by decide +kernel
theorem dX9_adds_35 : decode cX9_adds 35 = .ok (.iastore, 1) := by decide +kernel
theorem dX9_adds_36 : decode cX9_adds 36 = .ok (.aload_n 0, 1) := by decide +kernel
theorem dX9_adds_37 : decode cX9_adds 37 = .ok (.getfield 20, 3) := by decide +kernel
theorem dX9_adds_40 : decode cX9_adds 40 = .ok (.iload 5, 2) := by decide +kernel
theorem dX9_adds_42 : decode cX9_adds 42 = .ok (.iconst 3, 1) := by decide +kernel
theorem dX9_adds_43 : decode cX9_adds 43 = .ok (.iadd, 1) := by decide +kernel
theorem dX9_adds_44 : decode cX9_adds 44 = .ok (.iload 4, 2) := by decide +kernel
theorem dX9_adds_46 : decode cX9_adds 46 = .ok (.iastore, 1) := by decide +kernel
theorem dX9_adds_47 : decode cX9_adds 47 = .ok (.aload_n 0, 1) := by decide +kernel
theorem dX9_adds_48 : decode cX9_adds 48 = .ok (.getfield 20, 3) := by decide +kernel
theorem dX9_adds_51 : decode cX9_adds 51 = .ok (.sipush 133, 3) := by decide +kernel
theorem dX9_adds_54 : decode cX9_adds 54 = .ok (.dup2, 1) := by decide +kernel
theorem dX9_adds_55 : decode cX9_adds 55 = .ok (.iaload, 1) := by decide +kernel
theorem dX9_adds_56 : decode cX9_adds 56 = .ok (.iconst 1, 1) := by decide +kernel
theorem dX9_adds_57 : decode cX9_adds 57 = .ok (.iadd, 1) := by decide +kernel
theorem dX9_adds_58 : decode cX9_adds 58 = .ok (.iastore, 1) := by decide +kernel
theorem dX9_adds_59 : decode cX9_adds 59 = .ok (.aload_n 0, 1) := by decide +kernel
theorem dX9_adds_60 : decode cX9_adds 60 = .ok (.invokevirtual 105, 3) := by decide +kernel
theorem dX9_adds_63 : decode cX9_adds 63 = .ok (.iconst 1, 1) := by decide +kernel
theorem dX9_adds_64 : decode cX9_adds 64 = .ok (.isub, 1) := by decide +kernel
theorem dX9_adds_65 : decode cX9_adds 65 = .ok (.ireturn, 1) := by decide +kernel
theorem dX9_tale_0 : decode cX9_tale 0 = .ok (.iload_n 1, 1) := by decide +kernel
theorem dX9_tale_1 : decode cX9_tale 1 = .ok (.iload_n 2, 1) := by decide +kernel
theorem dX9_tale_2 : decode cX9_tale 2 = .ok (.iload_n 3, 1) := by decide +kernel
theorem dX9_tale_3 : decode cX9_tale 3 = .ok (.iload 4, 2) := by decide +kernel
theorem dX9_tale_5 : decode cX9_tale 5 = .ok (.invokestatic 109, 3) := by decide +kernel
theorem dX9_tale_8 : decode cX9_tale 8 = .ok (.ifCond .ne 9, 3) := by decide +kernel
theorem dX9_tale_11 : decode cX9_tale 11 = .ok (.aload_n 0, 1) := by decide +kernel
theorem dX9_tale_12 : decode cX9_tale 12 = .ok (.iconst (-1), 1) := by decide +kernel
theorem dX9_tale_13 : decode cX9_tale 13 = .ok (.invokevirtual 98, 3) := by decide +kernel
theorem dX9_tale_16 : decode cX9_tale 16 = .ok (.ireturn, 1) := by decide +kernel
theorem dX9_tale_17 : decode cX9_tale 17 = .ok (.aload_n 0, 1) := by decide +kernel
theorem dX9_tale_18 : decode cX9_tale 18 = .ok (.invokevirtual 105, 3) := by decide +kernel
theorem dX9_tale_21 : decode cX9_tale 21 = .ok (.bipush 10, 2) := by decide +kernel
theorem dX9_tale_23 : decode cX9_tale 23 = .ok (.if_icmp .ne 10, 3) := by decide +kernel
theorem dX9_tale_26 : decode cX9_tale 26 = .ok (.aload_n 0, 1) := by decide +kernel
theorem dX9_tale_27 : decode cX9_tale 27 = .ok (.bipush (-5), 2) := by decide +kernel
theorem dX9_tale_29 : decode cX9_tale 29 = .ok (.invokevirtual 98, 3) := by decide +kernel
theorem dX9_tale_32 : decode cX9_tale 32 = .ok (.ireturn, 1) := by decide +kernel
theorem dX9_tale_33 : decode cX9_tale 33 = .ok (.aload_n 0, 1) := by decide +kernel
theorem dX9_tale_34 : decode cX9_tale 34 = .ok (.aload_n 0, 1) := by decide +kernel
theorem dX9_tale_35 : decode cX9_tale 35 = .ok (.iload_n 1, 1) := by decide +kernel
theorem dX9_tale_36 : decode cX9_tale 36 = .ok (.iload_n 2, 1) := by decide +kernel
theorem dX9_tale_37 : decode cX9_tale 37 = .ok (.iload_n 3, 1) := by decide +kernel
theorem dX9_tale_38 : decode cX9_tale 38 = .ok (.iload 4, 2) := by decide +kernel
theorem dX9_tale_40 : decode cX9_tale 40 = .ok (.invokevirtual 113, 3) := by decide +kernel
theorem dX9_tale_43 : decode cX9_tale 43 = .ok (.invokevirtual 102, 3) := by decide +kernel
theorem dX9_tale_46 : decode cX9_tale 46 = .ok (.ireturn, 1) := by decide +kernel
theorem dX9_put_0 : decode cX9_put 0 = .ok (.iload_n 2, 1) := by decide +kernel
theorem dX9_put_1 : decode cX9_put 1 = .ok (.iconst 0, 1) := by decide +kernel
theorem dX9_put_2 : decode cX9_put 2 = .ok (.iconst 3, 1) := by decide +kernel
theorem dX9_put_3 : decode cX9_put 3 = .ok (.invokestatic 94, 3) := by decide +kernel
theorem dX9_put_6 : decode cX9_put 6 = .ok (.ifCond .eq 34, 3) := by decide +kernel
theorem dX9_put_9 : decode cX9_put 9 = .ok (.iload_n 3, 1) := by decide +kernel
theorem dX9_put_10 : decode cX9_put 10 = .ok (.iconst 0, 1) := by decide +kernel
theorem dX9_put_11 : decode cX9_put 11 = .ok (.iload_n 2, 1) := by decide +kernel
theorem dX9_put_12 : decode cX9_put 12 = .ok (.iconst 2, 1) := by decide +kernel
theorem dX9_put_13 : decode cX9_put 13 = .ok (.if_icmp .ge 9, 3) := by decide +kernel
theorem dX9_put_16 : decode cX9_put 16 = .ok (.sipush 2000, 3) := by decide +kernel
theorem dX9_put_19 : decode cX9_put 19 = .ok (.goto 15, 3) := by decide +kernel
theorem dX9_put_22 : decode cX9_put 22 = .ok (.iload_n 2, 1) := by decide +kernel
theorem dX9_put_23 : decode cX9_put 23 = .ok (.iconst 2, 1) := by decide +kernel
theorem dX9_put_24 : decode cX9_put 24 = .ok (.if_icmp .ne 8, 3) := by decide +kernel
theorem dX9_put_27 : decode cX9_put 27 = .ok (.bipush 99, 2) := by decide +kernel
theorem dX9_put_29 : decode cX9_put 29 = .ok (.goto 5, 3) := by decide +kernel
theorem dX9_put_32 : decode cX9_put 32 = .ok (.bipush 15, 2) := by decide +kernel
theorem dX9_put_34 : decode cX9_put 34 = .ok (.invokestatic 94, 3) := by decide +kernel
theorem dX9_put_37 : decode cX9_put 37 = .ok (.ifCond .ne 9, 3) := by decide +kernel
theorem dX9_put_40 : decode cX9_put 40 = .ok (.aload_n 0, 1) := by decide +kernel
theorem dX9_put_41 : decode cX9_put 41 = .ok (.iconst (-1), 1) := by decide +kernel
theorem dX9_put_42 : decode cX9_put 42 = .ok (.invokevirtual 98, 3) := by decide +kernel
theorem dX9_put_45 : decode cX9_put 45 = .ok (.ireturn, 1) := by decide +kernel
theorem dX9_put_46 : decode cX9_put 46 = .ok (.aload_n 0, 1) := by decide +kernel
theorem dX9_put_47 : decode cX9_put 47 = .ok (.iload_n 1, 1) := by decide +kernel
theorem dX9_put_48 : decode cX9_put 48 = .ok (.invokevirtual 117, 3) := by decide +kernel
theorem dX9_put_51 : decode cX9_put 51 = .ok (.ifCond .ne 10, 3) := by decide +kernel
theorem dX9_put_54 : decode cX9_put 54 = .ok (.aload_n 0, 1) := by decide +kernel
theorem dX9_put_55 : decode cX9_put 55 = .ok (.bipush (-2), 2) := by decide +kernel
theorem dX9_put_57 : decode cX9_put 57 = .ok (.invokevirtual 98, 3) := by decide +kernel
theorem dX9_put_60 : decode cX9_put 60 = .ok (.ireturn, 1) := by decide +kernel
theorem dX9_put_61 : decode cX9_put 61 = .ok (.iload_n 2, 1) := by decide +kernel
theorem dX9_put_62 : decode cX9_put 62 = .ok (.ifCond .ne 13, 3) := by decide +kernel
theorem dX9_put_65 : decode cX9_put 65 = .ok (.iload_n 3, 1) := by decide +kernel
theorem dX9_put_66 : decode cX9_put 66 = .ok (.aload_n 0, 1) := by decide +kernel
theorem dX9_put_67 : decode cX9_put 67 = .ok (.iload_n 1, 1) := by decide +kernel
theorem dX9_put_68 : decode cX9_put 68 = .ok (.iconst 1, 1) := by decide +kernel
theorem dX9_put_69 : decode cX9_put 69 = .ok (.invokevirtual 121, 3) := by decide +kernel
theorem dX9_put_72 : decode cX9_put 72 = .ok (.if_icmp .gt 18, 3) := by decide +kernel
theorem dX9_put_75 : decode cX9_put 75 = .ok (.iload_n 2, 1) := by decide +kernel
theorem dX9_put_76 : decode cX9_put 76 = .ok (.iconst 1, 1) := by decide +kernel
theorem dX9_put_77 : decode cX9_put 77 = .ok (.if_icmp .ne 19, 3) := by decide +kernel
theorem dX9_put_80 : decode cX9_put 80 = .ok (.iload_n 3, 1) := by decide +kernel
theorem dX9_put_81 : decode cX9_put 81 = .ok (.aload_n 0, 1) := by decide +kernel
theorem dX9_put_82 : decode cX9_put 82 = .ok (.iload_n 1, 1) := by decide +kernel
theorem dX9_put_83 : decode cX9_put 83 = .ok (.iconst 0, 1) := by decide +kernel
theorem dX9_put_84 : decode cX9_put 84 = .ok (.invokevirtual 121, 3) := by decide +kernel
theorem dX9_put_87 : decode cX9_put 87 = .ok (.if_icmp .ge 9, 3) := by decide +kernel
theorem dX9_put_90 : decode cX9_put 90 = .ok (.aload_n 0, 1) := by decide +kernel
theorem dX9_put_91 : decode cX9_put 91 = .ok (.iconst (-1), 1) := by decide +kernel
theorem dX9_put_92 : decode cX9_put 92 = .ok (.invokevirtual 98, 3) := by decide +kernel
theorem dX9_put_95 : decode cX9_put 95 = .ok (.ireturn, 1) := by decide +kernel
theorem dX9_put_96 : decode cX9_put 96 = .ok (.aload_n 0, 1) := by decide +kernel
theorem dX9_put_97 : decode cX9_put 97 = .ok (.iload_n 1, 1) := by decide +kernel
theorem dX9_put_98 : decode cX9_put 98 = .ok (.iload_n 2, 1) := by decide +kernel
theorem dX9_put_99 : decode cX9_put 99 = .ok (.invokevirtual 121, 3) := by decide +kernel
theorem dX9_put_102 : decode cX9_put 102 = .ok (.istore 4, 2) := by decide +kernel
theorem dX9_put_104 : decode cX9_put 104 = .ok (.aload_n 0, 1) := by decide +kernel
theorem dX9_put_105 : decode cX9_put 105 = .ok (.getfield 20, 3) := by decide +kernel
theorem dX9_put_108 : decode cX9_put 108 = .ok (.iconst 4, 1) := by decide +kernel
theorem dX9_put_109 : decode cX9_put 109 = .ok (.iload_n 1, 1) := by decide +kernel
theorem dX9_put_110 : decode cX9_put 110 = .ok (.imul, 1) := by decide +kernel
theorem dX9_put_111 : decode cX9_put 111 = .ok (.iload_n 2, 1) := by decide +kernel
theorem dX9_put_112 : decode cX9_put 112 = .ok (.iadd, 1) := by decide +kernel
theorem dX9_put_113 : decode cX9_put 113 = .ok (.iload_n 3, 1) := by decide +kernel
theorem dX9_put_114 : decode cX9_put 114 = .ok (.iastore, 1) := by decide +kernel
theorem dX9_put_115 : decode cX9_put 115 = .ok (.aload_n 0, 1) := by decide +kernel
theorem dX9_put_116 : decode cX9_put 116 = .ok (.iload 4, 2) := by decide +kernel
theorem dX9_put_118 : decode cX9_put 118 = .ok (.invokevirtual 102, 3) := by decide +kernel
theorem dX9_put_121 : decode cX9_put 121 = .ok (.ireturn, 1) := by decide +kernel
theorem dX9_terms_0 : decode cX9_terms 0 = .ok (.iload_n 1, 1) := by decide +kernel
theorem dX9_terms_1 : decode cX9_terms 1 = .ok (.iconst 0, 1) := by decide +kernel
theorem dX9_terms_2 : decode cX9_terms 2 = .ok (.iconst 2, 1) := by decide +kernel
theorem dX9_terms_3 : decode cX9_terms 3 = .ok (.invokestatic 94, 3) := by decide +kernel
theorem dX9_terms_6 : decode cX9_terms 6 = .ok (.ifCond .eq 38, 3) := by decide +kernel
theorem dX9_terms_9 : decode cX9_terms 9 = .ok (.iload_n 2, 1) := by decide +kernel
theorem dX9_terms_10 : decode cX9_terms 10 = .ok (.iload_n 1, 1) := by decide +kernel
theorem dX9_terms_11 : decode cX9_terms 11 = .ok (.ifCond .ne 7, 3) := by decide +kernel
theorem dX9_terms_14 : decode cX9_terms 14 = .ok (.iconst 1, 1) := by decide +kernel
theorem dX9_terms_15 : decode cX9_terms 15 = .ok (.goto 4, 3) := by decide +kernel
theorem dX9_terms_18 : decode cX9_terms 18 = .ok (.iconst 0, 1) := by decide +kernel
theorem dX9_terms_19 : decode cX9_terms 19 = .ok (.iload_n 1, 1) := by decide +kernel
theorem dX9_terms_20 : decode cX9_terms 20 = .ok (.ifCond .ne 7, 3) := by decide +kernel
theorem dX9_terms_23 : decode cX9_terms 23 = .ok (.iconst 4, 1) := by decide +kernel
theorem dX9_terms_24 : decode cX9_terms 24 = .ok (.goto 14, 3) := by decide +kernel
theorem dX9_terms_27 : decode cX9_terms 27 = .ok (.iload_n 1, 1) := by decide +kernel
theorem dX9_terms_28 : decode cX9_terms 28 = .ok (.iconst 1, 1) := by decide +kernel
theorem dX9_terms_29 : decode cX9_terms 29 = .ok (.if_icmp .ne 7, 3) := by decide +kernel
theorem dX9_terms_32 : decode cX9_terms 32 = .ok (.iconst 1, 1) := by decide +kernel
theorem dX9_terms_33 : decode cX9_terms 33 = .ok (.goto 5, 3) := by decide +kernel
theorem dX9_terms_36 : decode cX9_terms 36 = .ok (.bipush 9, 2) := by decide +kernel
theorem dX9_terms_38 : decode cX9_terms 38 = .ok (.invokestatic 94, 3) := by decide +kernel
theorem dX9_terms_41 : decode cX9_terms 41 = .ok (.ifCond .ne 9, 3) := by decide +kernel
theorem dX9_terms_44 : decode cX9_terms 44 = .ok (.aload_n 0, 1) := by decide +kernel
theorem dX9_terms_45 : decode cX9_terms 45 = .ok (.iconst (-1), 1) := by decide +kernel
theorem dX9_terms_46 : decode cX9_terms 46 = .ok (.invokevirtual 98, 3) := by decide +kernel
theorem dX9_terms_49 : decode cX9_terms 49 = .ok (.ireturn, 1) := by decide +kernel
theorem dX9_terms_50 : decode cX9_terms 50 = .ok (.aload_n 0, 1) := by decide +kernel
theorem dX9_terms_51 : decode cX9_terms 51 = .ok (.getfield 20, 3) := by decide +kernel
theorem dX9_terms_54 : decode cX9_terms 54 = .ok (.bipush 40, 2) := by decide +kernel
theorem dX9_terms_56 : decode cX9_terms 56 = .ok (.iload_n 1, 1) := by decide +kernel
theorem dX9_terms_57 : decode cX9_terms 57 = .ok (.iadd, 1) := by decide +kernel
theorem dX9_terms_58 : decode cX9_terms 58 = .ok (.iaload, 1) := by decide +kernel
theorem dX9_terms_59 : decode cX9_terms 59 = .ok (.istore_n 3, 1) := by decide +kernel
theorem dX9_terms_60 : decode cX9_terms 60 = .ok (.aload_n 0, 1) := by decide +kernel
theorem dX9_terms_61 : decode cX9_terms 61 = .ok (.getfield 20, 3) := by decide +kernel
theorem dX9_terms_64 : decode cX9_terms 64 = .ok (.bipush 40, 2) := by decide +kernel
theorem dX9_terms_66 : decode cX9_terms 66 = .ok (.iload_n 1, 1) := by decide +kernel
theorem dX9_terms_67 : decode cX9_terms 67 = .ok (.iadd, 1) := by decide +kernel
theorem dX9_terms_68 : decode cX9_terms 68 = .ok (.iload_n 2, 1) := by decide +kernel
theorem dX9_terms_69 : decode cX9_terms 69 = .ok (.iastore, 1) := by decide +kernel
theorem dX9_terms_70 : decode cX9_terms 70 = .ok (.aload_n 0, 1) := by decide +kernel
theorem dX9_terms_71 : decode cX9_terms 71 = .ok (.iload_n 3, 1) := by decide +kernel
theorem dX9_terms_72 : decode cX9_terms 72 = .ok (.invokevirtual 102, 3) := by decide +kernel
theorem dX9_terms_75 : decode cX9_terms 75 = .ok (.ireturn, 1) := by decide +kernel
theorem dX9_pair_0 : decode cX9_pair 0 = .ok (.aload_n 0, 1) := by decide +kernel
theorem dX9_pair_1 : decode cX9_pair 1 = .ok (.getfield 34, 3) := by decide +kernel
theorem dX9_pair_4 : decode cX9_pair 4 = .ok (.iload_n 1, 1) := by decide +kernel
theorem dX9_pair_5 : decode cX9_pair 5 = .ok (.baload, 1) := by decide +kernel
theorem dX9_pair_6 : decode cX9_pair 6 = .ok (.sipush 255, 3) := by decide +kernel
theorem dX9_pair_9 : decode cX9_pair 9 = .ok (.iand, 1) := by decide +kernel
theorem dX9_pair_10 : decode cX9_pair 10 = .ok (.sipush 256, 3) := by decide +kernel
theorem dX9_pair_13 : decode cX9_pair 13 = .ok (.imul, 1) := by decide +kernel
theorem dX9_pair_14 : decode cX9_pair 14 = .ok (.aload_n 0, 1) := by decide +kernel
theorem dX9_pair_15 : decode cX9_pair 15 = .ok (.getfield 34, 3) := by decide +kernel
theorem dX9_pair_18 : decode cX9_pair 18 = .ok (.iload_n 1, 1) := by decide +kernel
theorem dX9_pair_19 : decode cX9_pair 19 = .ok (.iconst 1, 1) := by decide +kernel
theorem dX9_pair_20 : decode cX9_pair 20 = .ok (.iadd, 1) := by decide +kernel
theorem dX9_pair_21 : decode cX9_pair 21 = .ok (.baload, 1) := by decide +kernel
theorem dX9_pair_22 : decode cX9_pair 22 = .ok (.sipush 255, 3) := by decide +kernel
theorem dX9_pair_25 : decode cX9_pair 25 = .ok (.iand, 1) := by decide +kernel
theorem dX9_pair_26 : decode cX9_pair 26 = .ok (.iadd, 1) := by decide +kernel
theorem dX9_pair_27 : decode cX9_pair 27 = .ok (.ireturn, 1) := by decide +kernel
theorem dX9_row_0 : decode cX9_row 0 = .ok (.aload_n 0, 1) := by decide +kernel
theorem dX9_row_1 : decode cX9_row 1 = .ok (.getfield 125, 3) := by decide +kernel
theorem dX9_row_4 : decode cX9_row 4 = .ok (.istore_n 1, 1) := by decide +kernel
theorem dX9_row_5 : decode cX9_row 5 = .ok (.aload_n 0, 1) := by decide +kernel
theorem dX9_row_6 : decode cX9_row 6 = .ok (.iconst 0, 1) := by decide +kernel
theorem dX9_row_7 : decode cX9_row 7 = .ok (.putfield 125, 3) := by decide +kernel
theorem dX9_row_10 : decode cX9_row 10 = .ok (.iload_n 1, 1) := by decide +kernel
theorem dX9_row_11 : decode cX9_row 11 = .ok (.ifCond .ne 10, 3) := by decide +kernel
theorem dX9_row_14 : decode cX9_row 14 = .ok (.aload_n 0, 1) := by decide +kernel
theorem dX9_row_15 : decode cX9_row 15 = .ok (.bipush (-6), 2) := by decide +kernel
theorem dX9_row_17 : decode cX9_row 17 = .ok (.invokevirtual 98, 3) := by decide +kernel
theorem dX9_row_20 : decode cX9_row 20 = .ok (.ireturn, 1) := by decide +kernel
theorem dX9_row_21 : decode cX9_row 21 = .ok (.iconst 0, 1) := by decide +kernel
theorem dX9_row_22 : decode cX9_row 22 = .ok (.istore_n 2, 1) := by decide +kernel
theorem dX9_row_23 : decode cX9_row 23 = .ok (.aload_n 0, 1) := by decide +kernel
theorem dX9_row_24 : decode cX9_row 24 = .ok (.iload_n 1, 1) := by decide +kernel
theorem dX9_row_25 : decode cX9_row 25 = .ok (.bipush 6, 2) := by decide +kernel
theorem dX9_row_27 : decode cX9_row 27 = .ok (.irem, 1) := by decide +kernel
theorem dX9_row_28 : decode cX9_row 28 = .ok (.ifCond .ne 7, 3) := by decide +kernel
theorem dX9_row_31 : decode cX9_row 31 = .ok (.iconst 0, 1) := by decide +kernel
theorem dX9_row_32 : decode cX9_row 32 = .ok (.goto 4, 3) := by decide +kernel
theorem dX9_row_35 : decode cX9_row 35 = .ok (.iconst 1, 1) := by decide +kernel
theorem dX9_row_36 : decode cX9_row 36 = .ok (.putfield 128, 3) := by decide +kernel
theorem dX9_row_39 : decode cX9_row 39 = .ok (.iconst 0, 1) := by decide +kernel
theorem dX9_row_40 : decode cX9_row 40 = .ok (.istore_n 3, 1) := by decide +kernel
theorem dX9_row_41 : decode cX9_row 41 = .ok (.iload_n 3, 1) := by decide +kernel
theorem dX9_row_42 : decode cX9_row 42 = .ok (.bipush 6, 2) := by decide +kernel
theorem dX9_row_44 : decode cX9_row 44 = .ok (.iadd, 1) := by decide +kernel
theorem dX9_row_45 : decode cX9_row 45 = .ok (.iload_n 1, 1) := by decide +kernel
theorem dX9_row_46 : decode cX9_row 46 = .ok (.if_icmp .gt 129, 3) := by decide +kernel
theorem dX9_row_49 : decode cX9_row 49 = .ok (.aload_n 0, 1) := by decide +kernel
theorem dX9_row_50 : decode cX9_row 50 = .ok (.invokevirtual 105, 3) := by decide +kernel
theorem dX9_row_53 : decode cX9_row 53 = .ok (.bipush 10, 2) := by decide +kernel
theorem dX9_row_55 : decode cX9_row 55 = .ok (.if_icmp .ge 41, 3) := by decide +kernel
theorem dX9_row_58 : decode cX9_row 58 = .ok (.aload_n 0, 1) := by decide +kernel
theorem dX9_row_59 : decode cX9_row 59 = .ok (.iload_n 3, 1) := by decide +kernel
theorem dX9_row_60 : decode cX9_row 60 = .ok (.invokevirtual 131, 3) := by decide +kernel
theorem dX9_row_63 : decode cX9_row 63 = .ok (.aload_n 0, 1) := by decide +kernel
theorem dX9_row_64 : decode cX9_row 64 = .ok (.iload_n 3, 1) := by decide +kernel
theorem dX9_row_65 : decode cX9_row 65 = .ok (.iconst 2, 1) := by decide +kernel
theorem dX9_row_66 : decode cX9_row 66 = .ok (.iadd, 1) := by decide +kernel
theorem dX9_row_67 : decode cX9_row 67 = .ok (.invokevirtual 131, 3) := by decide +kernel
theorem dX9_row_70 : decode cX9_row 70 = .ok (.aload_n 0, 1) := by decide +kernel
theorem dX9_row_71 : decode cX9_row 71 = .ok (.getfield 34, 3) := by decide +kernel
theorem dX9_row_74 : decode cX9_row 74 = .ok (.iload_n 3, 1) := by decide +kernel
theorem dX9_row_75 : decode cX9_row 75 = .ok (.iconst 4, 1) := by decide +kernel
theorem dX9_row_76 : decode cX9_row 76 = .ok (.iadd, 1) := by decide +kernel
theorem dX9_row_77 : decode cX9_row 77 = .ok (.baload, 1) := by decide +kernel
theorem dX9_row_78 : decode cX9_row 78 = .ok (.aload_n 0, 1) := by decide +kernel
theorem dX9_row_79 : decode cX9_row 79 = .ok (.getfield 34, 3) := by decide +kernel
theorem dX9_row_82 : decode cX9_row 82 = .ok (.iload_n 3, 1) := by decide +kernel
theorem dX9_row_83 : decode cX9_row 83 = .ok (.iconst 5, 1) := by decide +kernel
theorem dX9_row_84 : decode cX9_row 84 = .ok (.iadd, 1) := by decide +kernel
theorem dX9_row_85 : decode cX9_row 85 = .ok (.baload, 1) := by decide +kernel
theorem dX9_row_86 : decode cX9_row 86 = .ok (.invokestatic 109, 3) := by decide +kernel
theorem dX9_row_89 : decode cX9_row 89 = .ok (.ifCond .eq 7, 3) := by decide +kernel
theorem dX9_row_92 : decode cX9_row 92 = .ok (.iconst 1, 1) := by decide +kernel
theorem dX9_row_93 : decode cX9_row 93 = .ok (.goto 4, 3) := by decide +kernel
theorem dX9_row_96 : decode cX9_row 96 = .ok (.iconst 0, 1) := by decide +kernel
theorem dX9_row_97 : decode cX9_row 97 = .ok (.istore 4, 2) := by decide +kernel
theorem dX9_row_99 : decode cX9_row 99 = .ok (.iload 4, 2) := by decide +kernel
theorem dX9_row_101 : decode cX9_row 101 = .ok (.ifCond .eq 36, 3) := by decide +kernel
theorem dX9_row_104 : decode cX9_row 104 = .ok (.aload_n 0, 1) := by decide +kernel
theorem dX9_row_105 : decode cX9_row 105 = .ok (.aload_n 0, 1) := by decide +kernel
theorem dX9_row_106 : decode cX9_row 106 = .ok (.iload_n 3, 1) := by decide +kernel
theorem dX9_row_107 : decode cX9_row 107 = .ok (.invokevirtual 131, 3) := by decide +kernel
theorem dX9_row_110 : decode cX9_row 110 = .ok (.aload_n 0, 1) := by decide +kernel
theorem dX9_row_111 : decode cX9_row 111 = .ok (.iload_n 3, 1) := by decide +kernel
theorem dX9_row_112 : decode cX9_row 112 = .ok (.iconst 2, 1) := by decide +kernel
theorem dX9_row_113 : decode cX9_row 113 = .ok (.iadd, 1) := by decide +kernel
theorem dX9_row_114 : decode cX9_row 114 = .ok (.invokevirtual 131, 3) := by decide +kernel
theorem dX9_row_117 : decode cX9_row 117 = .ok (.aload_n 0, 1) := by decide +kernel
theorem dX9_row_118 : decode cX9_row 118 = .ok (.getfield 34, 3) := by decide +kernel
theorem dX9_row_121 : decode cX9_row 121 = .ok (.iload_n 3, 1) := by decide +kernel
theorem dX9_row_122 : decode cX9_row 122 = .ok (.iconst 4, 1) := by decide +kernel
theorem dX9_row_123 : decode cX9_row 123 = .ok (.iadd, 1) := by decide +kernel
theorem dX9_row_124 : decode cX9_row 124 = .ok (.baload, 1) := by decide +kernel
theorem dX9_row_125 : decode cX9_row 125 = .ok (.aload_n 0, 1) := by decide +kernel
theorem dX9_row_126 : decode cX9_row 126 = .ok (.getfield 34, 3) := by decide +kernel
theorem dX9_row_129 : decode cX9_row 129 = .ok (.iload_n 3, 1) := by decide +kernel
theorem dX9_row_130 : decode cX9_row 130 = .ok (.iconst 5, 1) := by decide +kernel
theorem dX9_row_131 : decode cX9_row 131 = .ok (.iadd, 1) := by decide +kernel
theorem dX9_row_132 : decode cX9_row 132 = .ok (.baload, 1) := by decide +kernel
theorem dX9_row_133 : decode cX9_row 133 = .ok (.invokevirtual 113, 3) := by decide +kernel
theorem dX9_row_136 : decode cX9_row 136 = .ok (.pop, 1) := by decide +kernel
theorem dX9_row_137 : decode cX9_row 137 = .ok (.iload_n 2, 1) := by decide +kernel
theorem dX9_row_138 : decode cX9_row 138 = .ok (.iload 4, 2) := by decide +kernel
theorem dX9_row_140 : decode cX9_row 140 = .ok (.ifCond .eq 7, 3) := by decide +kernel
theorem dX9_row_143 : decode cX9_row 143 = .ok (.iconst 1, 1) := by decide +kernel
theorem dX9_row_144 : decode cX9_row 144 = .ok (.goto 4, 3) := by decide +kernel
theorem dX9_row_147 : decode cX9_row 147 = .ok (.iconst 0, 1) := by decide +kernel
theorem dX9_row_148 : decode cX9_row 148 = .ok (.iadd, 1) := by decide +kernel
theorem dX9_row_149 : decode cX9_row 149 = .ok (.istore_n 2, 1) := by decide +kernel
theorem dX9_row_150 : decode cX9_row 150 = .ok (.aload_n 0, 1) := by decide +kernel
theorem dX9_row_151 : decode cX9_row 151 = .ok (.dup, 1) := by decide +kernel
theorem dX9_row_152 : decode cX9_row 152 = .ok (.getfield 128, 3) := by decide +kernel
theorem dX9_row_155 : decode cX9_row 155 = .ok (.iload 4, 2) := by decide +kernel
theorem dX9_row_157 : decode cX9_row 157 = .ok (.ifCond .eq 7, 3) := by decide +kernel
theorem dX9_row_160 : decode cX9_row 160 = .ok (.iconst 0, 1) := by decide +kernel
theorem dX9_row_161 : decode cX9_row 161 = .ok (.goto 4, 3) := by decide +kernel
theorem dX9_row_164 : decode cX9_row 164 = .ok (.iconst 1, 1) := by decide +kernel
theorem dX9_row_165 : decode cX9_row 165 = .ok (.iadd, 1) := by decide +kernel
theorem dX9_row_166 : decode cX9_row 166 = .ok (.putfield 128, 3) := by decide +kernel
theorem dX9_row_169 : decode cX9_row 169 = .ok (.iinc 3 6, 3) := by decide +kernel
theorem dX9_row_172 : decode cX9_row 172 = .ok (.goto (-131), 3) := by decide +kernel
theorem dX9_row_175 : decode cX9_row 175 = .ok (.aload_n 0, 1) := by decide +kernel
theorem dX9_row_176 : decode cX9_row 176 = .ok (.iload_n 2, 1) := by decide +kernel
theorem dX9_row_177 : decode cX9_row 177 = .ok (.invokevirtual 102, 3) := by decide +kernel
theorem dX9_row_180 : decode cX9_row 180 = .ok (.ireturn, 1) := by decide +kernel
theorem dX9_mumbled_0 : decode cX9_mumbled 0 = .ok (.aload_n 0, 1) := by decide +kernel
theorem dX9_mumbled_1 : decode cX9_mumbled 1 = .ok (.getfield 128, 3) := by decide +kernel
theorem dX9_mumbled_4 : decode cX9_mumbled 4 = .ok (.ireturn, 1) := by decide +kernel
theorem dX9_feed_0 : decode cX9_feed 0 = .ok (.aload_n 0, 1) := by decide +kernel
theorem dX9_feed_1 : decode cX9_feed 1 = .ok (.getfield 125, 3) := by decide +kernel
theorem dX9_feed_4 : decode cX9_feed 4 = .ok (.bipush 20, 2) := by decide +kernel
theorem dX9_feed_6 : decode cX9_feed 6 = .ok (.iadd, 1) := by decide +kernel
theorem dX9_feed_7 : decode cX9_feed 7 = .ok (.sipush 400, 3) := by decide +kernel
theorem dX9_feed_10 : decode cX9_feed 10 = .ok (.if_icmp .le 5, 3) := by decide +kernel
theorem dX9_feed_13 : decode cX9_feed 13 = .ok (.iconst (-1), 1) := by decide +kernel
theorem dX9_feed_14 : decode cX9_feed 14 = .ok (.ireturn, 1) := by decide +kernel
theorem dX9_feed_15 : decode cX9_feed 15 = .ok (.aload_n 0, 1) := by decide +kernel
theorem dX9_feed_16 : decode cX9_feed 16 = .ok (.getfield 37, 3) := by decide +kernel
theorem dX9_feed_19 : decode cX9_feed 19 = .ok (.iconst 0, 1) := by decide +kernel
theorem dX9_feed_20 : decode cX9_feed 20 = .ok (.iload_n 1, 1) := by decide +kernel
theorem dX9_feed_21 : decode cX9_feed 21 = .ok (.iastore, 1) := by decide +kernel
theorem dX9_feed_22 : decode cX9_feed 22 = .ok (.aload_n 0, 1) := by decide +kernel
theorem dX9_feed_23 : decode cX9_feed 23 = .ok (.getfield 37, 3) := by decide +kernel
theorem dX9_feed_26 : decode cX9_feed 26 = .ok (.iconst 1, 1) := by decide +kernel
theorem dX9_feed_27 : decode cX9_feed 27 = .ok (.iload_n 2, 1) := by decide +kernel
theorem dX9_feed_28 : decode cX9_feed 28 = .ok (.iastore, 1) := by decide +kernel
theorem dX9_feed_29 : decode cX9_feed 29 = .ok (.aload_n 0, 1) := by decide +kernel
theorem dX9_feed_30 : decode cX9_feed 30 = .ok (.getfield 37, 3) := by decide +kernel
theorem dX9_feed_33 : decode cX9_feed 33 = .ok (.iconst 2, 1) := by decide +kernel
theorem dX9_feed_34 : decode cX9_feed 34 = .ok (.iload_n 3, 1) := by decide +kernel
theorem dX9_feed_35 : decode cX9_feed 35 = .ok (.iastore, 1) := by decide +kernel
theorem dX9_feed_36 : decode cX9_feed 36 = .ok (.aload_n 0, 1) := by decide +kernel
theorem dX9_feed_37 : decode cX9_feed 37 = .ok (.getfield 37, 3) := by decide +kernel
theorem dX9_feed_40 : decode cX9_feed 40 = .ok (.iconst 3, 1) := by decide +kernel
theorem dX9_feed_41 : decode cX9_feed 41 = .ok (.iload 4, 2) := by decide +kernel
theorem dX9_feed_43 : decode cX9_feed 43 = .ok (.iastore, 1) := by decide +kernel
theorem dX9_feed_44 : decode cX9_feed 44 = .ok (.aload_n 0, 1) := by decide +kernel
theorem dX9_feed_45 : decode cX9_feed 45 = .ok (.getfield 37, 3) := by decide +kernel
theorem dX9_feed_48 : decode cX9_feed 48 = .ok (.iconst 4, 1) := by decide +kernel
theorem dX9_feed_49 : decode cX9_feed 49 = .ok (.iload 5, 2) := by decide +kernel
theorem dX9_feed_51 : decode cX9_feed 51 = .ok (.iastore, 1) := by decide +kernel
theorem dX9_feed_52 : decode cX9_feed 52 = .ok (.iconst 0, 1) := by decide +kernel
theorem dX9_feed_53 : decode cX9_feed 53 = .ok (.istore 6, 2) := by decide +kernel
theorem dX9_feed_55 : decode cX9_feed 55 = .ok (.iload 6, 2) := by decide +kernel
theorem dX9_feed_57 : decode cX9_feed 57 = .ok (.bipush 20, 2) := by decide +kernel
theorem dX9_feed_59 : decode cX9_feed 59 = .ok (.if_icmp .ge 42, 3) := by decide +kernel
theorem dX9_feed_62 : decode cX9_feed 62 = .ok (.aload_n 0, 1) := by decide +kernel
theorem dX9_feed_63 : decode cX9_feed 63 = .ok (.getfield 34, 3) := by decide +kernel
theorem dX9_feed_66 : decode cX9_feed 66 = .ok (.aload_n 0, 1) := by decide +kernel
theorem dX9_feed_67 : decode cX9_feed 67 = .ok (.getfield 125, 3) := by decide +kernel
theorem dX9_feed_70 : decode cX9_feed 70 = .ok (.iload 6, 2) := by decide +kernel
theorem dX9_feed_72 : decode cX9_feed 72 = .ok (.iadd, 1) := by decide +kernel
theorem dX9_feed_73 : decode cX9_feed 73 = .ok (.aload_n 0, 1) := by decide +kernel
theorem dX9_feed_74 : decode cX9_feed 74 = .ok (.getfield 37, 3) := by decide +kernel
theorem dX9_feed_77 : decode cX9_feed 77 = .ok (.iload 6, 2) := by decide +kernel
theorem dX9_feed_79 : decode cX9_feed 79 = .ok (.iconst 4, 1) := by decide +kernel
theorem dX9_feed_80 : decode cX9_feed 80 = .ok (.idiv, 1) := by decide +kernel
theorem dX9_feed_81 : decode cX9_feed 81 = .ok (.iaload, 1) := by decide +kernel
theorem dX9_feed_82 : decode cX9_feed 82 = .ok (.bipush 24, 2) := by decide +kernel
theorem dX9_feed_84 : decode cX9_feed 84 = .ok (.bipush 8, 2) := by decide +kernel
theorem dX9_feed_86 : decode cX9_feed 86 = .ok (.iload 6, 2) := by decide +kernel
theorem dX9_feed_88 : decode cX9_feed 88 = .ok (.iconst 4, 1) := by decide +kernel
theorem dX9_feed_89 : decode cX9_feed 89 = .ok (.irem, 1) := by decide +kernel
theorem dX9_feed_90 : decode cX9_feed 90 = .ok (.imul, 1) := by decide +kernel
theorem dX9_feed_91 : decode cX9_feed 91 = .ok (.isub, 1) := by decide +kernel
theorem dX9_feed_92 : decode cX9_feed 92 = .ok (.ishr, 1) := by decide +kernel
theorem dX9_feed_93 : decode cX9_feed 93 = .ok (.i2b, 1) := by decide +kernel
theorem dX9_feed_94 : decode cX9_feed 94 = .ok (.bastore, 1) := by decide +kernel
theorem dX9_feed_95 : decode cX9_feed 95 = .ok (.iinc 6 1, 3) := by decide +kernel
theorem dX9_feed_98 : decode cX9_feed 98 = .ok (.goto (-43), 3) := by decide +kernel
theorem dX9_feed_101 : decode cX9_feed 101 = .ok (.aload_n 0, 1) := by decide +kernel
theorem dX9_feed_102 : decode cX9_feed 102 = .ok (.dup, 1) := by decide +kernel
theorem dX9_feed_103 : decode cX9_feed 103 = .ok (.getfield 125, 3) := by decide +kernel
theorem dX9_feed_106 : decode cX9_feed 106 = .ok (.bipush 20, 2) := by decide +kernel
theorem dX9_feed_108 : decode cX9_feed 108 = .ok (.iadd, 1) := by decide +kernel
theorem dX9_feed_109 : decode cX9_feed 109 = .ok (.putfield 125, 3) := by decide +kernel
theorem dX9_feed_112 : decode cX9_feed 112 = .ok (.aload_n 0, 1) := by decide +kernel
theorem dX9_feed_113 : decode cX9_feed 113 = .ok (.getfield 125, 3) := by decide +kernel
theorem dX9_feed_116 : decode cX9_feed 116 = .ok (.ireturn, 1) := by decide +kernel
theorem dX9_end_0 : decode cX9_end 0 = .ok (.iload_n 1, 1) := by decide +kernel
theorem dX9_end_1 : decode cX9_end 1 = .ok (.iconst 0, 1) := by decide +kernel
theorem dX9_end_2 : decode cX9_end 2 = .ok (.aload_n 0, 1) := by decide +kernel
theorem dX9_end_3 : decode cX9_end 3 = .ok (.getfield 125, 3) := by decide +kernel
theorem dX9_end_6 : decode cX9_end 6 = .ok (.invokestatic 94, 3) := by decide +kernel
theorem dX9_end_9 : decode cX9_end 9 = .ok (.ifCond .ne 5, 3) := by decide +kernel
theorem dX9_end_12 : decode cX9_end 12 = .ok (.iconst (-1), 1) := by decide +kernel
theorem dX9_end_13 : decode cX9_end 13 = .ok (.ireturn, 1) := by decide +kernel
theorem dX9_end_14 : decode cX9_end 14 = .ok (.aload_n 0, 1) := by decide +kernel
theorem dX9_end_15 : decode cX9_end 15 = .ok (.iload_n 1, 1) := by decide +kernel
theorem dX9_end_16 : decode cX9_end 16 = .ok (.putfield 125, 3) := by decide +kernel
theorem dX9_end_19 : decode cX9_end 19 = .ok (.iload_n 1, 1) := by decide +kernel
theorem dX9_end_20 : decode cX9_end 20 = .ok (.ireturn, 1) := by decide +kernel
theorem dX9_isSmall_0 : decode cX9_isSmall 0 = .ok (.iload_n 0, 1) := by decide +kernel
theorem dX9_isSmall_1 : decode cX9_isSmall 1 = .ok (.bipush 97, 2) := by decide +kernel
theorem dX9_isSmall_3 : decode cX9_isSmall 3 = .ok (.if_icmp .lt 13, 3) := by decide +kernel
theorem dX9_isSmall_6 : decode cX9_isSmall 6 = .ok (.iload_n 0, 1) := by decide +kernel
theorem dX9_isSmall_7 : decode cX9_isSmall 7 = .ok (.bipush 122, 2) := by decide +kernel
theorem dX9_isSmall_9 : decode cX9_isSmall 9 = .ok (.if_icmp .gt 7, 3) := by decide +kernel
theorem dX9_isSmall_12 : decode cX9_isSmall 12 = .ok (.iconst 1, 1) := by decide +kernel
theorem dX9_isSmall_13 : decode cX9_isSmall 13 = .ok (.goto 4, 3) := by decide +kernel
theorem dX9_isSmall_16 : decode cX9_isSmall 16 = .ok (.iconst 0, 1) := by decide +kernel
theorem dX9_isSmall_17 : decode cX9_isSmall 17 = .ok (.ireturn, 1) := by decide +kernel
theorem dX9_isDigit_0 : decode cX9_isDigit 0 = .ok (.iload_n 0, 1) := by decide +kernel
theorem dX9_isDigit_1 : decode cX9_isDigit 1 = .ok (.bipush 48, 2) := by decide +kernel
theorem dX9_isDigit_3 : decode cX9_isDigit 3 = .ok (.if_icmp .lt 13, 3) := by decide +kernel
theorem dX9_isDigit_6 : decode cX9_isDigit 6 = .ok (.iload_n 0, 1) := by decide +kernel
theorem dX9_isDigit_7 : decode cX9_isDigit 7 = .ok (.bipush 57, 2) := by decide +kernel
theorem dX9_isDigit_9 : decode cX9_isDigit 9 = .ok (.if_icmp .gt 7, 3) := by decide +kernel
theorem dX9_isDigit_12 : decode cX9_isDigit 12 = .ok (.iconst 1, 1) := by decide +kernel
theorem dX9_isDigit_13 : decode cX9_isDigit 13 = .ok (.goto 4, 3) := by decide +kernel
theorem dX9_isDigit_16 : decode cX9_isDigit 16 = .ok (.iconst 0, 1) := by decide +kernel
theorem dX9_isDigit_17 : decode cX9_isDigit 17 = .ok (.ireturn, 1) := by decide +kernel
theorem dX9_wordOf_0 : decode cX9_wordOf 0 = .ok (.iconst 1, 1) := by decide +kernel
theorem dX9_wordOf_1 : decode cX9_wordOf 1 = .ok (.istore_n 3, 1) := by decide +kernel
theorem dX9_wordOf_2 : decode cX9_wordOf 2 = .ok (.iconst 0, 1) := by decide +kernel
theorem dX9_wordOf_3 : decode cX9_wordOf 3 = .ok (.istore 4, 2) := by decide +kernel
theorem dX9_wordOf_5 : decode cX9_wordOf 5 = .ok (.iload 4, 2) := by decide +kernel
theorem dX9_wordOf_7 : decode cX9_wordOf 7 = .ok (.aload_n 0, 1) := by decide +kernel
theorem dX9_wordOf_8 : decode cX9_wordOf 8 = .ok (.getfield 30, 3) := by decide +kernel
theorem dX9_wordOf_11 : decode cX9_wordOf 11 = .ok (.arraylength, 1) := by decide +kernel
theorem dX9_wordOf_12 : decode cX9_wordOf 12 = .ok (.if_icmp .ge 114, 3) := by decide +kernel
theorem dX9_wordOf_15 : decode cX9_wordOf 15 = .ok (.iconst 0, 1) := by decide +kernel
theorem dX9_wordOf_16 : decode cX9_wordOf 16 = .ok (.istore 5, 2) := by decide +kernel
theorem dX9_wordOf_18 : decode cX9_wordOf 18 = .ok (.aload_n 0, 1) := by decide +kernel
theorem dX9_wordOf_19 : decode cX9_wordOf 19 = .ok (.getfield 30, 3) := by decide +kernel
theorem dX9_wordOf_22 : decode cX9_wordOf 22 = .ok (.iload 4, 2) := by decide +kernel
theorem dX9_wordOf_24 : decode cX9_wordOf 24 = .ok (.iload 5, 2) := by decide +kernel
theorem dX9_wordOf_26 : decode cX9_wordOf 26 = .ok (.iadd, 1) := by decide +kernel
theorem dX9_wordOf_27 : decode cX9_wordOf 27 = .ok (.baload, 1) := by decide +kernel
theorem dX9_wordOf_28 : decode cX9_wordOf 28 = .ok (.bipush 32, 2) := by decide +kernel
theorem dX9_wordOf_30 : decode cX9_wordOf 30 = .ok (.if_icmp .eq 9, 3) := by decide +kernel
theorem dX9_wordOf_33 : decode cX9_wordOf 33 = .ok (.iinc 5 1, 3) := by decide +kernel
theorem dX9_wordOf_36 : decode cX9_wordOf 36 = .ok (.goto (-18), 3) := by decide +kernel
theorem dX9_wordOf_39 : decode cX9_wordOf 39 = .ok (.iload 5, 2) := by decide +kernel
theorem dX9_wordOf_41 : decode cX9_wordOf 41 = .ok (.iload_n 2, 1) := by decide +kernel
theorem dX9_wordOf_42 : decode cX9_wordOf 42 = .ok (.iload_n 1, 1) := by decide +kernel
theorem dX9_wordOf_43 : decode cX9_wordOf 43 = .ok (.isub, 1) := by decide +kernel
theorem dX9_wordOf_44 : decode cX9_wordOf 44 = .ok (.if_icmp .ne 7, 3) := by decide +kernel
theorem dX9_wordOf_47 : decode cX9_wordOf 47 = .ok (.iconst 1, 1) := by decide +kernel
theorem dX9_wordOf_48 : decode cX9_wordOf 48 = .ok (.goto 4, 3) := by decide +kernel
theorem dX9_wordOf_51 : decode cX9_wordOf 51 = .ok (.iconst 0, 1) := by decide +kernel
theorem dX9_wordOf_52 : decode cX9_wordOf 52 = .ok (.istore 6, 2) := by decide +kernel
theorem dX9_wordOf_54 : decode cX9_wordOf 54 = .ok (.iconst 0, 1) := by decide +kernel
theorem dX9_wordOf_55 : decode cX9_wordOf 55 = .ok (.istore 7, 2) := by decide +kernel
theorem dX9_wordOf_57 : decode cX9_wordOf 57 = .ok (.iload 7, 2) := by decide +kernel
theorem dX9_wordOf_59 : decode cX9_wordOf 59 = .ok (.iload 5, 2) := by decide +kernel
theorem dX9_wordOf_61 : decode cX9_wordOf 61 = .ok (.if_icmp .ge 43, 3) := by decide +kernel
theorem dX9_wordOf_64 : decode cX9_wordOf 64 = .ok (.iload 6, 2) := by decide +kernel
theorem dX9_wordOf_66 : decode cX9_wordOf 66 = .ok (.ifCond .eq 38, 3) := by decide +kernel
theorem dX9_wordOf_69 : decode cX9_wordOf 69 = .ok (.aload_n 0, 1) := by decide +kernel
theorem dX9_wordOf_70 : decode cX9_wordOf 70 = .ok (.getfield 30, 3) := by decide +kernel
theorem dX9_wordOf_73 : decode cX9_wordOf 73 = .ok (.iload 4, 2) := by decide +kernel
theorem dX9_wordOf_75 : decode cX9_wordOf 75 = .ok (.iload 7, 2) := by decide +kernel
theorem dX9_wordOf_77 : decode cX9_wordOf 77 = .ok (.iadd, 1) := by decide +kernel
theorem dX9_wordOf_78 : decode cX9_wordOf 78 = .ok (.baload, 1) := by decide +kernel
theorem dX9_wordOf_79 : decode cX9_wordOf 79 = .ok (.aload_n 0, 1) := by decide +kernel
theorem dX9_wordOf_80 : decode cX9_wordOf 80 = .ok (.getfield 34, 3) := by decide +kernel
theorem dX9_wordOf_83 : decode cX9_wordOf 83 = .ok (.iload_n 1, 1) := by decide +kernel
theorem dX9_wordOf_84 : decode cX9_wordOf 84 = .ok (.iload 7, 2) := by decide +kernel
theorem dX9_wordOf_86 : decode cX9_wordOf 86 = .ok (.iadd, 1) := by decide +kernel
theorem dX9_wordOf_87 : decode cX9_wordOf 87 = .ok (.baload, 1) := by decide +kernel
theorem dX9_wordOf_88 : decode cX9_wordOf 88 = .ok (.if_icmp .ne 7, 3) := by decide +kernel
theorem dX9_wordOf_91 : decode cX9_wordOf 91 = .ok (.iconst 1, 1) := by decide +kernel
theorem dX9_wordOf_92 : decode cX9_wordOf 92 = .ok (.goto 4, 3) := by decide +kernel
theorem dX9_wordOf_95 : decode cX9_wordOf 95 = .ok (.iconst 0, 1) := by decide +kernel
theorem dX9_wordOf_96 : decode cX9_wordOf 96 = .ok (.istore 6, 2) := by decide +kernel
theorem dX9_wordOf_98 : decode cX9_wordOf 98 = .ok (.iinc 7 1, 3) := by decide +kernel
theorem dX9_wordOf_101 : decode cX9_wordOf 101 = .ok (.goto (-44), 3) := by decide +kernel
theorem dX9_wordOf_104 : decode cX9_wordOf 104 = .ok (.iload 6, 2) := by decide +kernel
theorem dX9_wordOf_106 : decode cX9_wordOf 106 = .ok (.ifCond .eq 5, 3) := by decide +kernel
theorem dX9_wordOf_109 : decode cX9_wordOf 109 = .ok (.iload_n 3, 1) := by decide +kernel
theorem dX9_wordOf_110 : decode cX9_wordOf 110 = .ok (.ireturn, 1) := by decide +kernel
theorem dX9_wordOf_111 : decode cX9_wordOf 111 = .ok (.iload 4, 2) := by decide +kernel
theorem dX9_wordOf_113 : decode cX9_wordOf 113 = .ok (.iload 5, 2) := by decide +kernel
theorem dX9_wordOf_115 : decode cX9_wordOf 115 = .ok (.iconst 1, 1) := by decide +kernel
theorem dX9_wordOf_116 : decode cX9_wordOf 116 = .ok (.iadd, 1) := by decide +kernel
theorem dX9_wordOf_117 : decode cX9_wordOf 117 = .ok (.iadd, 1) := by decide +kernel
theorem dX9_wordOf_118 : decode cX9_wordOf 118 = .ok (.istore 4, 2) := by decide +kernel
theorem dX9_wordOf_120 : decode cX9_wordOf 120 = .ok (.iinc 3 1, 3) := by decide +kernel
theorem dX9_wordOf_123 : decode cX9_wordOf 123 = .ok (.goto (-118), 3) := by decide +kernel
theorem dX9_wordOf_126 : decode cX9_wordOf 126 = .ok (.iconst 0, 1) := by decide +kernel
theorem dX9_wordOf_127 : decode cX9_wordOf 127 = .ok (.ireturn, 1) := by decide +kernel
theorem dX9_splits_0 : decode cX9_splits 0 = .ok (.aload_n 0, 1) := by decide +kernel
theorem dX9_splits_1 : decode cX9_splits 1 = .ok (.iconst 0, 1) := by decide +kernel
theorem dX9_splits_2 : decode cX9_splits 2 = .ok (.putfield 134, 3) := by decide +kernel
theorem dX9_splits_5 : decode cX9_splits 5 = .ok (.iconst 0, 1) := by decide +kernel
theorem dX9_splits_6 : decode cX9_splits 6 = .ok (.istore_n 2, 1) := by decide +kernel
theorem dX9_splits_7 : decode cX9_splits 7 = .ok (.iload_n 2, 1) := by decide +kernel
theorem dX9_splits_8 : decode cX9_splits 8 = .ok (.iload_n 1, 1) := by decide +kernel
theorem dX9_splits_9 : decode cX9_splits 9 = .ok (.if_icmp .ge 254, 3) := by decide +kernel
theorem dX9_splits_12 : decode cX9_splits 12 = .ok (.aload_n 0, 1) := by decide +kernel
theorem dX9_splits_13 : decode cX9_splits 13 = .ok (.getfield 34, 3) := by decide +kernel
theorem dX9_splits_16 : decode cX9_splits 16 = .ok (.iload_n 2, 1) := by decide +kernel
theorem dX9_splits_17 : decode cX9_splits 17 = .ok (.baload, 1) := by decide +kernel
theorem dX9_splits_18 : decode cX9_splits 18 = .ok (.istore_n 3, 1) := by decide +kernel
theorem dX9_splits_19 : decode cX9_splits 19 = .ok (.iload_n 3, 1) := by decide +kernel
theorem dX9_splits_20 : decode cX9_splits 20 = .ok (.bipush 32, 2) := by decide +kernel
theorem dX9_splits_22 : decode cX9_splits 22 = .ok (.if_icmp .ne 9, 3) := by decide +kernel
theorem dX9_splits_25 : decode cX9_splits 25 = .ok (.iinc 2 1, 3) := by decide +kernel
theorem dX9_splits_28 : decode cX9_splits 28 = .ok (.goto (-21), 3) := by decide +kernel
theorem dX9_splits_31 : decode cX9_splits 31 = .ok (.iload_n 2, 1) := by decide +kernel
theorem dX9_splits_32 : decode cX9_splits 32 = .ok (.iconst 1, 1) := by decide +kernel
theorem dX9_splits_33 : decode cX9_splits 33 = .ok (.iadd, 1) := by decide +kernel
theorem dX9_splits_34 : decode cX9_splits 34 = .ok (.istore 4, 2) := by decide +kernel
theorem dX9_splits_36 : decode cX9_splits 36 = .ok (.iload_n 3, 1) := by decide +kernel
theorem dX9_splits_37 : decode cX9_splits 37 = .ok (.invokestatic 137, 3) := by decide +kernel
theorem dX9_splits_40 : decode cX9_splits 40 = .ok (.ifCond .eq 28, 3) := by decide +kernel
theorem dX9_splits_43 : decode cX9_splits 43 = .ok (.iload 4, 2) := by decide +kernel
theorem dX9_splits_45 : decode cX9_splits 45 = .ok (.iload_n 1, 1) := by decide +kernel
theorem dX9_splits_46 : decode cX9_splits 46 = .ok (.if_icmp .ge 22, 3) := by decide +kernel
theorem dX9_splits_49 : decode cX9_splits 49 = .ok (.aload_n 0, 1) := by decide +kernel
theorem dX9_splits_50 : decode cX9_splits 50 = .ok (.getfield 34, 3) := by decide +kernel
theorem dX9_splits_53 : decode cX9_splits 53 = .ok (.iload 4, 2) := by decide +kernel
theorem dX9_splits_55 : decode cX9_splits 55 = .ok (.baload, 1) := by decide +kernel
theorem dX9_splits_56 : decode cX9_splits 56 = .ok (.invokestatic 137, 3) := by decide +kernel
theorem dX9_splits_59 : decode cX9_splits 59 = .ok (.ifCond .eq 9, 3) := by decide +kernel
theorem dX9_splits_62 : decode cX9_splits 62 = .ok (.iinc 4 1, 3) := by decide +kernel
theorem dX9_splits_65 : decode cX9_splits 65 = .ok (.goto (-22), 3) := by decide +kernel
theorem dX9_splits_68 : decode cX9_splits 68 = .ok (.iload_n 3, 1) := by decide +kernel
theorem dX9_splits_69 : decode cX9_splits 69 = .ok (.invokestatic 140, 3) := by decide +kernel
theorem dX9_splits_72 : decode cX9_splits 72 = .ok (.ifCond .eq 28, 3) := by decide +kernel
theorem dX9_splits_75 : decode cX9_splits 75 = .ok (.iload 4, 2) := by decide +kernel
theorem dX9_splits_77 : decode cX9_splits 77 = .ok (.iload_n 1, 1) := by decide +kernel
theorem dX9_splits_78 : decode cX9_splits 78 = .ok (.if_icmp .ge 22, 3) := by decide +kernel
theorem dX9_splits_81 : decode cX9_splits 81 = .ok (.aload_n 0, 1) := by decide +kernel
theorem dX9_splits_82 : decode cX9_splits 82 = .ok (.getfield 34, 3) := by decide +kernel
theorem dX9_splits_85 : decode cX9_splits 85 = .ok (.iload 4, 2) := by decide +kernel
theorem dX9_splits_87 : decode cX9_splits 87 = .ok (.baload, 1) := by decide +kernel
theorem dX9_splits_88 : decode cX9_splits 88 = .ok (.invokestatic 140, 3) := by decide +kernel
theorem dX9_splits_91 : decode cX9_splits 91 = .ok (.ifCond .eq 9, 3) := by decide +kernel
theorem dX9_splits_94 : decode cX9_splits 94 = .ok (.iinc 4 1, 3) := by decide +kernel
theorem dX9_splits_97 : decode cX9_splits 97 = .ok (.goto (-22), 3) := by decide +kernel
theorem dX9_splits_100 : decode cX9_splits 100 = .ok (.aload_n 0, 1) := by decide +kernel
theorem dX9_splits_101 : decode cX9_splits 101 = .ok (.getfield 49, 3) := by decide +kernel
theorem dX9_splits_104 : decode cX9_splits 104 = .ok (.aload_n 0, 1) := by decide +kernel
theorem dX9_splits_105 : decode cX9_splits 105 = .ok (.getfield 134, 3) := by decide +kernel
theorem dX9_splits_108 : decode cX9_splits 108 = .ok (.iload_n 2, 1) := by decide +kernel
theorem dX9_splits_109 : decode cX9_splits 109 = .ok (.iastore, 1) := by decide +kernel
theorem dX9_splits_110 : decode cX9_splits 110 = .ok (.aload_n 0, 1) := by decide +kernel
theorem dX9_splits_111 : decode cX9_splits 111 = .ok (.getfield 46, 3) := by decide +kernel
theorem dX9_splits_114 : decode cX9_splits 114 = .ok (.aload_n 0, 1) := by decide +kernel
theorem dX9_splits_115 : decode cX9_splits 115 = .ok (.getfield 134, 3) := by decide +kernel
theorem dX9_splits_118 : decode cX9_splits 118 = .ok (.iconst 0, 1) := by decide +kernel
theorem dX9_splits_119 : decode cX9_splits 119 = .ok (.iastore, 1) := by decide +kernel
theorem dX9_splits_120 : decode cX9_splits 120 = .ok (.aload_n 0, 1) := by decide +kernel
theorem dX9_splits_121 : decode cX9_splits 121 = .ok (.getfield 43, 3) := by decide +kernel
theorem dX9_splits_124 : decode cX9_splits 124 = .ok (.aload_n 0, 1) := by decide +kernel
theorem dX9_splits_125 : decode cX9_splits 125 = .ok (.getfield 134, 3) := by decide +kernel
theorem dX9_splits_128 : decode cX9_splits 128 = .ok (.iload_n 3, 1) := by decide +kernel
theorem dX9_splits_129 : decode cX9_splits 129 = .ok (.invokestatic 137, 3) := by decide +kernel
theorem dX9_splits_132 : decode cX9_splits 132 = .ok (.ifCond .eq 13, 3) := by decide +kernel
theorem dX9_splits_135 : decode cX9_splits 135 = .ok (.aload_n 0, 1) := by decide +kernel
theorem dX9_splits_136 : decode cX9_splits 136 = .ok (.iload_n 2, 1) := by decide +kernel
theorem dX9_splits_137 : decode cX9_splits 137 = .ok (.iload 4, 2) := by decide +kernel
theorem dX9_splits_139 : decode cX9_splits 139 = .ok (.invokevirtual 143, 3) := by decide +kernel
theorem dX9_splits_142 : decode cX9_splits 142 = .ok (.goto 23, 3) := by decide +kernel
theorem dX9_splits_145 : decode cX9_splits 145 = .ok (.iload_n 3, 1) := by decide +kernel
theorem dX9_splits_146 : decode cX9_splits 146 = .ok (.invokestatic 140, 3) := by decide +kernel
theorem dX9_splits_149 : decode cX9_splits 149 = .ok (.ifCond .eq 8, 3) := by decide +kernel
theorem dX9_splits_152 : decode cX9_splits 152 = .ok (.bipush 50, 2) := by decide +kernel
theorem dX9_splits_154 : decode cX9_splits 154 = .ok (.goto 11, 3) := by decide +kernel
theorem dX9_splits_157 : decode cX9_splits 157 = .ok (.bipush 100, 2) := by decide +kernel
theorem dX9_splits_159 : decode cX9_splits 159 = .ok (.iload_n 3, 1) := by decide +kernel
theorem dX9_splits_160 : decode cX9_splits 160 = .ok (.sipush 255, 3) := by decide +kernel
theorem dX9_splits_163 : decode cX9_splits 163 = .ok (.iand, 1) := by decide +kernel
theorem dX9_splits_164 : decode cX9_splits 164 = .ok (.iadd, 1) := by decide +kernel
theorem dX9_splits_165 : decode cX9_splits 165 = .ok (.iastore, 1) := by decide +kernel
theorem dX9_splits_166 : decode cX9_splits 166 = .ok (.iload_n 2, 1) := by decide +kernel
theorem dX9_splits_167 : decode cX9_splits 167 = .ok (.istore 5, 2) := by decide +kernel
theorem dX9_splits_169 : decode cX9_splits 169 = .ok (.iload 5, 2) := by decide +kernel
theorem dX9_splits_171 : decode cX9_splits 171 = .ok (.iload 4, 2) := by decide +kernel
theorem dX9_splits_173 : decode cX9_splits 173 = .ok (.if_icmp .ge 74, 3) := by decide +kernel
theorem dX9_splits_176 : decode cX9_splits 176 = .ok (.iload_n 3, 1) := by decide +kernel
theorem dX9_splits_177 : decode cX9_splits 177 = .ok (.invokestatic 140, 3) := by decide +kernel
theorem dX9_splits_180 : decode cX9_splits 180 = .ok (.ifCond .eq 67, 3) := by decide +kernel
theorem dX9_splits_183 : decode cX9_splits 183 = .ok (.aload_n 0, 1) := by decide +kernel
theorem dX9_splits_184 : decode cX9_splits 184 = .ok (.getfield 46, 3) := by decide +kernel
theorem dX9_splits_187 : decode cX9_splits 187 = .ok (.aload_n 0, 1) := by decide +kernel
theorem dX9_splits_188 : decode cX9_splits 188 = .ok (.getfield 134, 3) := by decide +kernel
theorem dX9_splits_191 : decode cX9_splits 191 = .ok (.aload_n 0, 1) := by decide +kernel
theorem dX9_splits_192 : decode cX9_splits 192 = .ok (.getfield 46, 3) := by decide +kernel
theorem dX9_splits_195 : decode cX9_splits 195 = .ok (.aload_n 0, 1) := by decide +kernel
