theorem dX10_init_45 : decode cX10_init 45 = .ok (.bipush 40, 2) := by decide +kernel
theorem dX10_init_47 : decode cX10_init 47 = .ok (.newarray .int, 2) := by decide +kernel
theorem dX10_init_49 : decode cX10_init 49 = .ok (.putfield 25, 3) := by decide +kernel
theorem dX10_init_52 : decode cX10_init 52 = .ok (.aload_n 0, 1) := by decide +kernel
theorem dX10_init_53 : decode cX10_init 53 = .ok (.bipush 10, 2) := by decide +kernel
theorem dX10_init_55 : decode cX10_init 55 = .ok (.newarray .int, 2) := by decide +kernel
theorem dX10_init_57 : decode cX10_init 57 = .ok (.putfield 28, 3) := by decide +kernel
theorem dX10_init_60 : decode cX10_init 60 = .ok (.aload_n 0, 1) := by decide +kernel
theorem dX10_init_61 : decode cX10_init 61 = .ok (.bipush 40, 2) := by decide +kernel
theorem dX10_init_63 : decode cX10_init 63 = .ok (.newarray .int, 2) := by decide +kernel
theorem dX10_init_65 : decode cX10_init 65 = .ok (.putfield 31, 3) := by decide +kernel
theorem dX10_init_68 : decode cX10_init 68 = .ok (.aload_n 0, 1) := by decide +kernel
theorem dX10_init_69 : decode cX10_init 69 = .ok (.sipush 3200, 3) := by decide +kernel
theorem dX10_init_72 : decode cX10_init 72 = .ok (.newarray .int, 2) := by decide +kernel
theorem dX10_init_74 : decode cX10_init 74 = .ok (.putfield 34, 3) := by decide +kernel
theorem dX10_init_77 : decode cX10_init 77 = .ok (.aload_n 0, 1) := by decide +kernel
theorem dX10_init_78 : decode cX10_init 78 = .ok (.sipush 3200, 3) := by decide +kernel
theorem dX10_init_81 : decode cX10_init 81 = .ok (.newarray .int, 2) := by decide +kernel
theorem dX10_init_83 : decode cX10_init 83 = .ok (.putfield 37, 3) := by decide +kernel
theorem dX10_init_86 : decode cX10_init 86 = .ok (.aload_n 0, 1) := by decide +kernel
theorem dX10_init_87 : decode cX10_init 87 = .ok (.sipush 3200, 3) := by decide +kernel
theorem dX10_init_90 : decode cX10_init 90 = .ok (.newarray .int, 2) := by decide +kernel
theorem dX10_init_92 : decode cX10_init 92 = .ok (.putfield 40, 3) := by decide +kernel
theorem dX10_init_95 : decode cX10_init 95 = .ok (.aload_n 0, 1) := by decide +kernel
theorem dX10_init_96 : decode cX10_init 96 = .ok (.sipush 3200, 3) := by decide +kernel
theorem dX10_init_99 : decode cX10_init 99 = .ok (.newarray .int, 2) := by decide +kernel
theorem dX10_init_101 : decode cX10_init 101 = .ok (.putfield 43, 3) := by decide +kernel
theorem dX10_init_104 : decode cX10_init 104 = .ok (.aload_n 0, 1) := by decide +kernel
theorem dX10_init_105 : decode cX10_init 105 = .ok (.bipush 40, 2) := by decide +kernel
theorem dX10_init_107 : decode cX10_init 107 = .ok (.newarray .int, 2) := by decide +kernel
theorem dX10_init_109 : decode cX10_init 109 = .ok (.putfield 46, 3) := by decide +kernel
theorem dX10_init_112 : decode cX10_init 112 = .ok (.aload_n 0, 1) := by decide +kernel
theorem dX10_init_113 : decode cX10_init 113 = .ok (.sipush 3200, 3) := by decide +kernel
theorem dX10_init_116 : decode cX10_init 116 = .ok (.newarray .boolean, 2) := by decide +kernel
theorem dX10_init_118 : decode cX10_init 118 = .ok (.putfield 49, 3) := by decide +kernel
theorem dX10_init_121 : decode cX10_init 121 = .ok (.aload_n 0, 1) := by decide +kernel
theorem dX10_init_122 : decode cX10_init 122 = .ok (.ldc 53, 2) := by decide +kernel
theorem dX10_init_124 : decode cX10_init 124 = .ok (.newarray .int, 2) := by decide +kernel
theorem dX10_init_126 : decode cX10_init 126 = .ok (.putfield 54, 3) := by decide +kernel
theorem dX10_init_129 : decode cX10_init 129 = .ok (.aload_n 0, 1) := by decide +kernel
theorem dX10_init_130 : decode cX10_init 130 = .ok (.sipush 301, 3) := by decide +kernel
theorem dX10_init_133 : decode cX10_init 133 = .ok (.newarray .int, 2) := by decide +kernel
theorem dX10_init_135 : decode cX10_init 135 = .ok (.putfield 57, 3) := by decide +kernel
theorem dX10_init_138 : decode cX10_init 138 = .ok (.aload_n 0, 1) := by decide +kernel
theorem dX10_init_139 : decode cX10_init 139 = .ok (.sipush 301, 3) := by decide +kernel
theorem dX10_init_142 : decode cX10_init 142 = .ok (.newarray .int, 2) := by decide +kernel
theorem dX10_init_144 : decode cX10_init 144 = .ok (.putfield 60, 3) := by decide +kernel
theorem dX10_init_147 : decode cX10_init 147 = .ok (.aload_n 0, 1) := by decide +kernel
theorem dX10_init_148 : decode cX10_init 148 = .ok (.iload_n 1, 1) := by decide +kernel
theorem dX10_init_149 : decode cX10_init 149 = .ok (.ifCond .ge 7, 3) := by decide +kernel
theorem dX10_init_152 : decode cX10_init 152 = .ok (.iconst 0, 1) := by decide +kernel
theorem dX10_init_153 : decode cX10_init 153 = .ok (.goto 13, 3) := by decide +kernel
theorem dX10_init_156 : decode cX10_init 156 = .ok (.iload_n 1, 1) := by decide +kernel
theorem dX10_init_157 : decode cX10_init 157 = .ok (.iconst 4, 1) := by decide +kernel
theorem dX10_init_158 : decode cX10_init 158 = .ok (.if_icmp .le 7, 3) := by decide +kernel
theorem dX10_init_161 : decode cX10_init 161 = .ok (.iconst 4, 1) := by decide +kernel
theorem dX10_init_162 : decode cX10_init 162 = .ok (.goto 4, 3) := by decide +kernel
theorem dX10_init_165 : decode cX10_init 165 = .ok (.iload_n 1, 1) := by decide +kernel
theorem dX10_init_166 : decode cX10_init 166 = .ok (.putfield 63, 3) := by decide +kernel
theorem dX10_init_169 : decode cX10_init 169 = .ok (.aload_n 0, 1) := by decide +kernel
theorem dX10_init_170 : decode cX10_init 170 = .ok (.getfield 28, 3) := by decide +kernel
theorem dX10_init_173 : decode cX10_init 173 = .ok (.iconst 0, 1) := by decide +kernel
theorem dX10_init_174 : decode cX10_init 174 = .ok (.bipush 10, 2) := by decide +kernel
theorem dX10_init_176 : decode cX10_init 176 = .ok (.iastore, 1) := by decide +kernel
theorem dX10_init_177 : decode cX10_init 177 = .ok (.aload_n 0, 1) := by decide +kernel
theorem dX10_init_178 : decode cX10_init 178 = .ok (.getfield 28, 3) := by decide +kernel
theorem dX10_init_181 : decode cX10_init 181 = .ok (.iconst 1, 1) := by decide +kernel
theorem dX10_init_182 : decode cX10_init 182 = .ok (.sipush 400, 3) := by decide +kernel
theorem dX10_init_185 : decode cX10_init 185 = .ok (.iastore, 1) := by decide +kernel
theorem dX10_init_186 : decode cX10_init 186 = .ok (.aload_n 0, 1) := by decide +kernel
theorem dX10_init_187 : decode cX10_init 187 = .ok (.getfield 28, 3) := by decide +kernel
theorem dX10_init_190 : decode cX10_init 190 = .ok (.iconst 2, 1) := by decide +kernel
theorem dX10_init_191 : decode cX10_init 191 = .ok (.bipush 30, 2) := by decide +kernel
theorem dX10_init_193 : decode cX10_init 193 = .ok (.iastore, 1) := by decide +kernel
theorem dX10_init_194 : decode cX10_init 194 = .ok (.aload_n 0, 1) := by decide +kernel
theorem dX10_init_195 : decode cX10_init 195 = .ok (.getfield 28, 3) := by decide +kernel
theorem dX10_init_198 : decode cX10_init 198 = .ok (.iconst 4, 1) := by decide +kernel
theorem dX10_init_199 : decode cX10_init 199 = .ok (.bipush 127, 2) := by decide +kernel
theorem dX10_init_201 : decode cX10_init 201 = .ok (.iastore, 1) := by decide +kernel
theorem dX10_init_202 : decode cX10_init 202 = .ok (.aload_n 0, 1) := by decide +kernel
theorem dX10_init_203 : decode cX10_init 203 = .ok (.getfield 28, 3) := by decide +kernel
theorem dX10_init_206 : decode cX10_init 206 = .ok (.iconst 5, 1) := by decide +kernel
theorem dX10_init_207 : decode cX10_init 207 = .ok (.bipush 34, 2) := by decide +kernel
theorem dX10_init_209 : decode cX10_init 209 = .ok (.iastore, 1) := by decide +kernel
theorem dX10_init_210 : decode cX10_init 210 = .ok (.iconst 0, 1) := by decide +kernel
theorem dX10_init_211 : decode cX10_init 211 = .ok (.istore_n 2, 1) := by decide +kernel
theorem dX10_init_212 : decode cX10_init 212 = .ok (.iload_n 2, 1) := by decide +kernel
theorem dX10_init_213 : decode cX10_init 213 = .ok (.iconst 4, 1) := by decide +kernel
theorem dX10_init_214 : decode cX10_init 214 = .ok (.if_icmp .ge 25, 3) := by decide +kernel
theorem dX10_init_217 : decode cX10_init 217 = .ok (.aload_n 0, 1) := by decide +kernel
theorem dX10_init_218 : decode cX10_init 218 = .ok (.getfield 28, 3) := by decide +kernel
theorem dX10_init_221 : decode cX10_init 221 = .ok (.bipush 6, 2) := by decide +kernel
theorem dX10_init_223 : decode cX10_init 223 = .ok (.iload_n 2, 1) := by decide +kernel
theorem dX10_init_224 : decode cX10_init 224 = .ok (.iadd, 1) := by decide +kernel
theorem dX10_init_225 : decode cX10_init 225 = .ok (.bipush 55, 2) := by decide +kernel
theorem dX10_init_227 : decode cX10_init 227 = .ok (.bipush 7, 2) := by decide +kernel
theorem dX10_init_229 : decode cX10_init 229 = .ok (.iload_n 2, 1) := by decide +kernel
theorem dX10_init_230 : decode cX10_init 230 = .ok (.imul, 1) := by decide +kernel
theorem dX10_init_231 : decode cX10_init 231 = .ok (.iadd, 1) := by decide +kernel
theorem dX10_init_232 : decode cX10_init 232 = .ok (.iastore, 1) := by decide +kernel
theorem dX10_init_233 : decode cX10_init 233 = .ok (.iinc 2 1, 3) := by decide +kernel
theorem dX10_init_236 : decode cX10_init 236 = .ok (.goto (-24), 3) := by decide +kernel
theorem dX10_init_239 : decode cX10_init 239 = .ok (.return_, 1) := by decide +kernel
theorem dX10_in_0 : decode cX10_in 0 = .ok (.iload_n 0, 1) := by decide +kernel
theorem dX10_in_1 : decode cX10_in 1 = .ok (.iload_n 1, 1) := by decide +kernel
theorem dX10_in_2 : decode cX10_in 2 = .ok (.if_icmp .lt 12, 3) := by decide +kernel
theorem dX10_in_5 : decode cX10_in 5 = .ok (.iload_n 0, 1) := by decide +kernel
theorem dX10_in_6 : decode cX10_in 6 = .ok (.iload_n 2, 1) := by decide +kernel
theorem dX10_in_7 : decode cX10_in 7 = .ok (.if_icmp .gt 7, 3) := by decide +kernel
theorem dX10_in_10 : decode cX10_in 10 = .ok (.iconst 1, 1) := by decide +kernel
theorem dX10_in_11 : decode cX10_in 11 = .ok (.goto 4, 3) := by decide +kernel
theorem dX10_in_14 : decode cX10_in 14 = .ok (.iconst 0, 1) := by decide +kernel
theorem dX10_in_15 : decode cX10_in 15 = .ok (.ireturn, 1) := by decide +kernel
theorem dX10_far_0 : decode cX10_far 0 = .ok (.iload_n 0, 1) := by decide +kernel
theorem dX10_far_1 : decode cX10_far 1 = .ok (.iload_n 1, 1) := by decide +kernel
theorem dX10_far_2 : decode cX10_far 2 = .ok (.if_icmp .le 9, 3) := by decide +kernel
theorem dX10_far_5 : decode cX10_far 5 = .ok (.iload_n 0, 1) := by decide +kernel
theorem dX10_far_6 : decode cX10_far 6 = .ok (.iload_n 1, 1) := by decide +kernel
theorem dX10_far_7 : decode cX10_far 7 = .ok (.isub, 1) := by decide +kernel
theorem dX10_far_8 : decode cX10_far 8 = .ok (.goto 6, 3) := by decide +kernel
theorem dX10_far_11 : decode cX10_far 11 = .ok (.iload_n 1, 1) := by decide +kernel
theorem dX10_far_12 : decode cX10_far 12 = .ok (.iload_n 0, 1) := by decide +kernel
theorem dX10_far_13 : decode cX10_far 13 = .ok (.isub, 1) := by decide +kernel
theorem dX10_far_14 : decode cX10_far 14 = .ok (.ireturn, 1) := by decide +kernel
theorem dX10_before_0 : decode cX10_before 0 = .ok (.iload_n 1, 1) := by decide +kernel
theorem dX10_before_1 : decode cX10_before 1 = .ok (.iconst 1, 1) := by decide +kernel
theorem dX10_before_2 : decode cX10_before 2 = .ok (.isub, 1) := by decide +kernel
theorem dX10_before_3 : decode cX10_before 3 = .ok (.istore_n 3, 1) := by decide +kernel
theorem dX10_before_4 : decode cX10_before 4 = .ok (.iload_n 3, 1) := by decide +kernel
theorem dX10_before_5 : decode cX10_before 5 = .ok (.ifCond .lt 19, 3) := by decide +kernel
theorem dX10_before_8 : decode cX10_before 8 = .ok (.aload_n 0, 1) := by decide +kernel
theorem dX10_before_9 : decode cX10_before 9 = .ok (.getfield 7, 3) := by decide +kernel
theorem dX10_before_12 : decode cX10_before 12 = .ok (.iload_n 3, 1) := by decide +kernel
theorem dX10_before_13 : decode cX10_before 13 = .ok (.iaload, 1) := by decide +kernel
theorem dX10_before_14 : decode cX10_before 14 = .ok (.iload_n 2, 1) := by decide +kernel
theorem dX10_before_15 : decode cX10_before 15 = .ok (.if_icmp .eq 9, 3) := by decide +kernel
theorem dX10_before_18 : decode cX10_before 18 = .ok (.iinc 3 (-1), 3) := by decide +kernel
theorem dX10_before_21 : decode cX10_before 21 = .ok (.goto (-17), 3) := by decide +kernel
theorem dX10_before_24 : decode cX10_before 24 = .ok (.iload_n 3, 1) := by decide +kernel
theorem dX10_before_25 : decode cX10_before 25 = .ok (.ifCond .ge 8, 3) := by decide +kernel
theorem dX10_before_28 : decode cX10_before 28 = .ok (.bipush (-2), 2) := by decide +kernel
theorem dX10_before_30 : decode cX10_before 30 = .ok (.goto 4, 3) := by decide +kernel
theorem dX10_before_33 : decode cX10_before 33 = .ok (.iload_n 3, 1) := by decide +kernel
theorem dX10_before_34 : decode cX10_before 34 = .ok (.ireturn, 1) := by decide +kernel
theorem dX10_after_0 : decode cX10_after 0 = .ok (.iload_n 1, 1) := by decide +kernel
theorem dX10_after_1 : decode cX10_after 1 = .ok (.iconst 1, 1) := by decide +kernel
theorem dX10_after_2 : decode cX10_after 2 = .ok (.iadd, 1) := by decide +kernel
theorem dX10_after_3 : decode cX10_after 3 = .ok (.istore_n 2, 1) := by decide +kernel
theorem dX10_after_4 : decode cX10_after 4 = .ok (.iload_n 2, 1) := by decide +kernel
theorem dX10_after_5 : decode cX10_after 5 = .ok (.aload_n 0, 1) := by decide +kernel
theorem dX10_after_6 : decode cX10_after 6 = .ok (.getfield 67, 3) := by decide +kernel
theorem dX10_after_9 : decode cX10_after 9 = .ok (.if_icmp .ge 24, 3) := by decide +kernel
theorem dX10_after_12 : decode cX10_after 12 = .ok (.aload_n 0, 1) := by decide +kernel
theorem dX10_after_13 : decode cX10_after 13 = .ok (.getfield 7, 3) := by decide +kernel
theorem dX10_after_16 : decode cX10_after 16 = .ok (.iload_n 2, 1) := by decide +kernel
theorem dX10_after_17 : decode cX10_after 17 = .ok (.iaload, 1) := by decide +kernel
theorem dX10_after_18 : decode cX10_after 18 = .ok (.aload_n 0, 1) := by decide +kernel
theorem dX10_after_19 : decode cX10_after 19 = .ok (.getfield 7, 3) := by decide +kernel
theorem dX10_after_22 : decode cX10_after 22 = .ok (.iload_n 1, 1) := by decide +kernel
theorem dX10_after_23 : decode cX10_after 23 = .ok (.iaload, 1) := by decide +kernel
theorem dX10_after_24 : decode cX10_after 24 = .ok (.if_icmp .eq 9, 3) := by decide +kernel
theorem dX10_after_27 : decode cX10_after 27 = .ok (.iinc 2 1, 3) := by decide +kernel
theorem dX10_after_30 : decode cX10_after 30 = .ok (.goto (-26), 3) := by decide +kernel
theorem dX10_after_33 : decode cX10_after 33 = .ok (.iload_n 2, 1) := by decide +kernel
theorem dX10_after_34 : decode cX10_after 34 = .ok (.aload_n 0, 1) := by decide +kernel
theorem dX10_after_35 : decode cX10_after 35 = .ok (.getfield 67, 3) := by decide +kernel
theorem dX10_after_38 : decode cX10_after 38 = .ok (.if_icmp .ge 7, 3) := by decide +kernel
theorem dX10_after_41 : decode cX10_after 41 = .ok (.iload_n 2, 1) := by decide +kernel
theorem dX10_after_42 : decode cX10_after 42 = .ok (.goto 5, 3) := by decide +kernel
theorem dX10_after_45 : decode cX10_after 45 = .ok (.bipush (-2), 2) := by decide +kernel
theorem dX10_after_47 : decode cX10_after 47 = .ok (.ireturn, 1) := by decide +kernel
theorem dX10_isWell_0 : decode cX10_isWell 0 = .ok (.iload_n 1, 1) := by decide +kernel
theorem dX10_isWell_1 : decode cX10_isWell 1 = .ok (.iconst 0, 1) := by decide +kernel
theorem dX10_isWell_2 : decode cX10_isWell 2 = .ok (.aload_n 0, 1) := by decide +kernel
theorem dX10_isWell_3 : decode cX10_isWell 3 = .ok (.getfield 63, 3) := by decide +kernel
theorem dX10_isWell_6 : decode cX10_isWell 6 = .ok (.ifCond .ne 7, 3) := by decide +kernel
theorem dX10_isWell_9 : decode cX10_isWell 9 = .ok (.iconst 1, 1) := by decide +kernel
theorem dX10_isWell_10 : decode cX10_isWell 10 = .ok (.goto 4, 3) := by decide +kernel
theorem dX10_isWell_13 : decode cX10_isWell 13 = .ok (.iconst 0, 1) := by decide +kernel
theorem dX10_isWell_14 : decode cX10_isWell 14 = .ok (.invokestatic 70, 3) := by decide +kernel
theorem dX10_isWell_17 : decode cX10_isWell 17 = .ok (.ifCond .eq 35, 3) := by decide +kernel
theorem dX10_isWell_20 : decode cX10_isWell 20 = .ok (.iload_n 2, 1) := by decide +kernel
theorem dX10_isWell_21 : decode cX10_isWell 21 = .ok (.iconst 0, 1) := by decide +kernel
theorem dX10_isWell_22 : decode cX10_isWell 22 = .ok (.ldc 74, 2) := by decide +kernel
theorem dX10_isWell_24 : decode cX10_isWell 24 = .ok (.invokestatic 70, 3) := by decide +kernel
theorem dX10_isWell_27 : decode cX10_isWell 27 = .ok (.ifCond .eq 25, 3) := by decide +kernel
theorem dX10_isWell_30 : decode cX10_isWell 30 = .ok (.iload_n 3, 1) := by decide +kernel
theorem dX10_isWell_31 : decode cX10_isWell 31 = .ok (.iconst 1, 1) := by decide +kernel
theorem dX10_isWell_32 : decode cX10_isWell 32 = .ok (.sipush 1000, 3) := by decide +kernel
theorem dX10_isWell_35 : decode cX10_isWell 35 = .ok (.invokestatic 70, 3) := by decide +kernel
theorem dX10_isWell_38 : decode cX10_isWell 38 = .ok (.ifCond .eq 14, 3) := by decide +kernel
theorem dX10_isWell_41 : decode cX10_isWell 41 = .ok (.iload 4, 2) := by decide +kernel
theorem dX10_isWell_43 : decode cX10_isWell 43 = .ok (.iconst 0, 1) := by decide +kernel
theorem dX10_isWell_44 : decode cX10_isWell 44 = .ok (.bipush 127, 2) := by decide +kernel
theorem dX10_isWell_46 : decode cX10_isWell 46 = .ok (.invokestatic 70, 3) := by decide +kernel
theorem dX10_isWell_49 : decode cX10_isWell 49 = .ok (.ifCond .ne 5, 3) := by decide +kernel
theorem dX10_isWell_52 : decode cX10_isWell 52 = .ok (.iconst 0, 1) := by decide +kernel
theorem dX10_isWell_53 : decode cX10_isWell 53 = .ok (.ireturn, 1) := by decide +kernel
theorem dX10_isWell_54 : decode cX10_isWell 54 = .ok (.iload 5, 2) := by decide +kernel
theorem dX10_isWell_56 : decode cX10_isWell 56 = .ok (.iconst (-1), 1) := by decide +kernel
theorem dX10_isWell_57 : decode cX10_isWell 57 = .ok (.if_icmp .ne 15, 3) := by decide +kernel
theorem dX10_isWell_60 : decode cX10_isWell 60 = .ok (.iload 6, 2) := by decide +kernel
theorem dX10_isWell_62 : decode cX10_isWell 62 = .ok (.iconst (-1), 1) := by decide +kernel
theorem dX10_isWell_63 : decode cX10_isWell 63 = .ok (.if_icmp .ne 7, 3) := by decide +kernel
theorem dX10_isWell_66 : decode cX10_isWell 66 = .ok (.iconst 1, 1) := by decide +kernel
theorem dX10_isWell_67 : decode cX10_isWell 67 = .ok (.goto 4, 3) := by decide +kernel
theorem dX10_isWell_70 : decode cX10_isWell 70 = .ok (.iconst 0, 1) := by decide +kernel
theorem dX10_isWell_71 : decode cX10_isWell 71 = .ok (.ireturn, 1) := by decide +kernel
theorem dX10_isWell_72 : decode cX10_isWell 72 = .ok (.aload_n 0, 1) := by decide +kernel
theorem dX10_isWell_73 : decode cX10_isWell 73 = .ok (.getfield 63, 3) := by decide +kernel
theorem dX10_isWell_76 : decode cX10_isWell 76 = .ok (.iconst 2, 1) := by decide +kernel
theorem dX10_isWell_77 : decode cX10_isWell 77 = .ok (.if_icmp .eq 25, 3) := by decide +kernel
theorem dX10_isWell_80 : decode cX10_isWell 80 = .ok (.aload_n 0, 1) := by decide +kernel
theorem dX10_isWell_81 : decode cX10_isWell 81 = .ok (.getfield 63, 3) := by decide +kernel
theorem dX10_isWell_84 : decode cX10_isWell 84 = .ok (.iconst 3, 1) := by decide +kernel
theorem dX10_isWell_85 : decode cX10_isWell 85 = .ok (.if_icmp .eq 17, 3) := by decide +kernel
theorem dX10_isWell_88 : decode cX10_isWell 88 = .ok (.iload 5, 2) := by decide +kernel
theorem dX10_isWell_90 : decode cX10_isWell 90 = .ok (.iload 4, 2) := by decide +kernel
theorem dX10_isWell_92 : decode cX10_isWell 92 = .ok (.iconst 1, 1) := by decide +kernel
theorem dX10_isWell_93 : decode cX10_isWell 93 = .ok (.iadd, 1) := by decide +kernel
theorem dX10_isWell_94 : decode cX10_isWell 94 = .ok (.bipush 127, 2) := by decide +kernel
theorem dX10_isWell_96 : decode cX10_isWell 96 = .ok (.invokestatic 70, 3) := by decide +kernel
theorem dX10_isWell_99 : decode cX10_isWell 99 = .ok (.ifCond .ne 5, 3) := by decide +kernel
theorem dX10_isWell_102 : decode cX10_isWell 102 = .ok (.iconst 0, 1) := by decide +kernel
theorem dX10_isWell_103 : decode cX10_isWell 103 = .ok (.ireturn, 1) := by decide +kernel
theorem dX10_isWell_104 : decode cX10_isWell 104 = .ok (.iload 6, 2) := by decide +kernel
theorem dX10_isWell_106 : decode cX10_isWell 106 = .ok (.iconst (-1), 1) := by decide +kernel
theorem dX10_isWell_107 : decode cX10_isWell 107 = .ok (.if_icmp .eq 25, 3) := by decide +kernel
theorem dX10_isWell_110 : decode cX10_isWell 110 = .ok (.aload_n 0, 1) := by decide +kernel
theorem dX10_isWell_111 : decode cX10_isWell 111 = .ok (.getfield 63, 3) := by decide +kernel
theorem dX10_isWell_114 : decode cX10_isWell 114 = .ok (.iconst 4, 1) := by decide +kernel
theorem dX10_isWell_115 : decode cX10_isWell 115 = .ok (.if_icmp .eq 21, 3) := by decide +kernel
theorem dX10_isWell_118 : decode cX10_isWell 118 = .ok (.iload 6, 2) := by decide +kernel
theorem dX10_isWell_120 : decode cX10_isWell 120 = .ok (.iload 5, 2) := by decide +kernel
theorem dX10_isWell_122 : decode cX10_isWell 122 = .ok (.iconst 1, 1) := by decide +kernel
theorem dX10_isWell_123 : decode cX10_isWell 123 = .ok (.iadd, 1) := by decide +kernel
theorem dX10_isWell_124 : decode cX10_isWell 124 = .ok (.bipush 127, 2) := by decide +kernel
theorem dX10_isWell_126 : decode cX10_isWell 126 = .ok (.invokestatic 70, 3) := by decide +kernel
theorem dX10_isWell_129 : decode cX10_isWell 129 = .ok (.ifCond .eq 7, 3) := by decide +kernel
theorem dX10_isWell_132 : decode cX10_isWell 132 = .ok (.iconst 1, 1) := by decide +kernel
theorem dX10_isWell_133 : decode cX10_isWell 133 = .ok (.goto 4, 3) := by decide +kernel
theorem dX10_isWell_136 : decode cX10_isWell 136 = .ok (.iconst 0, 1) := by decide +kernel
theorem dX10_isWell_137 : decode cX10_isWell 137 = .ok (.ireturn, 1) := by decide +kernel
theorem dX10_event_0 : decode cX10_event 0 = .ok (.aload_n 0, 1) := by decide +kernel
theorem dX10_event_1 : decode cX10_event 1 = .ok (.iload_n 1, 1) := by decide +kernel
theorem dX10_event_2 : decode cX10_event 2 = .ok (.iload_n 2, 1) := by decide +kernel
theorem dX10_event_3 : decode cX10_event 3 = .ok (.iload_n 3, 1) := by decide +kernel
theorem dX10_event_4 : decode cX10_event 4 = .ok (.iload 4, 2) := by decide +kernel
theorem dX10_event_6 : decode cX10_event 6 = .ok (.iload 5, 2) := by decide +kernel
theorem dX10_event_8 : decode cX10_event 8 = .ok (.iload 6, 2) := by decide +kernel
theorem dX10_event_10 : decode cX10_event 10 = .ok (.invokevirtual 75, 3) := by decide +kernel
theorem dX10_event_13 : decode cX10_event 13 = .ok (.ifCond .ne 5, 3) := by decide +kernel
theorem dX10_event_16 : decode cX10_event 16 = .ok (.iconst (-1), 1) := by decide +kernel
theorem dX10_event_17 : decode cX10_event 17 = .ok (.ireturn, 1) := by decide +kernel
theorem dX10_event_18 : decode cX10_event 18 = .ok (.aload_n 0, 1) := by decide +kernel
theorem dX10_event_19 : decode cX10_event 19 = .ok (.aload_n 0, 1) := by decide +kernel
theorem dX10_event_20 : decode cX10_event 20 = .ok (.getfield 67, 3) := by decide +kernel
theorem dX10_event_23 : decode cX10_event 23 = .ok (.iload_n 1, 1) := by decide +kernel
theorem dX10_event_24 : decode cX10_event 24 = .ok (.invokevirtual 79, 3) := by decide +kernel
theorem dX10_event_27 : decode cX10_event 27 = .ok (.istore 7, 2) := by decide +kernel
theorem dX10_event_29 : decode cX10_event 29 = .ok (.iload 7, 2) := by decide +kernel
theorem dX10_event_31 : decode cX10_event 31 = .ok (.ifCond .lt 53, 3) := by decide +kernel
theorem dX10_event_34 : decode cX10_event 34 = .ok (.iload_n 2, 1) := by decide +kernel
theorem dX10_event_35 : decode cX10_event 35 = .ok (.aload_n 0, 1) := by decide +kernel
theorem dX10_event_36 : decode cX10_event 36 = .ok (.getfield 13, 3) := by decide +kernel
theorem dX10_event_39 : decode cX10_event 39 = .ok (.iload 7, 2) := by decide +kernel
theorem dX10_event_41 : decode cX10_event 41 = .ok (.iaload, 1) := by decide +kernel
theorem dX10_event_42 : decode cX10_event 42 = .ok (.if_icmp .le 38, 3) := by decide +kernel
theorem dX10_event_45 : decode cX10_event 45 = .ok (.aload_n 0, 1) := by decide +kernel
theorem dX10_event_46 : decode cX10_event 46 = .ok (.getfield 63, 3) := by decide +kernel
theorem dX10_event_49 : decode cX10_event 49 = .ok (.iconst 2, 1) := by decide +kernel
theorem dX10_event_50 : decode cX10_event 50 = .ok (.if_icmp .eq 11, 3) := by decide +kernel
theorem dX10_event_53 : decode cX10_event 53 = .ok (.aload_n 0, 1) := by decide +kernel
theorem dX10_event_54 : decode cX10_event 54 = .ok (.getfield 63, 3) := by decide +kernel
theorem dX10_event_57 : decode cX10_event 57 = .ok (.iconst 3, 1) := by decide +kernel
theorem dX10_event_58 : decode cX10_event 58 = .ok (.if_icmp .ne 26, 3) := by decide +kernel
theorem dX10_event_61 : decode cX10_event 61 = .ok (.iload_n 2, 1) := by decide +kernel
theorem dX10_event_62 : decode cX10_event 62 = .ok (.aload_n 0, 1) := by decide +kernel
theorem dX10_event_63 : decode cX10_event 63 = .ok (.getfield 13, 3) := by decide +kernel
theorem dX10_event_66 : decode cX10_event 66 = .ok (.iload 7, 2) := by decide +kernel
theorem dX10_event_68 : decode cX10_event 68 = .ok (.iaload, 1) := by decide +kernel
theorem dX10_event_69 : decode cX10_event 69 = .ok (.aload_n 0, 1) := by decide +kernel
theorem dX10_event_70 : decode cX10_event 70 = .ok (.getfield 16, 3) := by decide +kernel
theorem dX10_event_73 : decode cX10_event 73 = .ok (.iload 7, 2) := by decide +kernel
theorem dX10_event_75 : decode cX10_event 75 = .ok (.iaload, 1) := by decide +kernel
theorem dX10_event_76 : decode cX10_event 76 = .ok (.iadd, 1) := by decide +kernel
theorem dX10_event_77 : decode cX10_event 77 = .ok (.if_icmp .ge 7, 3) := by decide +kernel
theorem dX10_event_80 : decode cX10_event 80 = .ok (.iconst 1, 1) := by decide +kernel
theorem dX10_event_81 : decode cX10_event 81 = .ok (.goto 4, 3) := by decide +kernel
theorem dX10_event_84 : decode cX10_event 84 = .ok (.iconst 0, 1) := by decide +kernel
theorem dX10_event_85 : decode cX10_event 85 = .ok (.istore 8, 2) := by decide +kernel
theorem dX10_event_87 : decode cX10_event 87 = .ok (.iload 8, 2) := by decide +kernel
theorem dX10_event_89 : decode cX10_event 89 = .ok (.ifCond .ne 25, 3) := by decide +kernel
theorem dX10_event_92 : decode cX10_event 92 = .ok (.aload_n 0, 1) := by decide +kernel
theorem dX10_event_93 : decode cX10_event 93 = .ok (.getfield 67, 3) := by decide +kernel
theorem dX10_event_96 : decode cX10_event 96 = .ok (.ifCond .le 21, 3) := by decide +kernel
theorem dX10_event_99 : decode cX10_event 99 = .ok (.iload_n 2, 1) := by decide +kernel
theorem dX10_event_100 : decode cX10_event 100 = .ok (.aload_n 0, 1) := by decide +kernel
theorem dX10_event_101 : decode cX10_event 101 = .ok (.getfield 13, 3) := by decide +kernel
theorem dX10_event_104 : decode cX10_event 104 = .ok (.aload_n 0, 1) := by decide +kernel
theorem dX10_event_105 : decode cX10_event 105 = .ok (.getfield 67, 3) := by decide +kernel
theorem dX10_event_108 : decode cX10_event 108 = .ok (.iconst 1, 1) := by decide +kernel
theorem dX10_event_109 : decode cX10_event 109 = .ok (.isub, 1) := by decide +kernel
theorem dX10_event_110 : decode cX10_event 110 = .ok (.iaload, 1) := by decide +kernel
theorem dX10_event_111 : decode cX10_event 111 = .ok (.if_icmp .ge 6, 3) := by decide +kernel
theorem dX10_event_114 : decode cX10_event 114 = .ok (.bipush (-3), 2) := by decide +kernel
theorem dX10_event_116 : decode cX10_event 116 = .ok (.ireturn, 1) := by decide +kernel
theorem dX10_event_117 : decode cX10_event 117 = .ok (.aload_n 0, 1) := by decide +kernel
theorem dX10_event_118 : decode cX10_event 118 = .ok (.getfield 67, 3) := by decide +kernel
theorem dX10_event_121 : decode cX10_event 121 = .ok (.bipush 40, 2) := by decide +kernel
theorem dX10_event_123 : decode cX10_event 123 = .ok (.if_icmp .ne 6, 3) := by decide +kernel
theorem dX10_event_126 : decode cX10_event 126 = .ok (.bipush (-4), 2) := by decide +kernel
theorem dX10_event_128 : decode cX10_event 128 = .ok (.ireturn, 1) := by decide +kernel
theorem dX10_event_129 : decode cX10_event 129 = .ok (.aload_n 0, 1) := by decide +kernel
theorem dX10_event_130 : decode cX10_event 130 = .ok (.dup, 1) := by decide +kernel
theorem dX10_event_131 : decode cX10_event 131 = .ok (.getfield 67, 3) := by decide +kernel
theorem dX10_event_134 : decode cX10_event 134 = .ok (.dup_x1, 1) := by decide +kernel
theorem dX10_event_135 : decode cX10_event 135 = .ok (.iconst 1, 1) := by decide +kernel
theorem dX10_event_136 : decode cX10_event 136 = .ok (.iadd, 1) := by decide +kernel
theorem dX10_event_137 : decode cX10_event 137 = .ok (.putfield 67, 3) := by decide +kernel
theorem dX10_event_140 : decode cX10_event 140 = .ok (.istore 9, 2) := by decide +kernel
theorem dX10_event_142 : decode cX10_event 142 = .ok (.aload_n 0, 1) := by decide +kernel
theorem dX10_event_143 : decode cX10_event 143 = .ok (.getfield 7, 3) := by decide +kernel
theorem dX10_event_146 : decode cX10_event 146 = .ok (.iload 9, 2) := by decide +kernel
theorem dX10_event_148 : decode cX10_event 148 = .ok (.iload_n 1, 1) := by decide +kernel
theorem dX10_event_149 : decode cX10_event 149 = .ok (.iastore, 1) := by decide +kernel
theorem dX10_event_150 : decode cX10_event 150 = .ok (.aload_n 0, 1) := by decide +kernel
theorem dX10_event_151 : decode cX10_event 151 = .ok (.getfield 13, 3) := by decide +kernel
theorem dX10_event_154 : decode cX10_event 154 = .ok (.iload 9, 2) := by decide +kernel
theorem dX10_event_156 : decode cX10_event 156 = .ok (.iload_n 2, 1) := by decide +kernel
theorem dX10_event_157 : decode cX10_event 157 = .ok (.iastore, 1) := by decide +kernel
theorem dX10_event_158 : decode cX10_event 158 = .ok (.aload_n 0, 1) := by decide +kernel
theorem dX10_event_159 : decode cX10_event 159 = .ok (.getfield 16, 3) := by decide +kernel
theorem dX10_event_162 : decode cX10_event 162 = .ok (.iload 9, 2) := by decide +kernel
theorem dX10_event_164 : decode cX10_event 164 = .ok (.iload_n 3, 1) := by decide +kernel
theorem dX10_event_165 : decode cX10_event 165 = .ok (.iastore, 1) := by decide +kernel
theorem dX10_event_166 : decode cX10_event 166 = .ok (.aload_n 0, 1) := by decide +kernel
theorem dX10_event_167 : decode cX10_event 167 = .ok (.getfield 19, 3) := by decide +kernel
theorem dX10_event_170 : decode cX10_event 170 = .ok (.iload 9, 2) := by decide +kernel
theorem dX10_event_172 : decode cX10_event 172 = .ok (.iload 5, 2) := by decide +kernel
theorem dX10_event_174 : decode cX10_event 174 = .ok (.ifCond .ge 7, 3) := by decide +kernel
theorem dX10_event_177 : decode cX10_event 177 = .ok (.iconst 1, 1) := by decide +kernel
theorem dX10_event_178 : decode cX10_event 178 = .ok (.goto 13, 3) := by decide +kernel
theorem dX10_event_181 : decode cX10_event 181 = .ok (.iload 6, 2) := by decide +kernel
theorem dX10_event_183 : decode cX10_event 183 = .ok (.ifCond .ge 7, 3) := by decide +kernel
theorem dX10_event_186 : decode cX10_event 186 = .ok (.iconst 2, 1) := by decide +kernel
theorem dX10_event_187 : decode cX10_event 187 = .ok (.goto 4, 3) := by decide +kernel
theorem dX10_event_190 : decode cX10_event 190 = .ok (.iconst 3, 1) := by decide +kernel
theorem dX10_event_191 : decode cX10_event 191 = .ok (.iastore, 1) := by decide +kernel
theorem dX10_event_192 : decode cX10_event 192 = .ok (.aload_n 0, 1) := by decide +kernel
theorem dX10_event_193 : decode cX10_event 193 = .ok (.getfield 22, 3) := by decide +kernel
theorem dX10_event_196 : decode cX10_event 196 = .ok (.iconst 3, 1) := by decide +kernel
theorem dX10_event_197 : decode cX10_event 197 = .ok (.iload 9, 2) := by decide +kernel
theorem dX10_event_199 : decode cX10_event 199 = .ok (.imul, 1) := by decide +kernel
theorem dX10_event_200 : decode cX10_event 200 = .ok (.iload 4, 2) := by decide +kernel
theorem dX10_event_202 : decode cX10_event 202 = .ok (.iastore, 1) := by decide +kernel
theorem dX10_event_203 : decode cX10_event 203 = .ok (.aload_n 0, 1) := by decide +kernel
theorem dX10_event_204 : decode cX10_event 204 = .ok (.getfield 22, 3) := by decide +kernel
theorem dX10_event_207 : decode cX10_event 207 = .ok (.iconst 3, 1) := by decide +kernel
theorem dX10_event_208 : decode cX10_event 208 = .ok (.iload 9, 2) := by decide +kernel
theorem dX10_event_210 : decode cX10_event 210 = .ok (.imul, 1) := by decide +kernel
theorem dX10_event_211 : decode cX10_event 211 = .ok (.iconst 1, 1) := by decide +kernel
theorem dX10_event_212 : decode cX10_event 212 = .ok (.iadd, 1) := by decide +kernel
theorem dX10_event_213 : decode cX10_event 213 = .ok (.iload 5, 2) := by decide +kernel
theorem dX10_event_215 : decode cX10_event 215 = .ok (.iastore, 1) := by decide +kernel
theorem dX10_event_216 : decode cX10_event 216 = .ok (.aload_n 0, 1) := by decide +kernel
theorem dX10_event_217 : decode cX10_event 217 = .ok (.getfield 22, 3) := by decide +kernel
theorem dX10_event_220 : decode cX10_event 220 = .ok (.iconst 3, 1) := by decide +kernel
theorem dX10_event_221 : decode cX10_event 221 = .ok (.iload 9, 2) := by decide +kernel
theorem dX10_event_223 : decode cX10_event 223 = .ok (.imul, 1) := by decide +kernel
theorem dX10_event_224 : decode cX10_event 224 = .ok (.iconst 2, 1) := by decide +kernel
theorem dX10_event_225 : decode cX10_event 225 = .ok (.iadd, 1) := by decide +kernel
theorem dX10_event_226 : decode cX10_event 226 = .ok (.iload 6, 2) := by decide +kernel
theorem dX10_event_228 : decode cX10_event 228 = .ok (.iastore, 1) := by decide +kernel
theorem dX10_event_229 : decode cX10_event 229 = .ok (.aload_n 0, 1) := by decide +kernel
theorem dX10_event_230 : decode cX10_event 230 = .ok (.getfield 25, 3) := by decide +kernel
theorem dX10_event_233 : decode cX10_event 233 = .ok (.iload 9, 2) := by decide +kernel
theorem dX10_event_235 : decode cX10_event 235 = .ok (.bipush (-2), 2) := by decide +kernel
theorem dX10_event_237 : decode cX10_event 237 = .ok (.iastore, 1) := by decide +kernel
theorem dX10_event_238 : decode cX10_event 238 = .ok (.aload_n 0, 1) := by decide +kernel
theorem dX10_event_239 : decode cX10_event 239 = .ok (.iconst 0, 1) := by decide +kernel
theorem dX10_event_240 : decode cX10_event 240 = .ok (.putfield 83, 3) := by decide +kernel
theorem dX10_event_243 : decode cX10_event 243 = .ok (.iload 9, 2) := by decide +kernel
theorem dX10_event_245 : decode cX10_event 245 = .ok (.ireturn, 1) := by decide +kernel
theorem dX10_drop_0 : decode cX10_drop 0 = .ok (.aload_n 0, 1) := by decide +kernel
theorem dX10_drop_1 : decode cX10_drop 1 = .ok (.getfield 67, 3) := by decide +kernel
theorem dX10_drop_4 : decode cX10_drop 4 = .ok (.ifCond .ne 6, 3) := by decide +kernel
theorem dX10_drop_7 : decode cX10_drop 7 = .ok (.bipush (-2), 2) := by decide +kernel
theorem dX10_drop_9 : decode cX10_drop 9 = .ok (.ireturn, 1) := by decide +kernel
theorem dX10_drop_10 : decode cX10_drop 10 = .ok (.aload_n 0, 1) := by decide +kernel
theorem dX10_drop_11 : decode cX10_drop 11 = .ok (.dup, 1) := by decide +kernel
theorem dX10_drop_12 : decode cX10_drop 12 = .ok (.getfield 67, 3) := by decide +kernel
theorem dX10_drop_15 : decode cX10_drop 15 = .ok (.iconst 1, 1) := by decide +kernel
theorem dX10_drop_16 : decode cX10_drop 16 = .ok (.isub, 1) := by decide +kernel
theorem dX10_drop_17 : decode cX10_drop 17 = .ok (.putfield 67, 3) := by decide +kernel
theorem dX10_drop_20 : decode cX10_drop 20 = .ok (.aload_n 0, 1) := by decide +kernel
theorem dX10_drop_21 : decode cX10_drop 21 = .ok (.iconst 0, 1) := by decide +kernel
theorem dX10_drop_22 : decode cX10_drop 22 = .ok (.putfield 83, 3) := by decide +kernel
theorem dX10_drop_25 : decode cX10_drop 25 = .ok (.aload_n 0, 1) := by decide +kernel
theorem dX10_drop_26 : decode cX10_drop 26 = .ok (.getfield 67, 3) := by decide +kernel
theorem dX10_drop_29 : decode cX10_drop 29 = .ok (.ireturn, 1) := by decide +kernel
theorem dX10_bound_0 : decode cX10_bound 0 = .ok (.iload_n 1, 1) := by decide +kernel
theorem dX10_bound_1 : decode cX10_bound 1 = .ok (.iconst 0, 1) := by decide +kernel
theorem dX10_bound_2 : decode cX10_bound 2 = .ok (.bipush 9, 2) := by decide +kernel
theorem dX10_bound_4 : decode cX10_bound 4 = .ok (.invokestatic 70, 3) := by decide +kernel
theorem dX10_bound_7 : decode cX10_bound 7 = .ok (.ifCond .ne 5, 3) := by decide +kernel
theorem dX10_bound_10 : decode cX10_bound 10 = .ok (.iconst (-1), 1) := by decide +kernel
theorem dX10_bound_11 : decode cX10_bound 11 = .ok (.ireturn, 1) := by decide +kernel
theorem dX10_bound_12 : decode cX10_bound 12 = .ok (.iload_n 1, 1) := by decide +kernel
theorem dX10_bound_13 : decode cX10_bound 13 = .ok (.iconst 1, 1) := by decide +kernel
theorem dX10_bound_14 : decode cX10_bound 14 = .ok (.if_icmp .ne 7, 3) := by decide +kernel
theorem dX10_bound_17 : decode cX10_bound 17 = .ok (.iconst 1, 1) := by decide +kernel
theorem dX10_bound_18 : decode cX10_bound 18 = .ok (.goto 4, 3) := by decide +kernel
theorem dX10_bound_21 : decode cX10_bound 21 = .ok (.iconst 0, 1) := by decide +kernel
theorem dX10_bound_22 : decode cX10_bound 22 = .ok (.istore_n 3, 1) := by decide +kernel
theorem dX10_bound_23 : decode cX10_bound 23 = .ok (.iload_n 1, 1) := by decide +kernel
theorem dX10_bound_24 : decode cX10_bound 24 = .ok (.ifCond .eq 8, 3) := by decide +kernel
theorem dX10_bound_27 : decode cX10_bound 27 = .ok (.iload_n 1, 1) := by decide +kernel
theorem dX10_bound_28 : decode cX10_bound 28 = .ok (.iconst 5, 1) := by decide +kernel
theorem dX10_bound_29 : decode cX10_bound 29 = .ok (.if_icmp .ne 8, 3) := by decide +kernel
theorem dX10_bound_32 : decode cX10_bound 32 = .ok (.bipush 100, 2) := by decide +kernel
theorem dX10_bound_34 : decode cX10_bound 34 = .ok (.goto 27, 3) := by decide +kernel
theorem dX10_bound_37 : decode cX10_bound 37 = .ok (.iload_n 1, 1) := by decide +kernel
theorem dX10_bound_38 : decode cX10_bound 38 = .ok (.iconst 1, 1) := by decide +kernel
theorem dX10_bound_39 : decode cX10_bound 39 = .ok (.if_icmp .ne 9, 3) := by decide +kernel
theorem dX10_bound_42 : decode cX10_bound 42 = .ok (.sipush 2000, 3) := by decide +kernel
theorem dX10_bound_45 : decode cX10_bound 45 = .ok (.goto 16, 3) := by decide +kernel
theorem dX10_bound_48 : decode cX10_bound 48 = .ok (.iload_n 1, 1) := by decide +kernel
theorem dX10_bound_49 : decode cX10_bound 49 = .ok (.iconst 2, 1) := by decide +kernel
theorem dX10_bound_50 : decode cX10_bound 50 = .ok (.if_icmp .ne 9, 3) := by decide +kernel
theorem dX10_bound_53 : decode cX10_bound 53 = .ok (.sipush 200, 3) := by decide +kernel
theorem dX10_bound_56 : decode cX10_bound 56 = .ok (.goto 5, 3) := by decide +kernel
theorem dX10_bound_59 : decode cX10_bound 59 = .ok (.bipush 127, 2) := by decide +kernel
theorem dX10_bound_61 : decode cX10_bound 61 = .ok (.istore 4, 2) := by decide +kernel
theorem dX10_bound_63 : decode cX10_bound 63 = .ok (.iload_n 2, 1) := by decide +kernel
theorem dX10_bound_64 : decode cX10_bound 64 = .ok (.iload_n 3, 1) := by decide +kernel
theorem dX10_bound_65 : decode cX10_bound 65 = .ok (.iload 4, 2) := by decide +kernel
theorem dX10_bound_67 : decode cX10_bound 67 = .ok (.invokestatic 70, 3) := by decide +kernel
theorem dX10_bound_70 : decode cX10_bound 70 = .ok (.ifCond .ne 5, 3) := by decide +kernel
theorem dX10_bound_73 : decode cX10_bound 73 = .ok (.iconst (-1), 1) := by decide +kernel
theorem dX10_bound_74 : decode cX10_bound 74 = .ok (.ireturn, 1) := by decide +kernel
theorem dX10_bound_75 : decode cX10_bound 75 = .ok (.aload_n 0, 1) := by decide +kernel
theorem dX10_bound_76 : decode cX10_bound 76 = .ok (.getfield 28, 3) := by decide +kernel
theorem dX10_bound_79 : decode cX10_bound 79 = .ok (.iload_n 1, 1) := by decide +kernel
theorem dX10_bound_80 : decode cX10_bound 80 = .ok (.iaload, 1) := by decide +kernel
theorem dX10_bound_81 : decode cX10_bound 81 = .ok (.istore 5, 2) := by decide +kernel
theorem dX10_bound_83 : decode cX10_bound 83 = .ok (.aload_n 0, 1) := by decide +kernel
theorem dX10_bound_84 : decode cX10_bound 84 = .ok (.getfield 28, 3) := by decide +kernel
theorem dX10_bound_87 : decode cX10_bound 87 = .ok (.iload_n 1, 1) := by decide +kernel
theorem dX10_bound_88 : decode cX10_bound 88 = .ok (.iload_n 2, 1) := by decide +kernel
theorem dX10_bound_89 : decode cX10_bound 89 = .ok (.iastore, 1) := by decide +kernel
theorem dX10_bound_90 : decode cX10_bound 90 = .ok (.aload_n 0, 1) := by decide +kernel
theorem dX10_bound_91 : decode cX10_bound 91 = .ok (.iconst 0, 1) := by decide +kernel
theorem dX10_bound_92 : decode cX10_bound 92 = .ok (.putfield 83, 3) := by decide +kernel
theorem dX10_bound_95 : decode cX10_bound 95 = .ok (.iload 5, 2) := by decide +kernel
theorem dX10_bound_97 : decode cX10_bound 97 = .ok (.ireturn, 1) := by decide +kernel
theorem dX10_pin_0 : decode cX10_pin 0 = .ok (.iload_n 1, 1) := by decide +kernel
theorem dX10_pin_1 : decode cX10_pin 1 = .ok (.iconst 0, 1) := by decide +kernel
theorem dX10_pin_2 : decode cX10_pin 2 = .ok (.aload_n 0, 1) := by decide +kernel
theorem dX10_pin_3 : decode cX10_pin 3 = .ok (.getfield 67, 3) := by decide +kernel
theorem dX10_pin_6 : decode cX10_pin 6 = .ok (.iconst 1, 1) := by decide +kernel
theorem dX10_pin_7 : decode cX10_pin 7 = .ok (.isub, 1) := by decide +kernel
theorem dX10_pin_8 : decode cX10_pin 8 = .ok (.invokestatic 70, 3) := by decide +kernel
theorem dX10_pin_11 : decode cX10_pin 11 = .ok (.ifCond .eq 13, 3) := by decide +kernel
theorem dX10_pin_14 : decode cX10_pin 14 = .ok (.iload_n 2, 1) := by decide +kernel
theorem dX10_pin_15 : decode cX10_pin 15 = .ok (.iconst (-1), 1) := by decide +kernel
theorem dX10_pin_16 : decode cX10_pin 16 = .ok (.bipush 99, 2) := by decide +kernel
theorem dX10_pin_18 : decode cX10_pin 18 = .ok (.invokestatic 70, 3) := by decide +kernel
theorem dX10_pin_21 : decode cX10_pin 21 = .ok (.ifCond .ne 5, 3) := by decide +kernel
theorem dX10_pin_24 : decode cX10_pin 24 = .ok (.iconst (-1), 1) := by decide +kernel
theorem dX10_pin_25 : decode cX10_pin 25 = .ok (.ireturn, 1) := by decide +kernel
theorem dX10_pin_26 : decode cX10_pin 26 = .ok (.aload_n 0, 1) := by decide +kernel
theorem dX10_pin_27 : decode cX10_pin 27 = .ok (.getfield 25, 3) := by decide +kernel
theorem dX10_pin_30 : decode cX10_pin 30 = .ok (.iload_n 1, 1) := by decide +kernel
theorem dX10_pin_31 : decode cX10_pin 31 = .ok (.iaload, 1) := by decide +kernel
theorem dX10_pin_32 : decode cX10_pin 32 = .ok (.istore_n 3, 1) := by decide +kernel
theorem dX10_pin_33 : decode cX10_pin 33 = .ok (.aload_n 0, 1) := by decide +kernel
theorem dX10_pin_34 : decode cX10_pin 34 = .ok (.getfield 25, 3) := by decide +kernel
theorem dX10_pin_37 : decode cX10_pin 37 = .ok (.iload_n 1, 1) := by decide +kernel
theorem dX10_pin_38 : decode cX10_pin 38 = .ok (.iload_n 2, 1) := by decide +kernel
theorem dX10_pin_39 : decode cX10_pin 39 = .ok (.ifCond .ge 8, 3) := by decide +kernel
theorem dX10_pin_42 : decode cX10_pin 42 = .ok (.bipush (-2), 2) := by decide +kernel
theorem dX10_pin_44 : decode cX10_pin 44 = .ok (.goto 4, 3) := by decide +kernel
theorem dX10_pin_47 : decode cX10_pin 47 = .ok (.iload_n 2, 1) := by decide +kernel
theorem dX10_pin_48 : decode cX10_pin 48 = .ok (.iastore, 1) := by decide +kernel
theorem dX10_pin_49 : decode cX10_pin 49 = .ok (.iload_n 3, 1) := by decide +kernel
theorem dX10_pin_50 : decode cX10_pin 50 = .ok (.ireturn, 1) := by decide +kernel
theorem dX10_add_0 : decode cX10_add 0 = .ok (.bipush 80, 2) := by decide +kernel
theorem dX10_add_2 : decode cX10_add 2 = .ok (.iload_n 1, 1) := by decide +kernel
theorem dX10_add_3 : decode cX10_add 3 = .ok (.imul, 1) := by decide +kernel
theorem dX10_add_4 : decode cX10_add 4 = .ok (.aload_n 0, 1) := by decide +kernel
theorem dX10_add_5 : decode cX10_add 5 = .ok (.getfield 31, 3) := by decide +kernel
theorem dX10_add_8 : decode cX10_add 8 = .ok (.iload_n 1, 1) := by decide +kernel
theorem dX10_add_9 : decode cX10_add 9 = .ok (.iaload, 1) := by decide +kernel
theorem dX10_add_10 : decode cX10_add 10 = .ok (.iadd, 1) := by decide +kernel
theorem dX10_add_11 : decode cX10_add 11 = .ok (.istore 5, 2) := by decide +kernel
theorem dX10_add_13 : decode cX10_add 13 = .ok (.aload_n 0, 1) := by decide +kernel
theorem dX10_add_14 : decode cX10_add 14 = .ok (.getfield 34, 3) := by decide +kernel
theorem dX10_add_17 : decode cX10_add 17 = .ok (.iload 5, 2) := by decide +kernel
theorem dX10_add_19 : decode cX10_add 19 = .ok (.iload_n 2, 1) := by decide +kernel
theorem dX10_add_20 : decode cX10_add 20 = .ok (.iastore, 1) := by decide +kernel
theorem dX10_add_21 : decode cX10_add 21 = .ok (.aload_n 0, 1) := by decide +kernel
theorem dX10_add_22 : decode cX10_add 22 = .ok (.getfield 37, 3) := by decide +kernel
theorem dX10_add_25 : decode cX10_add 25 = .ok (.iload 5, 2) := by decide +kernel
theorem dX10_add_27 : decode cX10_add 27 = .ok (.iload_n 3, 1) := by decide +kernel
theorem dX10_add_28 : decode cX10_add 28 = .ok (.iastore, 1) := by decide +kernel
theorem dX10_add_29 : decode cX10_add 29 = .ok (.aload_n 0, 1) := by decide +kernel
theorem dX10_add_30 : decode cX10_add 30 = .ok (.getfield 40, 3) := by decide +kernel
theorem dX10_add_33 : decode cX10_add 33 = .ok (.iload 5, 2) := by decide +kernel
theorem dX10_add_35 : decode cX10_add 35 = .ok (.iload 4, 2) := by decide +kernel
theorem dX10_add_37 : decode cX10_add 37 = .ok (.iastore, 1) := by decide +kernel
theorem dX10_add_38 : decode cX10_add 38 = .ok (.aload_n 0, 1) := by decide +kernel
theorem dX10_add_39 : decode cX10_add 39 = .ok (.getfield 31, 3) := by decide +kernel
theorem dX10_add_42 : decode cX10_add 42 = .ok (.iload_n 1, 1) := by decide +kernel
theorem dX10_add_43 : decode cX10_add 43 = .ok (.dup2, 1) := by decide +kernel
theorem dX10_add_44 : decode cX10_add 44 = .ok (.iaload, 1) := by decide +kernel
theorem dX10_add_45 : decode cX10_add 45 = .ok (.iconst 1, 1) := by decide +kernel
theorem dX10_add_46 : decode cX10_add 46 = .ok (.iadd, 1) := by decide +kernel
theorem dX10_add_47 : decode cX10_add 47 = .ok (.iastore, 1) := by decide +kernel
theorem dX10_add_48 : decode cX10_add 48 = .ok (.return_, 1) := by decide +kernel
theorem dX10_find_0 : decode cX10_find 0 = .ok (.aload_n 0, 1) := by decide +kernel
theorem dX10_find_1 : decode cX10_find 1 = .ok (.getfield 83, 3) := by decide +kernel
theorem dX10_find_4 : decode cX10_find 4 = .ok (.ifCond .eq 4, 3) := by decide +kernel
theorem dX10_find_7 : decode cX10_find 7 = .ok (.return_, 1) := by decide +kernel
theorem dX10_find_8 : decode cX10_find 8 = .ok (.aload_n 0, 1) := by decide +kernel
theorem dX10_find_9 : decode cX10_find 9 = .ok (.iconst 1, 1) := by decide +kernel
theorem dX10_find_10 : decode cX10_find 10 = .ok (.putfield 83, 3) := by decide +kernel
theorem dX10_find_13 : decode cX10_find 13 = .ok (.iconst 0, 1) := by decide +kernel
theorem dX10_find_14 : decode cX10_find 14 = .ok (.istore_n 1, 1) := by decide +kernel
theorem dX10_find_15 : decode cX10_find 15 = .ok (.iload_n 1, 1) := by decide +kernel
theorem dX10_find_16 : decode cX10_find 16 = .ok (.aload_n 0, 1) := by decide +kernel
theorem dX10_find_17 : decode cX10_find 17 = .ok (.getfield 67, 3) := by decide +kernel
theorem dX10_find_20 : decode cX10_find 20 = .ok (.if_icmp .ge 83, 3) := by decide +kernel
theorem dX10_find_23 : decode cX10_find 23 = .ok (.aload_n 0, 1) := by decide +kernel
theorem dX10_find_24 : decode cX10_find 24 = .ok (.getfield 31, 3) := by decide +kernel
theorem dX10_find_27 : decode cX10_find 27 = .ok (.iload_n 1, 1) := by decide +kernel
theorem dX10_find_28 : decode cX10_find 28 = .ok (.iconst 0, 1) := by decide +kernel
theorem dX10_find_29 : decode cX10_find 29 = .ok (.iastore, 1) := by decide +kernel
theorem dX10_find_30 : decode cX10_find 30 = .ok (.iconst 1, 1) := by decide +kernel
theorem dX10_find_31 : decode cX10_find 31 = .ok (.istore_n 2, 1) := by decide +kernel
theorem dX10_find_32 : decode cX10_find 32 = .ok (.iconst 0, 1) := by decide +kernel
theorem dX10_find_33 : decode cX10_find 33 = .ok (.istore_n 3, 1) := by decide +kernel
theorem dX10_find_34 : decode cX10_find 34 = .ok (.iload_n 3, 1) := by decide +kernel
theorem dX10_find_35 : decode cX10_find 35 = .ok (.aload_n 0, 1) := by decide +kernel
theorem dX10_find_36 : decode cX10_find 36 = .ok (.getfield 19, 3) := by decide +kernel
theorem dX10_find_39 : decode cX10_find 39 = .ok (.iload_n 1, 1) := by decide +kernel
theorem dX10_find_40 : decode cX10_find 40 = .ok (.iaload, 1) := by decide +kernel
theorem dX10_find_41 : decode cX10_find 41 = .ok (.if_icmp .ge 47, 3) := by decide +kernel
theorem dX10_find_44 : decode cX10_find 44 = .ok (.iload_n 2, 1) := by decide +kernel
theorem dX10_find_45 : decode cX10_find 45 = .ok (.ifCond .eq 35, 3) := by decide +kernel
theorem dX10_find_48 : decode cX10_find 48 = .ok (.aload_n 0, 1) := by decide +kernel
theorem dX10_find_49 : decode cX10_find 49 = .ok (.getfield 22, 3) := by decide +kernel
theorem dX10_find_52 : decode cX10_find 52 = .ok (.iconst 3, 1) := by decide +kernel
theorem dX10_find_53 : decode cX10_find 53 = .ok (.iload_n 1, 1) := by decide +kernel
theorem dX10_find_54 : decode cX10_find 54 = .ok (.imul, 1) := by decide +kernel
theorem dX10_find_55 : decode cX10_find 55 = .ok (.iload_n 3, 1) := by decide +kernel
theorem dX10_find_56 : decode cX10_find 56 = .ok (.iadd, 1) := by decide +kernel
theorem dX10_find_57 : decode cX10_find 57 = .ok (.iaload, 1) := by decide +kernel
theorem dX10_find_58 : decode cX10_find 58 = .ok (.aload_n 0, 1) := by decide +kernel
theorem dX10_find_59 : decode cX10_find 59 = .ok (.getfield 28, 3) := by decide +kernel
theorem dX10_find_62 : decode cX10_find 62 = .ok (.iconst 3, 1) := by decide +kernel
theorem dX10_find_63 : decode cX10_find 63 = .ok (.iaload, 1) := by decide +kernel
theorem dX10_find_64 : decode cX10_find 64 = .ok (.aload_n 0, 1) := by decide +kernel
theorem dX10_find_65 : decode cX10_find 65 = .ok (.getfield 28, 3) := by decide +kernel
theorem dX10_find_68 : decode cX10_find 68 = .ok (.iconst 4, 1) := by decide +kernel
theorem dX10_find_69 : decode cX10_find 69 = .ok (.iaload, 1) := by decide +kernel
theorem dX10_find_70 : decode cX10_find 70 = .ok (.invokestatic 70, 3) := by decide +kernel
theorem dX10_find_73 : decode cX10_find 73 = .ok (.ifCond .eq 7, 3) := by decide +kernel
theorem dX10_find_76 : decode cX10_find 76 = .ok (.iconst 1, 1) := by decide +kernel
theorem dX10_find_77 : decode cX10_find 77 = .ok (.goto 4, 3) := by decide +kernel
theorem dX10_find_80 : decode cX10_find 80 = .ok (.iconst 0, 1) := by decide +kernel
theorem dX10_find_81 : decode cX10_find 81 = .ok (.istore_n 2, 1) := by decide +kernel
theorem dX10_find_82 : decode cX10_find 82 = .ok (.iinc 3 1, 3) := by decide +kernel
theorem dX10_find_85 : decode cX10_find 85 = .ok (.goto (-51), 3) := by decide +kernel
theorem dX10_find_88 : decode cX10_find 88 = .ok (.iload_n 2, 1) := by decide +kernel
theorem dX10_find_89 : decode cX10_find 89 = .ok (.ifCond .eq 8, 3) := by decide +kernel
theorem dX10_find_92 : decode cX10_find 92 = .ok (.aload_n 0, 1) := by decide +kernel
theorem dX10_find_93 : decode cX10_find 93 = .ok (.iload_n 1, 1) := by decide +kernel
theorem dX10_find_94 : decode cX10_find 94 = .ok (.invokevirtual 87, 3) := by decide +kernel
theorem dX10_find_97 : decode cX10_find 97 = .ok (.iinc 1 1, 3) := by decide +kernel
theorem dX10_find_100 : decode cX10_find 100 = .ok (.goto (-85), 3) := by decide +kernel
theorem dX10_find_103 : decode cX10_find 103 = .ok (.return_, 1) := by decide +kernel
theorem dX10_findOf_0 : decode cX10_findOf 0 = .ok (.aload_n 0, 1) := by decide +kernel
theorem dX10_findOf_1 : decode cX10_findOf 1 = .ok (.getfield 63, 3) := by decide +kernel
theorem dX10_findOf_4 : decode cX10_findOf 4 = .ok (.tableswitch 179 0 3 #[32, 68, 112, 120], 32) := by decide +kernel
theorem dX10_findOf_36 : decode cX10_findOf 36 = .ok (.iconst 1, 1) := by decide +kernel
theorem dX10_findOf_37 : decode cX10_findOf 37 = .ok (.istore_n 2, 1) := by decide +kernel
theorem dX10_findOf_38 : decode cX10_findOf 38 = .ok (.iload_n 2, 1) := by decide +kernel
theorem dX10_findOf_39 : decode cX10_findOf 39 = .ok (.bipush 32, 2) := by decide +kernel
theorem dX10_findOf_41 : decode cX10_findOf 41 = .ok (.if_icmp .ge 28, 3) := by decide +kernel
theorem dX10_findOf_44 : decode cX10_findOf 44 = .ok (.iload_n 2, 1) := by decide +kernel
theorem dX10_findOf_45 : decode cX10_findOf 45 = .ok (.invokestatic 91, 3) := by decide +kernel
theorem dX10_findOf_48 : decode cX10_findOf 48 = .ok (.aload_n 0, 1) := by decide +kernel
theorem dX10_findOf_49 : decode cX10_findOf 49 = .ok (.getfield 19, 3) := by decide +kernel
theorem dX10_findOf_52 : decode cX10_findOf 52 = .ok (.iload_n 1, 1) := by decide +kernel
theorem dX10_findOf_53 : decode cX10_findOf 53 = .ok (.iaload, 1) := by decide +kernel
theorem dX10_findOf_54 : decode cX10_findOf 54 = .ok (.if_icmp .ne 9, 3) := by decide +kernel
theorem dX10_findOf_57 : decode cX10_findOf 57 = .ok (.aload_n 0, 1) := by decide +kernel
theorem dX10_findOf_58 : decode cX10_findOf 58 = .ok (.iload_n 1, 1) := by decide +kernel
theorem dX10_findOf_59 : decode cX10_findOf 59 = .ok (.iload_n 2, 1) := by decide +kernel
theorem dX10_findOf_60 : decode cX10_findOf 60 = .ok (.invokevirtual 95, 3) := by decide +kernel
theorem dX10_findOf_63 : decode cX10_findOf 63 = .ok (.iinc 2 1, 3) := by decide +kernel
theorem dX10_findOf_66 : decode cX10_findOf 66 = .ok (.goto (-28), 3) := by decide +kernel
theorem dX10_findOf_69 : decode cX10_findOf 69 = .ok (.goto 119, 3) := by decide +kernel
theorem dX10_findOf_72 : decode cX10_findOf 72 = .ok (.iconst 0, 1) := by decide +kernel
theorem dX10_findOf_73 : decode cX10_findOf 73 = .ok (.istore_n 2, 1) := by decide +kernel
theorem dX10_findOf_74 : decode cX10_findOf 74 = .ok (.iload_n 2, 1) := by decide +kernel
theorem dX10_findOf_75 : decode cX10_findOf 75 = .ok (.bipush 12, 2) := by decide +kernel
theorem dX10_findOf_77 : decode cX10_findOf 77 = .ok (.if_icmp .ge 36, 3) := by decide +kernel
theorem dX10_findOf_80 : decode cX10_findOf 80 = .ok (.iconst 0, 1) := by decide +kernel
theorem dX10_findOf_81 : decode cX10_findOf 81 = .ok (.istore_n 3, 1) := by decide +kernel
theorem dX10_findOf_82 : decode cX10_findOf 82 = .ok (.iload_n 3, 1) := by decide +kernel
theorem dX10_findOf_83 : decode cX10_findOf 83 = .ok (.aload_n 0, 1) := by decide +kernel
theorem dX10_findOf_84 : decode cX10_findOf 84 = .ok (.getfield 19, 3) := by decide +kernel
theorem dX10_findOf_87 : decode cX10_findOf 87 = .ok (.iload_n 1, 1) := by decide +kernel
theorem dX10_findOf_88 : decode cX10_findOf 88 = .ok (.iaload, 1) := by decide +kernel
theorem dX10_findOf_89 : decode cX10_findOf 89 = .ok (.iadd, 1) := by decide +kernel
theorem dX10_findOf_90 : decode cX10_findOf 90 = .ok (.iconst 4, 1) := by decide +kernel
theorem dX10_findOf_91 : decode cX10_findOf 91 = .ok (.if_icmp .gt 16, 3) := by decide +kernel
theorem dX10_findOf_94 : decode cX10_findOf 94 = .ok (.aload_n 0, 1) := by decide +kernel
theorem dX10_findOf_95 : decode cX10_findOf 95 = .ok (.iload_n 1, 1) := by decide +kernel
theorem dX10_findOf_96 : decode cX10_findOf 96 = .ok (.iload_n 2, 1) := by decide +kernel
theorem dX10_findOf_97 : decode cX10_findOf 97 = .ok (.iload_n 3, 1) := by decide +kernel
theorem dX10_findOf_98 : decode cX10_findOf 98 = .ok (.invokevirtual 99, 3) := by decide +kernel
theorem dX10_findOf_101 : decode cX10_findOf 101 = .ok (.iinc 3 1, 3) := by decide +kernel
theorem dX10_findOf_104 : decode cX10_findOf 104 = .ok (.goto (-22), 3) := by decide +kernel
theorem dX10_findOf_107 : decode cX10_findOf 107 = .ok (.iinc 2 1, 3) := by decide +kernel
theorem dX10_findOf_110 : decode cX10_findOf 110 = .ok (.goto (-36), 3) := by decide +kernel
theorem dX10_findOf_113 : decode cX10_findOf 113 = .ok (.goto 75, 3) := by decide +kernel
theorem dX10_findOf_116 : decode cX10_findOf 116 = .ok (.aload_n 0, 1) := by decide +kernel
theorem dX10_findOf_117 : decode cX10_findOf 117 = .ok (.iload_n 1, 1) := by decide +kernel
theorem dX10_findOf_118 : decode cX10_findOf 118 = .ok (.invokevirtual 103, 3) := by decide +kernel
theorem dX10_findOf_121 : decode cX10_findOf 121 = .ok (.goto 67, 3) := by decide +kernel
theorem dX10_findOf_124 : decode cX10_findOf 124 = .ok (.iconst 0, 1) := by decide +kernel
theorem dX10_findOf_125 : decode cX10_findOf 125 = .ok (.istore_n 2, 1) := by decide +kernel
theorem dX10_findOf_126 : decode cX10_findOf 126 = .ok (.iload_n 2, 1) := by decide +kernel
theorem dX10_findOf_127 : decode cX10_findOf 127 = .ok (.bipush 7, 2) := by decide +kernel
theorem dX10_findOf_129 : decode cX10_findOf 129 = .ok (.if_icmp .ge 51, 3) := by decide +kernel
theorem dX10_findOf_132 : decode cX10_findOf 132 = .ok (.aload_n 0, 1) := by decide +kernel
theorem dX10_findOf_133 : decode cX10_findOf 133 = .ok (.getfield 22, 3) := by decide +kernel
theorem dX10_findOf_136 : decode cX10_findOf 136 = .ok (.iconst 3, 1) := by decide +kernel
theorem dX10_findOf_137 : decode cX10_findOf 137 = .ok (.iload_n 1, 1) := by decide +kernel
theorem dX10_findOf_138 : decode cX10_findOf 138 = .ok (.imul, 1) := by decide +kernel
theorem dX10_findOf_139 : decode cX10_findOf 139 = .ok (.iaload, 1) := by decide +kernel
theorem dX10_findOf_140 : decode cX10_findOf 140 = .ok (.iload_n 2, 1) := by decide +kernel
theorem dX10_findOf_141 : decode cX10_findOf 141 = .ok (.iadd, 1) := by decide +kernel
theorem dX10_findOf_142 : decode cX10_findOf 142 = .ok (.aload_n 0, 1) := by decide +kernel
theorem dX10_findOf_143 : decode cX10_findOf 143 = .ok (.getfield 28, 3) := by decide +kernel
theorem dX10_findOf_146 : decode cX10_findOf 146 = .ok (.iconst 5, 1) := by decide +kernel
theorem dX10_findOf_147 : decode cX10_findOf 147 = .ok (.iaload, 1) := by decide +kernel
theorem dX10_findOf_148 : decode cX10_findOf 148 = .ok (.isub, 1) := by decide +kernel
theorem dX10_findOf_149 : decode cX10_findOf 149 = .ok (.invokestatic 106, 3) := by decide +kernel
theorem dX10_findOf_152 : decode cX10_findOf 152 = .ok (.ifCond .eq 22, 3) := by decide +kernel
theorem dX10_findOf_155 : decode cX10_findOf 155 = .ok (.aload_n 0, 1) := by decide +kernel
theorem dX10_findOf_156 : decode cX10_findOf 156 = .ok (.iload_n 1, 1) := by decide +kernel
theorem dX10_findOf_157 : decode cX10_findOf 157 = .ok (.iload_n 2, 1) := by decide +kernel
theorem dX10_findOf_158 : decode cX10_findOf 158 = .ok (.iconst 0, 1) := by decide +kernel
theorem dX10_findOf_159 : decode cX10_findOf 159 = .ok (.iload_n 2, 1) := by decide +kernel
theorem dX10_findOf_160 : decode cX10_findOf 160 = .ok (.iconst 5, 1) := by decide +kernel
theorem dX10_findOf_161 : decode cX10_findOf 161 = .ok (.if_icmp .ge 7, 3) := by decide +kernel
theorem dX10_findOf_164 : decode cX10_findOf 164 = .ok (.iconst 0, 1) := by decide +kernel
theorem dX10_findOf_165 : decode cX10_findOf 165 = .ok (.goto 6, 3) := by decide +kernel
theorem dX10_findOf_168 : decode cX10_findOf 168 = .ok (.iload_n 2, 1) := by decide +kernel
theorem dX10_findOf_169 : decode cX10_findOf 169 = .ok (.iconst 4, 1) := by decide +kernel
theorem dX10_findOf_170 : decode cX10_findOf 170 = .ok (.isub, 1) := by decide +kernel
theorem dX10_findOf_171 : decode cX10_findOf 171 = .ok (.invokevirtual 110, 3) := by decide +kernel
theorem dX10_findOf_174 : decode cX10_findOf 174 = .ok (.iinc 2 1, 3) := by decide +kernel
theorem dX10_findOf_177 : decode cX10_findOf 177 = .ok (.goto (-51), 3) := by decide +kernel
theorem dX10_findOf_180 : decode cX10_findOf 180 = .ok (.goto 8, 3) := by decide +kernel
theorem dX10_findOf_183 : decode cX10_findOf 183 = .ok (.aload_n 0, 1) := by decide +kernel
theorem dX10_findOf_184 : decode cX10_findOf 184 = .ok (.iload_n 1, 1) := by decide +kernel
theorem dX10_findOf_185 : decode cX10_findOf 185 = .ok (.invokevirtual 114, 3) := by decide +kernel
theorem dX10_findOf_188 : decode cX10_findOf 188 = .ok (.return_, 1) := by decide +kernel
theorem dX10_bits_0 : decode cX10_bits 0 = .ok (.iconst 0, 1) := by decide +kernel
theorem dX10_bits_1 : decode cX10_bits 1 = .ok (.istore_n 1, 1) := by decide +kernel
theorem dX10_bits_2 : decode cX10_bits 2 = .ok (.iconst 0, 1) := by decide +kernel
theorem dX10_bits_3 : decode cX10_bits 3 = .ok (.istore_n 2, 1) := by decide +kernel
theorem dX10_bits_4 : decode cX10_bits 4 = .ok (.iload_n 2, 1) := by decide +kernel
theorem dX10_bits_5 : decode cX10_bits 5 = .ok (.iconst 5, 1) := by decide +kernel
theorem dX10_bits_6 : decode cX10_bits 6 = .ok (.if_icmp .ge 17, 3) := by decide +kernel
theorem dX10_bits_9 : decode cX10_bits 9 = .ok (.iload_n 1, 1) := by decide +kernel
theorem dX10_bits_10 : decode cX10_bits 10 = .ok (.iload_n 0, 1) := by decide +kernel
theorem dX10_bits_11 : decode cX10_bits 11 = .ok (.iload_n 2, 1) := by decide +kernel
theorem dX10_bits_12 : decode cX10_bits 12 = .ok (.ishr, 1) := by decide +kernel
theorem dX10_bits_13 : decode cX10_bits 13 = .ok (.iconst 1, 1) := by decide +kernel
theorem dX10_bits_14 : decode cX10_bits 14 = .ok (.iand, 1) := by decide +kernel
theorem dX10_bits_15 : decode cX10_bits 15 = .ok (.iadd, 1) := by decide +kernel
theorem dX10_bits_16 : decode cX10_bits 16 = .ok (.istore_n 1, 1) := by decide +kernel
theorem dX10_bits_17 : decode cX10_bits 17 = .ok (.iinc 2 1, 3) := by decide +kernel
theorem dX10_bits_20 : decode cX10_bits 20 = .ok (.goto (-16), 3) := by decide +kernel
theorem dX10_bits_23 : decode cX10_bits 23 = .ok (.iload_n 1, 1) := by decide +kernel
theorem dX10_bits_24 : decode cX10_bits 24 = .ok (.ireturn, 1) := by decide +kernel
theorem dX10_finger_0 : decode cX10_finger 0 = .ok (.aload_n 0, 1) := by decide +kernel
theorem dX10_finger_1 : decode cX10_finger 1 = .ok (.getfield 7, 3) := by decide +kernel
theorem dX10_finger_4 : decode cX10_finger 4 = .ok (.iload_n 1, 1) := by decide +kernel
theorem dX10_finger_5 : decode cX10_finger 5 = .ok (.iaload, 1) := by decide +kernel
theorem dX10_finger_6 : decode cX10_finger 6 = .ok (.iconst 1, 1) := by decide +kernel
theorem dX10_finger_7 : decode cX10_finger 7 = .ok (.if_icmp .ne 7, 3) := by decide +kernel
theorem dX10_finger_10 : decode cX10_finger 10 = .ok (.iload_n 3, 1) := by decide +kernel
theorem dX10_finger_11 : decode cX10_finger 11 = .ok (.goto 13, 3) := by decide +kernel
theorem dX10_finger_14 : decode cX10_finger 14 = .ok (.aload_n 0, 1) := by decide +kernel
theorem dX10_finger_15 : decode cX10_finger 15 = .ok (.getfield 19, 3) := by decide +kernel
theorem dX10_finger_18 : decode cX10_finger 18 = .ok (.iload_n 1, 1) := by decide +kernel
theorem dX10_finger_19 : decode cX10_finger 19 = .ok (.iaload, 1) := by decide +kernel
theorem dX10_finger_20 : decode cX10_finger 20 = .ok (.iconst 1, 1) := by decide +kernel
theorem dX10_finger_21 : decode cX10_finger 21 = .ok (.isub, 1) := by decide +kernel
theorem dX10_finger_22 : decode cX10_finger 22 = .ok (.iload_n 3, 1) := by decide +kernel
theorem dX10_finger_23 : decode cX10_finger 23 = .ok (.isub, 1) := by decide +kernel
theorem dX10_finger_24 : decode cX10_finger 24 = .ok (.istore 4, 2) := by decide +kernel
theorem dX10_finger_26 : decode cX10_finger 26 = .ok (.iconst 1, 1) := by decide +kernel
theorem dX10_finger_27 : decode cX10_finger 27 = .ok (.istore 5, 2) := by decide +kernel
theorem dX10_finger_29 : decode cX10_finger 29 = .ok (.iload_n 2, 1) := by decide +kernel
theorem dX10_finger_30 : decode cX10_finger 30 = .ok (.iload 5, 2) := by decide +kernel
theorem dX10_finger_32 : decode cX10_finger 32 = .ok (.iconst 1, 1) := by decide +kernel
theorem dX10_finger_33 : decode cX10_finger 33 = .ok (.isub, 1) := by decide +kernel
theorem dX10_finger_34 : decode cX10_finger 34 = .ok (.ishr, 1) := by decide +kernel
theorem dX10_finger_35 : decode cX10_finger 35 = .ok (.iconst 1, 1) := by decide +kernel
theorem dX10_finger_36 : decode cX10_finger 36 = .ok (.iand, 1) := by decide +kernel
theorem dX10_finger_37 : decode cX10_finger 37 = .ok (.ifCond .eq 8, 3) := by decide +kernel
theorem dX10_finger_40 : decode cX10_finger 40 = .ok (.iload 4, 2) := by decide +kernel
theorem dX10_finger_42 : decode cX10_finger 42 = .ok (.ifCond .le 22, 3) := by decide +kernel
theorem dX10_finger_45 : decode cX10_finger 45 = .ok (.iload 4, 2) := by decide +kernel
theorem dX10_finger_47 : decode cX10_finger 47 = .ok (.iload_n 2, 1) := by decide +kernel
theorem dX10_finger_48 : decode cX10_finger 48 = .ok (.iload 5, 2) := by decide +kernel
theorem dX10_finger_50 : decode cX10_finger 50 = .ok (.iconst 1, 1) := by decide +kernel
theorem dX10_finger_51 : decode cX10_finger 51 = .ok (.isub, 1) := by decide +kernel
theorem dX10_finger_52 : decode cX10_finger 52 = .ok (.ishr, 1) := by decide +kernel
theorem dX10_finger_53 : decode cX10_finger 53 = .ok (.iconst 1, 1) := by decide +kernel
theorem dX10_finger_54 : decode cX10_finger 54 = .ok (.iand, 1) := by decide +kernel
theorem dX10_finger_55 : decode cX10_finger 55 = .ok (.isub, 1) := by decide +kernel
theorem dX10_finger_56 : decode cX10_finger 56 = .ok (.istore 4, 2) := by decide +kernel
theorem dX10_finger_58 : decode cX10_finger 58 = .ok (.iinc 5 1, 3) := by decide +kernel
theorem dX10_finger_61 : decode cX10_finger 61 = .ok (.goto (-32), 3) := by decide +kernel
theorem dX10_finger_64 : decode cX10_finger 64 = .ok (.iload 5, 2) := by decide +kernel
theorem dX10_finger_66 : decode cX10_finger 66 = .ok (.ireturn, 1) := by decide +kernel
theorem dX10_fingers_0 : decode cX10_fingers 0 = .ok (.iconst 0, 1) := by decide +kernel
theorem dX10_fingers_1 : decode cX10_fingers 1 = .ok (.istore_n 3, 1) := by decide +kernel
theorem dX10_fingers_2 : decode cX10_fingers 2 = .ok (.iconst 0, 1) := by decide +kernel
theorem dX10_fingers_3 : decode cX10_fingers 3 = .ok (.istore 4, 2) := by decide +kernel
theorem dX10_fingers_5 : decode cX10_fingers 5 = .ok (.iload 4, 2) := by decide +kernel
theorem dX10_fingers_7 : decode cX10_fingers 7 = .ok (.iconst 1, 1) := by decide +kernel
theorem dX10_fingers_8 : decode cX10_fingers 8 = .ok (.iadd, 1) := by decide +kernel
theorem dX10_fingers_9 : decode cX10_fingers 9 = .ok (.aload_n 0, 1) := by decide +kernel
theorem dX10_fingers_10 : decode cX10_fingers 10 = .ok (.getfield 19, 3) := by decide +kernel
theorem dX10_fingers_13 : decode cX10_fingers 13 = .ok (.iload_n 1, 1) := by decide +kernel
theorem dX10_fingers_14 : decode cX10_fingers 14 = .ok (.iaload, 1) := by decide +kernel
theorem dX10_fingers_15 : decode cX10_fingers 15 = .ok (.if_icmp .ge 149, 3) := by decide +kernel
theorem dX10_fingers_18 : decode cX10_fingers 18 = .ok (.aload_n 0, 1) := by decide +kernel
theorem dX10_fingers_19 : decode cX10_fingers 19 = .ok (.iload_n 1, 1) := by decide +kernel
theorem dX10_fingers_20 : decode cX10_fingers 20 = .ok (.iload_n 2, 1) := by decide +kernel
theorem dX10_fingers_21 : decode cX10_fingers 21 = .ok (.iload 4, 2) := by decide +kernel
theorem dX10_fingers_23 : decode cX10_fingers 23 = .ok (.invokevirtual 117, 3) := by decide +kernel
theorem dX10_fingers_26 : decode cX10_fingers 26 = .ok (.istore 5, 2) := by decide +kernel
theorem dX10_fingers_28 : decode cX10_fingers 28 = .ok (.aload_n 0, 1) := by decide +kernel
theorem dX10_fingers_29 : decode cX10_fingers 29 = .ok (.iload_n 1, 1) := by decide +kernel
theorem dX10_fingers_30 : decode cX10_fingers 30 = .ok (.iload_n 2, 1) := by decide +kernel
theorem dX10_fingers_31 : decode cX10_fingers 31 = .ok (.iload 4, 2) := by decide +kernel
theorem dX10_fingers_33 : decode cX10_fingers 33 = .ok (.iconst 1, 1) := by decide +kernel
theorem dX10_fingers_34 : decode cX10_fingers 34 = .ok (.iadd, 1) := by decide +kernel
theorem dX10_fingers_35 : decode cX10_fingers 35 = .ok (.invokevirtual 117, 3) := by decide +kernel
theorem dX10_fingers_38 : decode cX10_fingers 38 = .ok (.istore 6, 2) := by decide +kernel
theorem dX10_fingers_40 : decode cX10_fingers 40 = .ok (.iload 5, 2) := by decide +kernel
theorem dX10_fingers_42 : decode cX10_fingers 42 = .ok (.iload 6, 2) := by decide +kernel
theorem dX10_fingers_44 : decode cX10_fingers 44 = .ok (.invokestatic 121, 3) := by decide +kernel
theorem dX10_fingers_47 : decode cX10_fingers 47 = .ok (.istore 7, 2) := by decide +kernel
theorem dX10_fingers_49 : decode cX10_fingers 49 = .ok (.aload_n 0, 1) := by decide +kernel
theorem dX10_fingers_50 : decode cX10_fingers 50 = .ok (.getfield 22, 3) := by decide +kernel
theorem dX10_fingers_53 : decode cX10_fingers 53 = .ok (.iconst 3, 1) := by decide +kernel
theorem dX10_fingers_54 : decode cX10_fingers 54 = .ok (.iload_n 1, 1) := by decide +kernel
theorem dX10_fingers_55 : decode cX10_fingers 55 = .ok (.imul, 1) := by decide +kernel
theorem dX10_fingers_56 : decode cX10_fingers 56 = .ok (.iload 4, 2) := by decide +kernel
theorem dX10_fingers_58 : decode cX10_fingers 58 = .ok (.iadd, 1) := by decide +kernel
theorem dX10_fingers_59 : decode cX10_fingers 59 = .ok (.iconst 1, 1) := by decide +kernel
theorem dX10_fingers_60 : decode cX10_fingers 60 = .ok (.iadd, 1) := by decide +kernel
theorem dX10_fingers_61 : decode cX10_fingers 61 = .ok (.iaload, 1) := by decide +kernel
theorem dX10_fingers_62 : decode cX10_fingers 62 = .ok (.aload_n 0, 1) := by decide +kernel
theorem dX10_fingers_63 : decode cX10_fingers 63 = .ok (.getfield 22, 3) := by decide +kernel
theorem dX10_fingers_66 : decode cX10_fingers 66 = .ok (.iconst 3, 1) := by decide +kernel
theorem dX10_fingers_67 : decode cX10_fingers 67 = .ok (.iload_n 1, 1) := by decide +kernel
theorem dX10_fingers_68 : decode cX10_fingers 68 = .ok (.imul, 1) := by decide +kernel
theorem dX10_fingers_69 : decode cX10_fingers 69 = .ok (.iload 4, 2) := by decide +kernel
theorem dX10_fingers_71 : decode cX10_fingers 71 = .ok (.iadd, 1) := by decide +kernel
theorem dX10_fingers_72 : decode cX10_fingers 72 = .ok (.iaload, 1) := by decide +kernel
theorem dX10_fingers_73 : decode cX10_fingers 73 = .ok (.isub, 1) := by decide +kernel
theorem dX10_fingers_74 : decode cX10_fingers 74 = .ok (.istore 8, 2) := by decide +kernel
theorem dX10_fingers_76 : decode cX10_fingers 76 = .ok (.iload 5, 2) := by decide +kernel
theorem dX10_fingers_78 : decode cX10_fingers 78 = .ok (.iconst 1, 1) := by decide +kernel
theorem dX10_fingers_79 : decode cX10_fingers 79 = .ok (.if_icmp .eq 9, 3) := by decide +kernel
theorem dX10_fingers_82 : decode cX10_fingers 82 = .ok (.iload 6, 2) := by decide +kernel
theorem dX10_fingers_84 : decode cX10_fingers 84 = .ok (.iconst 1, 1) := by decide +kernel
theorem dX10_fingers_85 : decode cX10_fingers 85 = .ok (.if_icmp .ne 7, 3) := by decide +kernel
theorem dX10_fingers_88 : decode cX10_fingers 88 = .ok (.iconst 1, 1) := by decide +kernel
theorem dX10_fingers_89 : decode cX10_fingers 89 = .ok (.goto 4, 3) := by decide +kernel
theorem dX10_fingers_92 : decode cX10_fingers 92 = .ok (.iconst 0, 1) := by decide +kernel
theorem dX10_fingers_93 : decode cX10_fingers 93 = .ok (.istore 9, 2) := by decide +kernel
theorem dX10_fingers_95 : decode cX10_fingers 95 = .ok (.iload 8, 2) := by decide +kernel
theorem dX10_fingers_97 : decode cX10_fingers 97 = .ok (.iconst 3, 1) := by decide +kernel
theorem dX10_fingers_98 : decode cX10_fingers 98 = .ok (.iload 7, 2) := by decide +kernel
theorem dX10_fingers_100 : decode cX10_fingers 100 = .ok (.imul, 1) := by decide +kernel
theorem dX10_fingers_101 : decode cX10_fingers 101 = .ok (.iconst 4, 1) := by decide +kernel
theorem dX10_fingers_102 : decode cX10_fingers 102 = .ok (.iload 9, 2) := by decide +kernel
theorem dX10_fingers_104 : decode cX10_fingers 104 = .ok (.imul, 1) := by decide +kernel
theorem dX10_fingers_105 : decode cX10_fingers 105 = .ok (.iadd, 1) := by decide +kernel
theorem dX10_fingers_106 : decode cX10_fingers 106 = .ok (.if_icmp .le 4, 3) := by decide +kernel
theorem dX10_fingers_109 : decode cX10_fingers 109 = .ok (.return_, 1) := by decide +kernel
theorem dX10_fingers_110 : decode cX10_fingers 110 = .ok (.iload_n 3, 1) := by decide +kernel
theorem dX10_fingers_111 : decode cX10_fingers 111 = .ok (.iload 8, 2) := by decide +kernel
theorem dX10_fingers_113 : decode cX10_fingers 113 = .ok (.iconst 2, 1) := by decide +kernel
theorem dX10_fingers_114 : decode cX10_fingers 114 = .ok (.iload 7, 2) := by decide +kernel
theorem dX10_fingers_116 : decode cX10_fingers 116 = .ok (.imul, 1) := by decide +kernel
theorem dX10_fingers_117 : decode cX10_fingers 117 = .ok (.iconst 2, 1) := by decide +kernel
theorem dX10_fingers_118 : decode cX10_fingers 118 = .ok (.iload 9, 2) := by decide +kernel
theorem dX10_fingers_120 : decode cX10_fingers 120 = .ok (.imul, 1) := by decide +kernel
theorem dX10_fingers_121 : decode cX10_fingers 121 = .ok (.iadd, 1) := by decide +kernel
theorem dX10_fingers_122 : decode cX10_fingers 122 = .ok (.if_icmp .le 18, 3) := by decide +kernel
theorem dX10_fingers_125 : decode cX10_fingers 125 = .ok (.iload 8, 2) := by decide +kernel
theorem dX10_fingers_127 : decode cX10_fingers 127 = .ok (.iconst 2, 1) := by decide +kernel
theorem dX10_fingers_128 : decode cX10_fingers 128 = .ok (.iload 7, 2) := by decide +kernel
theorem dX10_fingers_130 : decode cX10_fingers 130 = .ok (.imul, 1) := by decide +kernel
theorem dX10_fingers_131 : decode cX10_fingers 131 = .ok (.isub, 1) := by decide +kernel
theorem dX10_fingers_132 : decode cX10_fingers 132 = .ok (.iconst 2, 1) := by decide +kernel
theorem dX10_fingers_133 : decode cX10_fingers 133 = .ok (.iload 9, 2) := by decide +kernel
theorem dX10_fingers_135 : decode cX10_fingers 135 = .ok (.imul, 1) := by decide +kernel
theorem dX10_fingers_136 : decode cX10_fingers 136 = .ok (.isub, 1) := by decide +kernel
theorem dX10_fingers_137 : decode cX10_fingers 137 = .ok (.goto 19, 3) := by decide +kernel
theorem dX10_fingers_140 : decode cX10_fingers 140 = .ok (.iload 8, 2) := by decide +kernel
theorem dX10_fingers_142 : decode cX10_fingers 142 = .ok (.iload 7, 2) := by decide +kernel
theorem dX10_fingers_144 : decode cX10_fingers 144 = .ok (.if_icmp .ge 11, 3) := by decide +kernel
theorem dX10_fingers_147 : decode cX10_fingers 147 = .ok (.iload 7, 2) := by decide +kernel
theorem dX10_fingers_149 : decode cX10_fingers 149 = .ok (.iload 8, 2) := by decide +kernel
theorem dX10_fingers_151 : decode cX10_fingers 151 = .ok (.isub, 1) := by decide +kernel
theorem dX10_fingers_152 : decode cX10_fingers 152 = .ok (.goto 4, 3) := by decide +kernel
theorem dX10_fingers_155 : decode cX10_fingers 155 = .ok (.iconst 0, 1) := by decide +kernel
theorem dX10_fingers_156 : decode cX10_fingers 156 = .ok (.iadd, 1) := by decide +kernel
theorem dX10_fingers_157 : decode cX10_fingers 157 = .ok (.istore_n 3, 1) := by decide +kernel
theorem dX10_fingers_158 : decode cX10_fingers 158 = .ok (.iinc 4 1, 3) := by decide +kernel
theorem dX10_fingers_161 : decode cX10_fingers 161 = .ok (.goto (-156), 3) := by decide +kernel
theorem dX10_fingers_164 : decode cX10_fingers 164 = .ok (.aload_n 0, 1) := by decide +kernel
theorem dX10_fingers_165 : decode cX10_fingers 165 = .ok (.getfield 7, 3) := by decide +kernel
theorem dX10_fingers_168 : decode cX10_fingers 168 = .ok (.iload_n 1, 1) := by decide +kernel
theorem dX10_fingers_169 : decode cX10_fingers 169 = .ok (.iaload, 1) := by decide +kernel
theorem dX10_fingers_170 : decode cX10_fingers 170 = .ok (.iconst 1, 1) := by decide +kernel
theorem dX10_fingers_171 : decode cX10_fingers 171 = .ok (.if_icmp .ne 7, 3) := by decide +kernel
theorem dX10_fingers_174 : decode cX10_fingers 174 = .ok (.iconst 0, 1) := by decide +kernel
theorem dX10_fingers_175 : decode cX10_fingers 175 = .ok (.goto 11, 3) := by decide +kernel
theorem dX10_fingers_178 : decode cX10_fingers 178 = .ok (.aload_n 0, 1) := by decide +kernel
theorem dX10_fingers_179 : decode cX10_fingers 179 = .ok (.getfield 19, 3) := by decide +kernel
theorem dX10_fingers_182 : decode cX10_fingers 182 = .ok (.iload_n 1, 1) := by decide +kernel
theorem dX10_fingers_183 : decode cX10_fingers 183 = .ok (.iaload, 1) := by decide +kernel
theorem dX10_fingers_184 : decode cX10_fingers 184 = .ok (.iconst 1, 1) := by decide +kernel
theorem dX10_fingers_185 : decode cX10_fingers 185 = .ok (.isub, 1) := by decide +kernel
theorem dX10_fingers_186 : decode cX10_fingers 186 = .ok (.istore 4, 2) := by decide +kernel
theorem dX10_fingers_188 : decode cX10_fingers 188 = .ok (.iconst 2, 1) := by decide +kernel
theorem dX10_fingers_189 : decode cX10_fingers 189 = .ok (.aload_n 0, 1) := by decide +kernel
theorem dX10_fingers_190 : decode cX10_fingers 190 = .ok (.iload_n 1, 1) := by decide +kernel
theorem dX10_fingers_191 : decode cX10_fingers 191 = .ok (.iload_n 2, 1) := by decide +kernel
theorem dX10_fingers_192 : decode cX10_fingers 192 = .ok (.iload 4, 2) := by decide +kernel
theorem dX10_fingers_194 : decode cX10_fingers 194 = .ok (.invokevirtual 117, 3) := by decide +kernel
theorem dX10_fingers_197 : decode cX10_fingers 197 = .ok (.iconst 1, 1) := by decide +kernel
theorem dX10_fingers_198 : decode cX10_fingers 198 = .ok (.isub, 1) := by decide +kernel
theorem dX10_fingers_199 : decode cX10_fingers 199 = .ok (.imul, 1) := by decide +kernel
theorem dX10_fingers_200 : decode cX10_fingers 200 = .ok (.istore 5, 2) := by decide +kernel
theorem dX10_fingers_202 : decode cX10_fingers 202 = .ok (.aload_n 0, 1) := by decide +kernel
theorem dX10_fingers_203 : decode cX10_fingers 203 = .ok (.iload_n 1, 1) := by decide +kernel
theorem dX10_fingers_204 : decode cX10_fingers 204 = .ok (.iload_n 2, 1) := by decide +kernel
theorem dX10_fingers_205 : decode cX10_fingers 205 = .ok (.aload_n 0, 1) := by decide +kernel
theorem dX10_fingers_206 : decode cX10_fingers 206 = .ok (.getfield 7, 3) := by decide +kernel
theorem dX10_fingers_209 : decode cX10_fingers 209 = .ok (.iload_n 1, 1) := by decide +kernel
theorem dX10_fingers_210 : decode cX10_fingers 210 = .ok (.iaload, 1) := by decide +kernel
theorem dX10_fingers_211 : decode cX10_fingers 211 = .ok (.iconst 1, 1) := by decide +kernel
theorem dX10_fingers_212 : decode cX10_fingers 212 = .ok (.if_icmp .ne 17, 3) := by decide +kernel
theorem dX10_fingers_215 : decode cX10_fingers 215 = .ok (.aload_n 0, 1) := by decide +kernel
theorem dX10_fingers_216 : decode cX10_fingers 216 = .ok (.getfield 22, 3) := by decide +kernel
theorem dX10_fingers_219 : decode cX10_fingers 219 = .ok (.iconst 3, 1) := by decide +kernel
theorem dX10_fingers_220 : decode cX10_fingers 220 = .ok (.iload_n 1, 1) := by decide +kernel
theorem dX10_fingers_221 : decode cX10_fingers 221 = .ok (.imul, 1) := by decide +kernel
theorem dX10_fingers_222 : decode cX10_fingers 222 = .ok (.iaload, 1) := by decide +kernel
theorem dX10_fingers_223 : decode cX10_fingers 223 = .ok (.iload 5, 2) := by decide +kernel
theorem dX10_fingers_225 : decode cX10_fingers 225 = .ok (.isub, 1) := by decide +kernel
theorem dX10_fingers_226 : decode cX10_fingers 226 = .ok (.goto 17, 3) := by decide +kernel
theorem dX10_fingers_229 : decode cX10_fingers 229 = .ok (.aload_n 0, 1) := by decide +kernel
theorem dX10_fingers_230 : decode cX10_fingers 230 = .ok (.getfield 22, 3) := by decide +kernel
theorem dX10_fingers_233 : decode cX10_fingers 233 = .ok (.iconst 3, 1) := by decide +kernel
theorem dX10_fingers_234 : decode cX10_fingers 234 = .ok (.iload_n 1, 1) := by decide +kernel
theorem dX10_fingers_235 : decode cX10_fingers 235 = .ok (.imul, 1) := by decide +kernel
theorem dX10_fingers_236 : decode cX10_fingers 236 = .ok (.iload 4, 2) := by decide +kernel
theorem dX10_fingers_238 : decode cX10_fingers 238 = .ok (.iadd, 1) := by decide +kernel
theorem dX10_fingers_239 : decode cX10_fingers 239 = .ok (.iaload, 1) := by decide +kernel
theorem dX10_fingers_240 : decode cX10_fingers 240 = .ok (.iload 5, 2) := by decide +kernel
theorem dX10_fingers_242 : decode cX10_fingers 242 = .ok (.iadd, 1) := by decide +kernel
theorem dX10_fingers_243 : decode cX10_fingers 243 = .ok (.iload_n 3, 1) := by decide +kernel
theorem dX10_fingers_244 : decode cX10_fingers 244 = .ok (.invokevirtual 110, 3) := by decide +kernel
theorem dX10_fingers_247 : decode cX10_fingers 247 = .ok (.return_, 1) := by decide +kernel
theorem dX10_strings_0 : decode cX10_strings 0 = .ok (.iconst 0, 1) := by decide +kernel
theorem dX10_strings_1 : decode cX10_strings 1 = .ok (.istore 4, 2) := by decide +kernel
theorem dX10_strings_3 : decode cX10_strings 3 = .ok (.iconst 0, 1) := by decide +kernel
theorem dX10_strings_4 : decode cX10_strings 4 = .ok (.istore 5, 2) := by decide +kernel
theorem dX10_strings_6 : decode cX10_strings 6 = .ok (.iload 5, 2) := by decide +kernel
theorem dX10_strings_8 : decode cX10_strings 8 = .ok (.aload_n 0, 1) := by decide +kernel
theorem dX10_strings_9 : decode cX10_strings 9 = .ok (.getfield 19, 3) := by decide +kernel
theorem dX10_strings_12 : decode cX10_strings 12 = .ok (.iload_n 1, 1) := by decide +kernel
theorem dX10_strings_13 : decode cX10_strings 13 = .ok (.iaload, 1) := by decide +kernel
theorem dX10_strings_14 : decode cX10_strings 14 = .ok (.if_icmp .ge 82, 3) := by decide +kernel
theorem dX10_strings_17 : decode cX10_strings 17 = .ok (.aload_n 0, 1) := by decide +kernel
theorem dX10_strings_18 : decode cX10_strings 18 = .ok (.getfield 22, 3) := by decide +kernel
theorem dX10_strings_21 : decode cX10_strings 21 = .ok (.iconst 3, 1) := by decide +kernel
theorem dX10_strings_22 : decode cX10_strings 22 = .ok (.iload_n 1, 1) := by decide +kernel
theorem dX10_strings_23 : decode cX10_strings 23 = .ok (.imul, 1) := by decide +kernel
theorem dX10_strings_24 : decode cX10_strings 24 = .ok (.iload 5, 2) := by decide +kernel
theorem dX10_strings_26 : decode cX10_strings 26 = .ok (.iadd, 1) := by decide +kernel
theorem dX10_strings_27 : decode cX10_strings 27 = .ok (.iaload, 1) := by decide +kernel
theorem dX10_strings_28 : decode cX10_strings 28 = .ok (.aload_n 0, 1) := by decide +kernel
theorem dX10_strings_29 : decode cX10_strings 29 = .ok (.getfield 28, 3) := by decide +kernel
theorem dX10_strings_32 : decode cX10_strings 32 = .ok (.bipush 6, 2) := by decide +kernel
theorem dX10_strings_34 : decode cX10_strings 34 = .ok (.iload_n 3, 1) := by decide +kernel
theorem dX10_strings_35 : decode cX10_strings 35 = .ok (.iadd, 1) := by decide +kernel
theorem dX10_strings_36 : decode cX10_strings 36 = .ok (.iload 5, 2) := by decide +kernel
theorem dX10_strings_38 : decode cX10_strings 38 = .ok (.iadd, 1) := by decide +kernel
theorem dX10_strings_39 : decode cX10_strings 39 = .ok (.iaload, 1) := by decide +kernel
theorem dX10_strings_40 : decode cX10_strings 40 = .ok (.isub, 1) := by decide +kernel
theorem dX10_strings_41 : decode cX10_strings 41 = .ok (.istore 6, 2) := by decide +kernel
theorem dX10_strings_43 : decode cX10_strings 43 = .ok (.iload 6, 2) := by decide +kernel
theorem dX10_strings_45 : decode cX10_strings 45 = .ok (.ifCond .eq 18, 3) := by decide +kernel
theorem dX10_strings_48 : decode cX10_strings 48 = .ok (.iload 6, 2) := by decide +kernel
theorem dX10_strings_50 : decode cX10_strings 50 = .ok (.iload_n 2, 1) := by decide +kernel
theorem dX10_strings_51 : decode cX10_strings 51 = .ok (.iconst 1, 1) := by decide +kernel
theorem dX10_strings_52 : decode cX10_strings 52 = .ok (.iadd, 1) := by decide +kernel
theorem dX10_strings_53 : decode cX10_strings 53 = .ok (.iload_n 2, 1) := by decide +kernel
theorem dX10_strings_54 : decode cX10_strings 54 = .ok (.iconst 4, 1) := by decide +kernel
theorem dX10_strings_55 : decode cX10_strings 55 = .ok (.iadd, 1) := by decide +kernel
theorem dX10_strings_56 : decode cX10_strings 56 = .ok (.invokestatic 70, 3) := by decide +kernel
theorem dX10_strings_59 : decode cX10_strings 59 = .ok (.ifCond .ne 4, 3) := by decide +kernel
theorem dX10_strings_62 : decode cX10_strings 62 = .ok (.return_, 1) := by decide +kernel
theorem dX10_strings_63 : decode cX10_strings 63 = .ok (.iload 4, 2) := by decide +kernel
theorem dX10_strings_65 : decode cX10_strings 65 = .ok (.iload 6, 2) := by decide +kernel
theorem dX10_strings_67 : decode cX10_strings 67 = .ok (.ifCond .ne 7, 3) := by decide +kernel
theorem dX10_strings_70 : decode cX10_strings 70 = .ok (.iconst 0, 1) := by decide +kernel
theorem dX10_strings_71 : decode cX10_strings 71 = .ok (.goto 16, 3) := by decide +kernel
theorem dX10_strings_74 : decode cX10_strings 74 = .ok (.iload 6, 2) := by decide +kernel
theorem dX10_strings_76 : decode cX10_strings 76 = .ok (.iload_n 2, 1) := by decide +kernel
theorem dX10_strings_77 : decode cX10_strings 77 = .ok (.iconst 4, 1) := by decide +kernel
theorem dX10_strings_78 : decode cX10_strings 78 = .ok (.iadd, 1) := by decide +kernel
theorem dX10_strings_79 : decode cX10_strings 79 = .ok (.if_icmp .ne 7, 3) := by decide +kernel
theorem dX10_strings_82 : decode cX10_strings 82 = .ok (.iconst 2, 1) := by decide +kernel
theorem dX10_strings_83 : decode cX10_strings 83 = .ok (.goto 4, 3) := by decide +kernel
theorem dX10_strings_86 : decode cX10_strings 86 = .ok (.iconst 1, 1) := by decide +kernel
theorem dX10_strings_87 : decode cX10_strings 87 = .ok (.iadd, 1) := by decide +kernel
theorem dX10_strings_88 : decode cX10_strings 88 = .ok (.istore 4, 2) := by decide +kernel
theorem dX10_strings_90 : decode cX10_strings 90 = .ok (.iinc 5 1, 3) := by decide +kernel
theorem dX10_strings_93 : decode cX10_strings 93 = .ok (.goto (-87), 3) := by decide +kernel
theorem dX10_strings_96 : decode cX10_strings 96 = .ok (.aload_n 0, 1) := by decide +kernel
theorem dX10_strings_97 : decode cX10_strings 97 = .ok (.iload_n 1, 1) := by decide +kernel
theorem dX10_strings_98 : decode cX10_strings 98 = .ok (.iload_n 2, 1) := by decide +kernel
theorem dX10_strings_99 : decode cX10_strings 99 = .ok (.iload_n 3, 1) := by decide +kernel
theorem dX10_strings_100 : decode cX10_strings 100 = .ok (.iload 4, 2) := by decide +kernel
theorem dX10_strings_102 : decode cX10_strings 102 = .ok (.invokevirtual 110, 3) := by decide +kernel
theorem dX10_strings_105 : decode cX10_strings 105 = .ok (.return_, 1) := by decide +kernel
theorem dX10_breaths_0 : decode cX10_breaths 0 = .ok (.iconst 0, 1) := by decide +kernel
theorem dX10_breaths_1 : decode cX10_breaths 1 = .ok (.istore_n 2, 1) := by decide +kernel
theorem dX10_breaths_2 : decode cX10_breaths 2 = .ok (.iload_n 2, 1) := by decide +kernel
theorem dX10_breaths_3 : decode cX10_breaths 3 = .ok (.iload_n 1, 1) := by decide +kernel
theorem dX10_breaths_4 : decode cX10_breaths 4 = .ok (.if_icmp .gt 54, 3) := by decide +kernel
theorem dX10_breaths_7 : decode cX10_breaths 7 = .ok (.iconst 0, 1) := by decide +kernel
theorem dX10_breaths_8 : decode cX10_breaths 8 = .ok (.istore_n 3, 1) := by decide +kernel
theorem dX10_breaths_9 : decode cX10_breaths 9 = .ok (.iload_n 2, 1) := by decide +kernel
theorem dX10_breaths_10 : decode cX10_breaths 10 = .ok (.istore 4, 2) := by decide +kernel
theorem dX10_breaths_12 : decode cX10_breaths 12 = .ok (.iload 4, 2) := by decide +kernel
theorem dX10_breaths_14 : decode cX10_breaths 14 = .ok (.iload_n 1, 1) := by decide +kernel
theorem dX10_breaths_15 : decode cX10_breaths 15 = .ok (.if_icmp .gt 19, 3) := by decide +kernel
theorem dX10_breaths_18 : decode cX10_breaths 18 = .ok (.iload_n 3, 1) := by decide +kernel
theorem dX10_breaths_19 : decode cX10_breaths 19 = .ok (.aload_n 0, 1) := by decide +kernel
theorem dX10_breaths_20 : decode cX10_breaths 20 = .ok (.getfield 16, 3) := by decide +kernel
theorem dX10_breaths_23 : decode cX10_breaths 23 = .ok (.iload 4, 2) := by decide +kernel
theorem dX10_breaths_25 : decode cX10_breaths 25 = .ok (.iaload, 1) := by decide +kernel
theorem dX10_breaths_26 : decode cX10_breaths 26 = .ok (.iadd, 1) := by decide +kernel
theorem dX10_breaths_27 : decode cX10_breaths 27 = .ok (.istore_n 3, 1) := by decide +kernel
theorem dX10_breaths_28 : decode cX10_breaths 28 = .ok (.iinc 4 1, 3) := by decide +kernel
theorem dX10_breaths_31 : decode cX10_breaths 31 = .ok (.goto (-19), 3) := by decide +kernel
theorem dX10_breaths_34 : decode cX10_breaths 34 = .ok (.iload_n 3, 1) := by decide +kernel
theorem dX10_breaths_35 : decode cX10_breaths 35 = .ok (.aload_n 0, 1) := by decide +kernel
theorem dX10_breaths_36 : decode cX10_breaths 36 = .ok (.getfield 28, 3) := by decide +kernel
theorem dX10_breaths_39 : decode cX10_breaths 39 = .ok (.iconst 1, 1) := by decide +kernel
theorem dX10_breaths_40 : decode cX10_breaths 40 = .ok (.iaload, 1) := by decide +kernel
theorem dX10_breaths_41 : decode cX10_breaths 41 = .ok (.if_icmp .gt 11, 3) := by decide +kernel
theorem dX10_breaths_44 : decode cX10_breaths 44 = .ok (.aload_n 0, 1) := by decide +kernel
theorem dX10_breaths_45 : decode cX10_breaths 45 = .ok (.iload_n 1, 1) := by decide +kernel
theorem dX10_breaths_46 : decode cX10_breaths 46 = .ok (.iload_n 2, 1) := by decide +kernel
theorem dX10_breaths_47 : decode cX10_breaths 47 = .ok (.iconst 0, 1) := by decide +kernel
theorem dX10_breaths_48 : decode cX10_breaths 48 = .ok (.iconst 0, 1) := by decide +kernel
theorem dX10_breaths_49 : decode cX10_breaths 49 = .ok (.invokevirtual 110, 3) := by decide +kernel
theorem dX10_breaths_52 : decode cX10_breaths 52 = .ok (.iinc 2 1, 3) := by decide +kernel
theorem dX10_breaths_55 : decode cX10_breaths 55 = .ok (.goto (-53), 3) := by decide +kernel
theorem dX10_breaths_58 : decode cX10_breaths 58 = .ok (.return_, 1) := by decide +kernel
theorem dX10_isPartial_0 : decode cX10_isPartial 0 = .ok (.iload_n 0, 1) := by decide +kernel
theorem dX10_isPartial_1 : decode cX10_isPartial 1 = .ok (.bipush 12, 2) := by decide +kernel
theorem dX10_isPartial_3 : decode cX10_isPartial 3 = .ok (.if_icmp .eq 51, 3) := by decide +kernel
theorem dX10_isPartial_6 : decode cX10_isPartial 6 = .ok (.iload_n 0, 1) := by decide +kernel
theorem dX10_isPartial_7 : decode cX10_isPartial 7 = .ok (.bipush 19, 2) := by decide +kernel
theorem dX10_isPartial_9 : decode cX10_isPartial 9 = .ok (.if_icmp .eq 45, 3) := by decide +kernel
theorem dX10_isPartial_12 : decode cX10_isPartial 12 = .ok (.iload_n 0, 1) := by decide +kernel
theorem dX10_isPartial_13 : decode cX10_isPartial 13 = .ok (.bipush 24, 2) := by decide +kernel
theorem dX10_isPartial_15 : decode cX10_isPartial 15 = .ok (.if_icmp .eq 39, 3) := by decide +kernel
theorem dX10_isPartial_18 : decode cX10_isPartial 18 = .ok (.iload_n 0, 1) := by decide +kernel
theorem dX10_isPartial_19 : decode cX10_isPartial 19 = .ok (.bipush 28, 2) := by decide +kernel
theorem dX10_isPartial_21 : decode cX10_isPartial 21 = .ok (.if_icmp .eq 33, 3) := by decide +kernel
theorem dX10_isPartial_24 : decode cX10_isPartial 24 = .ok (.iload_n 0, 1) := by decide +kernel
theorem dX10_isPartial_25 : decode cX10_isPartial 25 = .ok (.bipush 31, 2) := by decide +kernel
theorem dX10_isPartial_27 : decode cX10_isPartial 27 = .ok (.if_icmp .eq 27, 3) := by decide +kernel
theorem dX10_isPartial_30 : decode cX10_isPartial 30 = .ok (.iload_n 0, 1) := by decide +kernel
theorem dX10_isPartial_31 : decode cX10_isPartial 31 = .ok (.bipush 34, 2) := by decide +kernel
theorem dX10_isPartial_33 : decode cX10_isPartial 33 = .ok (.if_icmp .eq 21, 3) := by decide +kernel
theorem dX10_isPartial_36 : decode cX10_isPartial 36 = .ok (.iload_n 0, 1) := by decide +kernel
theorem dX10_isPartial_37 : decode cX10_isPartial 37 = .ok (.bipush 36, 2) := by decide +kernel
theorem dX10_isPartial_39 : decode cX10_isPartial 39 = .ok (.if_icmp .eq 15, 3) := by decide +kernel
theorem dX10_isPartial_42 : decode cX10_isPartial 42 = .ok (.iload_n 0, 1) := by decide +kernel
theorem dX10_isPartial_43 : decode cX10_isPartial 43 = .ok (.bipush 38, 2) := by decide +kernel
theorem dX10_isPartial_45 : decode cX10_isPartial 45 = .ok (.if_icmp .eq 9, 3) := by decide +kernel
theorem dX10_isPartial_48 : decode cX10_isPartial 48 = .ok (.iload_n 0, 1) := by decide +kernel
theorem dX10_isPartial_49 : decode cX10_isPartial 49 = .ok (.bipush 40, 2) := by decide +kernel
theorem dX10_isPartial_51 : decode cX10_isPartial 51 = .ok (.if_icmp .ne 7, 3) := by decide +kernel
theorem dX10_isPartial_54 : decode cX10_isPartial 54 = .ok (.iconst 1, 1) := by decide +kernel
theorem dX10_isPartial_55 : decode cX10_isPartial 55 = .ok (.goto 4, 3) := by decide +kernel
theorem dX10_isPartial_58 : decode cX10_isPartial 58 = .ok (.iconst 0, 1) := by decide +kernel
theorem dX10_isPartial_59 : decode cX10_isPartial 59 = .ok (.ireturn, 1) := by decide +kernel
theorem dX10_played_0 : decode cX10_played 0 = .ok (.aload_n 0, 1) := by decide +kernel
theorem dX10_played_1 : decode cX10_played 1 = .ok (.getfield 19, 3) := by decide +kernel
theorem dX10_played_4 : decode cX10_played 4 = .ok (.iload_n 1, 1) := by decide +kernel
theorem dX10_played_5 : decode cX10_played 5 = .ok (.iaload, 1) := by decide +kernel
theorem dX10_played_6 : decode cX10_played 6 = .ok (.iconst 2, 1) := by decide +kernel
theorem dX10_played_7 : decode cX10_played 7 = .ok (.if_icmp .ne 16, 3) := by decide +kernel
theorem dX10_played_10 : decode cX10_played 10 = .ok (.aload_n 0, 1) := by decide +kernel
theorem dX10_played_11 : decode cX10_played 11 = .ok (.getfield 22, 3) := by decide +kernel
theorem dX10_played_14 : decode cX10_played 14 = .ok (.iconst 3, 1) := by decide +kernel
theorem dX10_played_15 : decode cX10_played 15 = .ok (.iload_n 1, 1) := by decide +kernel
theorem dX10_played_16 : decode cX10_played 16 = .ok (.imul, 1) := by decide +kernel
theorem dX10_played_17 : decode cX10_played 17 = .ok (.iload_n 2, 1) := by decide +kernel
theorem dX10_played_18 : decode cX10_played 18 = .ok (.iadd, 1) := by decide +kernel
theorem dX10_played_19 : decode cX10_played 19 = .ok (.iaload, 1) := by decide +kernel
theorem dX10_played_20 : decode cX10_played 20 = .ok (.goto 11, 3) := by decide +kernel
theorem dX10_played_23 : decode cX10_played 23 = .ok (.aload_n 0, 1) := by decide +kernel
theorem dX10_played_24 : decode cX10_played 24 = .ok (.getfield 22, 3) := by decide +kernel
theorem dX10_played_27 : decode cX10_played 27 = .ok (.iconst 3, 1) := by decide +kernel
theorem dX10_played_28 : decode cX10_played 28 = .ok (.iload_n 1, 1) := by decide +kernel
theorem dX10_played_29 : decode cX10_played 29 = .ok (.imul, 1) := by decide +kernel
theorem dX10_played_30 : decode cX10_played 30 = .ok (.iaload, 1) := by decide +kernel
theorem dX10_played_31 : decode cX10_played 31 = .ok (.ireturn, 1) := by decide +kernel
theorem dX10_isOther_0 : decode cX10_isOther 0 = .ok (.iconst 1, 1) := by decide +kernel
theorem dX10_isOther_1 : decode cX10_isOther 1 = .ok (.istore_n 3, 1) := by decide +kernel
theorem dX10_isOther_2 : decode cX10_isOther 2 = .ok (.iload_n 1, 1) := by decide +kernel
theorem dX10_isOther_3 : decode cX10_isOther 3 = .ok (.iconst 1, 1) := by decide +kernel
theorem dX10_isOther_4 : decode cX10_isOther 4 = .ok (.iadd, 1) := by decide +kernel
theorem dX10_isOther_5 : decode cX10_isOther 5 = .ok (.istore 4, 2) := by decide +kernel
theorem dX10_isOther_7 : decode cX10_isOther 7 = .ok (.iload 4, 2) := by decide +kernel
theorem dX10_isOther_9 : decode cX10_isOther 9 = .ok (.iload_n 2, 1) := by decide +kernel
theorem dX10_isOther_10 : decode cX10_isOther 10 = .ok (.if_icmp .ge 30, 3) := by decide +kernel
theorem dX10_isOther_13 : decode cX10_isOther 13 = .ok (.iload_n 3, 1) := by decide +kernel
theorem dX10_isOther_14 : decode cX10_isOther 14 = .ok (.ifCond .eq 18, 3) := by decide +kernel
theorem dX10_isOther_17 : decode cX10_isOther 17 = .ok (.aload_n 0, 1) := by decide +kernel
theorem dX10_isOther_18 : decode cX10_isOther 18 = .ok (.getfield 19, 3) := by decide +kernel
theorem dX10_isOther_21 : decode cX10_isOther 21 = .ok (.iload 4, 2) := by decide +kernel
theorem dX10_isOther_23 : decode cX10_isOther 23 = .ok (.iaload, 1) := by decide +kernel
theorem dX10_isOther_24 : decode cX10_isOther 24 = .ok (.iconst 1, 1) := by decide +kernel
theorem dX10_isOther_25 : decode cX10_isOther 25 = .ok (.if_icmp .ne 7, 3) := by decide +kernel
theorem dX10_isOther_28 : decode cX10_isOther 28 = .ok (.iconst 1, 1) := by decide +kernel
theorem dX10_isOther_29 : decode cX10_isOther 29 = .ok (.goto 4, 3) := by decide +kernel
theorem dX10_isOther_32 : decode cX10_isOther 32 = .ok (.iconst 0, 1) := by decide +kernel
theorem dX10_isOther_33 : decode cX10_isOther 33 = .ok (.istore_n 3, 1) := by decide +kernel
theorem dX10_isOther_34 : decode cX10_isOther 34 = .ok (.iinc 4 1, 3) := by decide +kernel
theorem dX10_isOther_37 : decode cX10_isOther 37 = .ok (.goto (-30), 3) := by decide +kernel
theorem dX10_isOther_40 : decode cX10_isOther 40 = .ok (.iload_n 3, 1) := by decide +kernel
theorem dX10_isOther_41 : decode cX10_isOther 41 = .ok (.ireturn, 1) := by decide +kernel
theorem dX10_sticks_0 : decode cX10_sticks 0 = .ok (.aload_n 0, 1) := by decide +kernel
theorem dX10_sticks_1 : decode cX10_sticks 1 = .ok (.getfield 19, 3) := by decide +kernel
theorem dX10_sticks_4 : decode cX10_sticks 4 = .ok (.iload_n 1, 1) := by decide +kernel
theorem dX10_sticks_5 : decode cX10_sticks 5 = .ok (.iaload, 1) := by decide +kernel
theorem dX10_sticks_6 : decode cX10_sticks 6 = .ok (.iconst 2, 1) := by decide +kernel
theorem dX10_sticks_7 : decode cX10_sticks 7 = .ok (.if_icmp .ne 12, 3) := by decide +kernel
theorem dX10_sticks_10 : decode cX10_sticks 10 = .ok (.aload_n 0, 1) := by decide +kernel
theorem dX10_sticks_11 : decode cX10_sticks 11 = .ok (.iload_n 1, 1) := by decide +kernel
theorem dX10_sticks_12 : decode cX10_sticks 12 = .ok (.iconst 2, 1) := by decide +kernel
theorem dX10_sticks_13 : decode cX10_sticks 13 = .ok (.iconst (-1), 1) := by decide +kernel
theorem dX10_sticks_14 : decode cX10_sticks 14 = .ok (.iconst 0, 1) := by decide +kernel
theorem dX10_sticks_15 : decode cX10_sticks 15 = .ok (.invokevirtual 110, 3) := by decide +kernel
theorem dX10_sticks_18 : decode cX10_sticks 18 = .ok (.return_, 1) := by decide +kernel
theorem dX10_sticks_19 : decode cX10_sticks 19 = .ok (.iconst 0, 1) := by decide +kernel
theorem dX10_sticks_20 : decode cX10_sticks 20 = .ok (.istore_n 2, 1) := by decide +kernel
theorem dX10_sticks_21 : decode cX10_sticks 21 = .ok (.iload_n 2, 1) := by decide +kernel
theorem dX10_sticks_22 : decode cX10_sticks 22 = .ok (.iconst 2, 1) := by decide +kernel
theorem dX10_sticks_23 : decode cX10_sticks 23 = .ok (.if_icmp .ge 98, 3) := by decide +kernel
theorem dX10_sticks_26 : decode cX10_sticks 26 = .ok (.iconst (-1), 1) := by decide +kernel
theorem dX10_sticks_27 : decode cX10_sticks 27 = .ok (.istore_n 3, 1) := by decide +kernel
theorem dX10_sticks_28 : decode cX10_sticks 28 = .ok (.iload_n 3, 1) := by decide +kernel
theorem dX10_sticks_29 : decode cX10_sticks 29 = .ok (.iload_n 1, 1) := by decide +kernel
theorem dX10_sticks_30 : decode cX10_sticks 30 = .ok (.if_icmp .ge 85, 3) := by decide +kernel
theorem dX10_sticks_33 : decode cX10_sticks 33 = .ok (.aload_n 0, 1) := by decide +kernel
theorem dX10_sticks_34 : decode cX10_sticks 34 = .ok (.iload_n 3, 1) := by decide +kernel
theorem dX10_sticks_35 : decode cX10_sticks 35 = .ok (.iload_n 1, 1) := by decide +kernel
theorem dX10_sticks_36 : decode cX10_sticks 36 = .ok (.invokevirtual 124, 3) := by decide +kernel
theorem dX10_sticks_39 : decode cX10_sticks 39 = .ok (.ifCond .ne 6, 3) := by decide +kernel
theorem dX10_sticks_42 : decode cX10_sticks 42 = .ok (.goto 67, 3) := by decide +kernel
theorem dX10_sticks_45 : decode cX10_sticks 45 = .ok (.aload_n 0, 1) := by decide +kernel
theorem dX10_sticks_46 : decode cX10_sticks 46 = .ok (.getfield 22, 3) := by decide +kernel
theorem dX10_sticks_49 : decode cX10_sticks 49 = .ok (.iconst 3, 1) := by decide +kernel
theorem dX10_sticks_50 : decode cX10_sticks 50 = .ok (.iload_n 1, 1) := by decide +kernel
theorem dX10_sticks_51 : decode cX10_sticks 51 = .ok (.imul, 1) := by decide +kernel
theorem dX10_sticks_52 : decode cX10_sticks 52 = .ok (.iaload, 1) := by decide +kernel
theorem dX10_sticks_53 : decode cX10_sticks 53 = .ok (.istore 4, 2) := by decide +kernel
theorem dX10_sticks_55 : decode cX10_sticks 55 = .ok (.iload_n 3, 1) := by decide +kernel
theorem dX10_sticks_56 : decode cX10_sticks 56 = .ok (.ifCond .ge 8, 3) := by decide +kernel
theorem dX10_sticks_59 : decode cX10_sticks 59 = .ok (.iload 4, 2) := by decide +kernel
theorem dX10_sticks_61 : decode cX10_sticks 61 = .ok (.goto 11, 3) := by decide +kernel
theorem dX10_sticks_64 : decode cX10_sticks 64 = .ok (.aload_n 0, 1) := by decide +kernel
theorem dX10_sticks_65 : decode cX10_sticks 65 = .ok (.iload_n 3, 1) := by decide +kernel
theorem dX10_sticks_66 : decode cX10_sticks 66 = .ok (.iconst 1, 1) := by decide +kernel
theorem dX10_sticks_67 : decode cX10_sticks 67 = .ok (.iload_n 2, 1) := by decide +kernel
theorem dX10_sticks_68 : decode cX10_sticks 68 = .ok (.isub, 1) := by decide +kernel
theorem dX10_sticks_69 : decode cX10_sticks 69 = .ok (.invokevirtual 128, 3) := by decide +kernel
theorem dX10_sticks_72 : decode cX10_sticks 72 = .ok (.istore 5, 2) := by decide +kernel
theorem dX10_sticks_74 : decode cX10_sticks 74 = .ok (.aload_n 0, 1) := by decide +kernel
theorem dX10_sticks_75 : decode cX10_sticks 75 = .ok (.iload_n 1, 1) := by decide +kernel
theorem dX10_sticks_76 : decode cX10_sticks 76 = .ok (.iload_n 2, 1) := by decide +kernel
theorem dX10_sticks_77 : decode cX10_sticks 77 = .ok (.iload_n 3, 1) := by decide +kernel
theorem dX10_sticks_78 : decode cX10_sticks 78 = .ok (.iload_n 2, 1) := by decide +kernel
theorem dX10_sticks_79 : decode cX10_sticks 79 = .ok (.ifCond .ne 10, 3) := by decide +kernel
theorem dX10_sticks_82 : decode cX10_sticks 82 = .ok (.iload 4, 2) := by decide +kernel
theorem dX10_sticks_84 : decode cX10_sticks 84 = .ok (.iload 5, 2) := by decide +kernel
theorem dX10_sticks_86 : decode cX10_sticks 86 = .ok (.if_icmp .gt 15, 3) := by decide +kernel
theorem dX10_sticks_89 : decode cX10_sticks 89 = .ok (.iload_n 2, 1) := by decide +kernel
theorem dX10_sticks_90 : decode cX10_sticks 90 = .ok (.iconst 1, 1) := by decide +kernel
theorem dX10_sticks_91 : decode cX10_sticks 91 = .ok (.if_icmp .ne 14, 3) := by decide +kernel
theorem dX10_sticks_94 : decode cX10_sticks 94 = .ok (.iload 4, 2) := by decide +kernel
theorem dX10_sticks_96 : decode cX10_sticks 96 = .ok (.iload 5, 2) := by decide +kernel
theorem dX10_sticks_98 : decode cX10_sticks 98 = .ok (.if_icmp .ge 7, 3) := by decide +kernel
theorem dX10_sticks_101 : decode cX10_sticks 101 = .ok (.iconst 4, 1) := by decide +kernel
theorem dX10_sticks_102 : decode cX10_sticks 102 = .ok (.goto 4, 3) := by decide +kernel
theorem dX10_sticks_105 : decode cX10_sticks 105 = .ok (.iconst 0, 1) := by decide +kernel
theorem dX10_sticks_106 : decode cX10_sticks 106 = .ok (.invokevirtual 110, 3) := by decide +kernel
theorem dX10_sticks_109 : decode cX10_sticks 109 = .ok (.iinc 3 1, 3) := by decide +kernel
theorem dX10_sticks_112 : decode cX10_sticks 112 = .ok (.goto (-84), 3) := by decide +kernel
theorem dX10_sticks_115 : decode cX10_sticks 115 = .ok (.iinc 2 1, 3) := by decide +kernel
theorem dX10_sticks_118 : decode cX10_sticks 118 = .ok (.goto (-97), 3) := by decide +kernel
theorem dX10_sticks_121 : decode cX10_sticks 121 = .ok (.return_, 1) := by decide +kernel
theorem dX10_noState_0 : decode cX10_noState 0 = .ok (.iload_n 1, 1) := by decide +kernel
theorem dX10_noState_1 : decode cX10_noState 1 = .ok (.iconst 0, 1) := by decide +kernel
theorem dX10_noState_2 : decode cX10_noState 2 = .ok (.aload_n 0, 1) := by decide +kernel
theorem dX10_noState_3 : decode cX10_noState 3 = .ok (.getfield 67, 3) := by decide +kernel
theorem dX10_noState_6 : decode cX10_noState 6 = .ok (.iconst 1, 1) := by decide +kernel
theorem dX10_noState_7 : decode cX10_noState 7 = .ok (.isub, 1) := by decide +kernel
theorem dX10_noState_8 : decode cX10_noState 8 = .ok (.invokestatic 70, 3) := by decide +kernel
theorem dX10_noState_11 : decode cX10_noState 11 = .ok (.ifCond .eq 17, 3) := by decide +kernel
theorem dX10_noState_14 : decode cX10_noState 14 = .ok (.iload_n 2, 1) := by decide +kernel
theorem dX10_noState_15 : decode cX10_noState 15 = .ok (.ifCond .lt 13, 3) := by decide +kernel
theorem dX10_noState_18 : decode cX10_noState 18 = .ok (.iload_n 2, 1) := by decide +kernel
theorem dX10_noState_19 : decode cX10_noState 19 = .ok (.aload_n 0, 1) := by decide +kernel
theorem dX10_noState_20 : decode cX10_noState 20 = .ok (.getfield 31, 3) := by decide +kernel
theorem dX10_noState_23 : decode cX10_noState 23 = .ok (.iload_n 1, 1) := by decide +kernel
theorem dX10_noState_24 : decode cX10_noState 24 = .ok (.iaload, 1) := by decide +kernel
theorem dX10_noState_25 : decode cX10_noState 25 = .ok (.if_icmp .lt 7, 3) := by decide +kernel
theorem dX10_noState_28 : decode cX10_noState 28 = .ok (.iconst 1, 1) := by decide +kernel
theorem dX10_noState_29 : decode cX10_noState 29 = .ok (.goto 4, 3) := by decide +kernel
theorem dX10_noState_32 : decode cX10_noState 32 = .ok (.iconst 0, 1) := by decide +kernel
theorem dX10_noState_33 : decode cX10_noState 33 = .ok (.ireturn, 1) := by decide +kernel
theorem dX10_states_0 : decode cX10_states 0 = .ok (.aload_n 0, 1) := by decide +kernel
theorem dX10_states_1 : decode cX10_states 1 = .ok (.invokevirtual 131, 3) := by decide +kernel
theorem dX10_states_4 : decode cX10_states 4 = .ok (.iload_n 1, 1) := by decide +kernel
theorem dX10_states_5 : decode cX10_states 5 = .ok (.iconst 0, 1) := by decide +kernel
theorem dX10_states_6 : decode cX10_states 6 = .ok (.aload_n 0, 1) := by decide +kernel
theorem dX10_states_7 : decode cX10_states 7 = .ok (.getfield 67, 3) := by decide +kernel
theorem dX10_states_10 : decode cX10_states 10 = .ok (.iconst 1, 1) := by decide +kernel
theorem dX10_states_11 : decode cX10_states 11 = .ok (.isub, 1) := by decide +kernel
theorem dX10_states_12 : decode cX10_states 12 = .ok (.invokestatic 70, 3) := by decide +kernel
theorem dX10_states_15 : decode cX10_states 15 = .ok (.ifCond .eq 12, 3) := by decide +kernel
theorem dX10_states_18 : decode cX10_states 18 = .ok (.aload_n 0, 1) := by decide +kernel
theorem dX10_states_19 : decode cX10_states 19 = .ok (.getfield 31, 3) := by decide +kernel
theorem dX10_states_22 : decode cX10_states 22 = .ok (.iload_n 1, 1) := by decide +kernel
theorem dX10_states_23 : decode cX10_states 23 = .ok (.iaload, 1) := by decide +kernel
theorem dX10_states_24 : decode cX10_states 24 = .ok (.goto 4, 3) := by decide +kernel
theorem dX10_states_27 : decode cX10_states 27 = .ok (.iconst (-1), 1) := by decide +kernel
theorem dX10_states_28 : decode cX10_states 28 = .ok (.ireturn, 1) := by decide +kernel
theorem dX10_state_0 : decode cX10_state 0 = .ok (.aload_n 0, 1) := by decide +kernel
theorem dX10_state_1 : decode cX10_state 1 = .ok (.invokevirtual 131, 3) := by decide +kernel
theorem dX10_state_4 : decode cX10_state 4 = .ok (.aload_n 0, 1) := by decide +kernel
theorem dX10_state_5 : decode cX10_state 5 = .ok (.iload_n 1, 1) := by decide +kernel
theorem dX10_state_6 : decode cX10_state 6 = .ok (.iload_n 2, 1) := by decide +kernel
theorem dX10_state_7 : decode cX10_state 7 = .ok (.invokevirtual 134, 3) := by decide +kernel
theorem dX10_state_10 : decode cX10_state 10 = .ok (.ifCond .ne 12, 3) := by decide +kernel
theorem dX10_state_13 : decode cX10_state 13 = .ok (.iload_n 3, 1) := by decide +kernel
theorem dX10_state_14 : decode cX10_state 14 = .ok (.iconst 0, 1) := by decide +kernel
theorem dX10_state_15 : decode cX10_state 15 = .ok (.iconst 2, 1) := by decide +kernel
theorem dX10_state_16 : decode cX10_state 16 = .ok (.invokestatic 70, 3) := by decide +kernel
theorem dX10_state_19 : decode cX10_state 19 = .ok (.ifCond .ne 5, 3) := by decide +kernel
theorem dX10_state_22 : decode cX10_state 22 = .ok (.iconst (-1), 1) := by decide +kernel
theorem dX10_state_23 : decode cX10_state 23 = .ok (.ireturn, 1) := by decide +kernel
theorem dX10_state_24 : decode cX10_state 24 = .ok (.bipush 80, 2) := by decide +kernel
theorem dX10_state_26 : decode cX10_state 26 = .ok (.iload_n 1, 1) := by decide +kernel
theorem dX10_state_27 : decode cX10_state 27 = .ok (.imul, 1) := by decide +kernel
theorem dX10_state_28 : decode cX10_state 28 = .ok (.iload_n 2, 1) := by decide +kernel
theorem dX10_state_29 : decode cX10_state 29 = .ok (.iadd, 1) := by decide +kernel
theorem dX10_state_30 : decode cX10_state 30 = .ok (.istore 4, 2) := by decide +kernel
theorem dX10_state_32 : decode cX10_state 32 = .ok (.iload_n 3, 1) := by decide +kernel
theorem dX10_state_33 : decode cX10_state 33 = .ok (.ifCond .ne 13, 3) := by decide +kernel
theorem dX10_state_36 : decode cX10_state 36 = .ok (.aload_n 0, 1) := by decide +kernel
theorem dX10_state_37 : decode cX10_state 37 = .ok (.getfield 40, 3) := by decide +kernel
theorem dX10_state_40 : decode cX10_state 40 = .ok (.iload 4, 2) := by decide +kernel
theorem dX10_state_42 : decode cX10_state 42 = .ok (.iaload, 1) := by decide +kernel
theorem dX10_state_43 : decode cX10_state 43 = .ok (.goto 25, 3) := by decide +kernel
theorem dX10_state_46 : decode cX10_state 46 = .ok (.iload_n 3, 1) := by decide +kernel
theorem dX10_state_47 : decode cX10_state 47 = .ok (.iconst 1, 1) := by decide +kernel
theorem dX10_state_48 : decode cX10_state 48 = .ok (.if_icmp .ne 13, 3) := by decide +kernel
theorem dX10_state_51 : decode cX10_state 51 = .ok (.aload_n 0, 1) := by decide +kernel
theorem dX10_state_52 : decode cX10_state 52 = .ok (.getfield 34, 3) := by decide +kernel
theorem dX10_state_55 : decode cX10_state 55 = .ok (.iload 4, 2) := by decide +kernel
theorem dX10_state_57 : decode cX10_state 57 = .ok (.iaload, 1) := by decide +kernel
theorem dX10_state_58 : decode cX10_state 58 = .ok (.goto 10, 3) := by decide +kernel
theorem dX10_state_61 : decode cX10_state 61 = .ok (.aload_n 0, 1) := by decide +kernel
theorem dX10_state_62 : decode cX10_state 62 = .ok (.getfield 37, 3) := by decide +kernel
theorem dX10_state_65 : decode cX10_state 65 = .ok (.iload 4, 2) := by decide +kernel
theorem dX10_state_67 : decode cX10_state 67 = .ok (.iaload, 1) := by decide +kernel
theorem dX10_state_68 : decode cX10_state 68 = .ok (.ireturn, 1) := by decide +kernel
theorem dX10_moved_0 : decode cX10_moved 0 = .ok (.iload_n 1, 1) := by decide +kernel
theorem dX10_moved_1 : decode cX10_moved 1 = .ok (.aload_n 0, 1) := by decide +kernel
theorem dX10_moved_2 : decode cX10_moved 2 = .ok (.getfield 28, 3) := by decide +kernel
theorem dX10_moved_5 : decode cX10_moved 5 = .ok (.iconst 0, 1) := by decide +kernel
theorem dX10_moved_6 : decode cX10_moved 6 = .ok (.iaload, 1) := by decide +kernel
theorem dX10_moved_7 : decode cX10_moved 7 = .ok (.imul, 1) := by decide +kernel
theorem dX10_moved_8 : decode cX10_moved 8 = .ok (.iload_n 2, 1) := by decide +kernel
theorem dX10_moved_9 : decode cX10_moved 9 = .ok (.if_icmp .le 8, 3) := by decide +kernel
theorem dX10_moved_12 : decode cX10_moved 12 = .ok (.bipush (-2), 2) := by decide +kernel
theorem dX10_moved_14 : decode cX10_moved 14 = .ok (.goto 4, 3) := by decide +kernel
theorem dX10_moved_17 : decode cX10_moved 17 = .ok (.iload_n 3, 1) := by decide +kernel
theorem dX10_moved_18 : decode cX10_moved 18 = .ok (.ireturn, 1) := by decide +kernel
theorem dX10_stepOf_0 : decode cX10_stepOf 0 = .ok (.bipush 80, 2) := by decide +kernel
theorem dX10_stepOf_2 : decode cX10_stepOf 2 = .ok (.iload_n 1, 1) := by decide +kernel
theorem dX10_stepOf_3 : decode cX10_stepOf 3 = .ok (.imul, 1) := by decide +kernel
theorem dX10_stepOf_4 : decode cX10_stepOf 4 = .ok (.iload_n 2, 1) := by decide +kernel
theorem dX10_stepOf_5 : decode cX10_stepOf 5 = .ok (.iadd, 1) := by decide +kernel
theorem dX10_stepOf_6 : decode cX10_stepOf 6 = .ok (.istore 5, 2) := by decide +kernel
theorem dX10_stepOf_8 : decode cX10_stepOf 8 = .ok (.bipush 80, 2) := by decide +kernel
theorem dX10_stepOf_10 : decode cX10_stepOf 10 = .ok (.iload_n 3, 1) := by decide +kernel
theorem dX10_stepOf_11 : decode cX10_stepOf 11 = .ok (.imul, 1) := by decide +kernel
theorem dX10_stepOf_12 : decode cX10_stepOf 12 = .ok (.iload 4, 2) := by decide +kernel
theorem dX10_stepOf_14 : decode cX10_stepOf 14 = .ok (.iadd, 1) := by decide +kernel
theorem dX10_stepOf_15 : decode cX10_stepOf 15 = .ok (.istore 6, 2) := by decide +kernel
theorem dX10_stepOf_17 : decode cX10_stepOf 17 = .ok (.aload_n 0, 1) := by decide +kernel
theorem dX10_stepOf_18 : decode cX10_stepOf 18 = .ok (.getfield 13, 3) := by decide +kernel
theorem dX10_stepOf_21 : decode cX10_stepOf 21 = .ok (.iload_n 3, 1) := by decide +kernel
theorem dX10_stepOf_22 : decode cX10_stepOf 22 = .ok (.iaload, 1) := by decide +kernel
theorem dX10_stepOf_23 : decode cX10_stepOf 23 = .ok (.aload_n 0, 1) := by decide +kernel
theorem dX10_stepOf_24 : decode cX10_stepOf 24 = .ok (.getfield 13, 3) := by decide +kernel
theorem dX10_stepOf_27 : decode cX10_stepOf 27 = .ok (.iload_n 1, 1) := by decide +kernel
theorem dX10_stepOf_28 : decode cX10_stepOf 28 = .ok (.iaload, 1) := by decide +kernel
theorem dX10_stepOf_29 : decode cX10_stepOf 29 = .ok (.isub, 1) := by decide +kernel
theorem dX10_stepOf_30 : decode cX10_stepOf 30 = .ok (.istore 7, 2) := by decide +kernel
theorem dX10_stepOf_32 : decode cX10_stepOf 32 = .ok (.aload_n 0, 1) := by decide +kernel
theorem dX10_stepOf_33 : decode cX10_stepOf 33 = .ok (.getfield 63, 3) := by decide +kernel
theorem dX10_stepOf_36 : decode cX10_stepOf 36 = .ok (.tableswitch 237 0 3 #[32, 136, 186, 207], 32) := by decide +kernel
theorem dX10_stepOf_68 : decode cX10_stepOf 68 = .ok (.aload_n 0, 1) := by decide +kernel
theorem dX10_stepOf_69 : decode cX10_stepOf 69 = .ok (.getfield 19, 3) := by decide +kernel
theorem dX10_stepOf_72 : decode cX10_stepOf 72 = .ok (.iload_n 1, 1) := by decide +kernel
theorem dX10_stepOf_73 : decode cX10_stepOf 73 = .ok (.iaload, 1) := by decide +kernel
theorem dX10_stepOf_74 : decode cX10_stepOf 74 = .ok (.iconst 1, 1) := by decide +kernel
theorem dX10_stepOf_75 : decode cX10_stepOf 75 = .ok (.if_icmp .ne 53, 3) := by decide +kernel
theorem dX10_stepOf_78 : decode cX10_stepOf 78 = .ok (.aload_n 0, 1) := by decide +kernel
theorem dX10_stepOf_79 : decode cX10_stepOf 79 = .ok (.getfield 19, 3) := by decide +kernel
theorem dX10_stepOf_82 : decode cX10_stepOf 82 = .ok (.iload_n 3, 1) := by decide +kernel
theorem dX10_stepOf_83 : decode cX10_stepOf 83 = .ok (.iaload, 1) := by decide +kernel
theorem dX10_stepOf_84 : decode cX10_stepOf 84 = .ok (.iconst 1, 1) := by decide +kernel
theorem dX10_stepOf_85 : decode cX10_stepOf 85 = .ok (.if_icmp .ne 43, 3) := by decide +kernel
theorem dX10_stepOf_88 : decode cX10_stepOf 88 = .ok (.aload_n 0, 1) := by decide +kernel
theorem dX10_stepOf_89 : decode cX10_stepOf 89 = .ok (.getfield 22, 3) := by decide +kernel
theorem dX10_stepOf_92 : decode cX10_stepOf 92 = .ok (.iconst 3, 1) := by decide +kernel
theorem dX10_stepOf_93 : decode cX10_stepOf 93 = .ok (.iload_n 1, 1) := by decide +kernel
theorem dX10_stepOf_94 : decode cX10_stepOf 94 = .ok (.imul, 1) := by decide +kernel
theorem dX10_stepOf_95 : decode cX10_stepOf 95 = .ok (.iaload, 1) := by decide +kernel
theorem dX10_stepOf_96 : decode cX10_stepOf 96 = .ok (.aload_n 0, 1) := by decide +kernel
theorem dX10_stepOf_97 : decode cX10_stepOf 97 = .ok (.getfield 22, 3) := by decide +kernel
theorem dX10_stepOf_100 : decode cX10_stepOf 100 = .ok (.iconst 3, 1) := by decide +kernel
theorem dX10_stepOf_101 : decode cX10_stepOf 101 = .ok (.iload_n 3, 1) := by decide +kernel
theorem dX10_stepOf_102 : decode cX10_stepOf 102 = .ok (.imul, 1) := by decide +kernel
theorem dX10_stepOf_103 : decode cX10_stepOf 103 = .ok (.iaload, 1) := by decide +kernel
theorem dX10_stepOf_104 : decode cX10_stepOf 104 = .ok (.if_icmp .eq 24, 3) := by decide +kernel
theorem dX10_stepOf_107 : decode cX10_stepOf 107 = .ok (.aload_n 0, 1) := by decide +kernel
theorem dX10_stepOf_108 : decode cX10_stepOf 108 = .ok (.getfield 34, 3) := by decide +kernel
theorem dX10_stepOf_111 : decode cX10_stepOf 111 = .ok (.iload 5, 2) := by decide +kernel
theorem dX10_stepOf_113 : decode cX10_stepOf 113 = .ok (.iaload, 1) := by decide +kernel
theorem dX10_stepOf_114 : decode cX10_stepOf 114 = .ok (.aload_n 0, 1) := by decide +kernel
theorem dX10_stepOf_115 : decode cX10_stepOf 115 = .ok (.getfield 34, 3) := by decide +kernel
theorem dX10_stepOf_118 : decode cX10_stepOf 118 = .ok (.iload 6, 2) := by decide +kernel
theorem dX10_stepOf_120 : decode cX10_stepOf 120 = .ok (.iaload, 1) := by decide +kernel
theorem dX10_stepOf_121 : decode cX10_stepOf 121 = .ok (.if_icmp .ne 7, 3) := by decide +kernel
theorem dX10_stepOf_124 : decode cX10_stepOf 124 = .ok (.iconst 1, 1) := by decide +kernel
theorem dX10_stepOf_125 : decode cX10_stepOf 125 = .ok (.goto 4, 3) := by decide +kernel
theorem dX10_stepOf_128 : decode cX10_stepOf 128 = .ok (.iconst 0, 1) := by decide +kernel
theorem dX10_stepOf_129 : decode cX10_stepOf 129 = .ok (.istore 8, 2) := by decide +kernel
theorem dX10_stepOf_131 : decode cX10_stepOf 131 = .ok (.aload_n 0, 1) := by decide +kernel
theorem dX10_stepOf_132 : decode cX10_stepOf 132 = .ok (.getfield 37, 3) := by decide +kernel
theorem dX10_stepOf_135 : decode cX10_stepOf 135 = .ok (.iload 5, 2) := by decide +kernel
theorem dX10_stepOf_137 : decode cX10_stepOf 137 = .ok (.iaload, 1) := by decide +kernel
theorem dX10_stepOf_138 : decode cX10_stepOf 138 = .ok (.aload_n 0, 1) := by decide +kernel
theorem dX10_stepOf_139 : decode cX10_stepOf 139 = .ok (.getfield 37, 3) := by decide +kernel
theorem dX10_stepOf_142 : decode cX10_stepOf 142 = .ok (.iload 6, 2) := by decide +kernel
theorem dX10_stepOf_144 : decode cX10_stepOf 144 = .ok (.iaload, 1) := by decide +kernel
theorem dX10_stepOf_145 : decode cX10_stepOf 145 = .ok (.invokestatic 121, 3) := by decide +kernel
theorem dX10_stepOf_148 : decode cX10_stepOf 148 = .ok (.istore 9, 2) := by decide +kernel
theorem dX10_stepOf_150 : decode cX10_stepOf 150 = .ok (.aload_n 0, 1) := by decide +kernel
theorem dX10_stepOf_151 : decode cX10_stepOf 151 = .ok (.iload 9, 2) := by decide +kernel
theorem dX10_stepOf_153 : decode cX10_stepOf 153 = .ok (.iload 7, 2) := by decide +kernel
theorem dX10_stepOf_155 : decode cX10_stepOf 155 = .ok (.iload 9, 2) := by decide +kernel
theorem dX10_stepOf_157 : decode cX10_stepOf 157 = .ok (.iload 8, 2) := by decide +kernel
theorem dX10_stepOf_159 : decode cX10_stepOf 159 = .ok (.ifCond .eq 7, 3) := by decide +kernel
theorem dX10_stepOf_162 : decode cX10_stepOf 162 = .ok (.iconst 3, 1) := by decide +kernel
theorem dX10_stepOf_163 : decode cX10_stepOf 163 = .ok (.goto 4, 3) := by decide +kernel
theorem dX10_stepOf_166 : decode cX10_stepOf 166 = .ok (.iconst 0, 1) := by decide +kernel
theorem dX10_stepOf_167 : decode cX10_stepOf 167 = .ok (.iadd, 1) := by decide +kernel
theorem dX10_stepOf_168 : decode cX10_stepOf 168 = .ok (.invokevirtual 137, 3) := by decide +kernel
theorem dX10_stepOf_171 : decode cX10_stepOf 171 = .ok (.ireturn, 1) := by decide +kernel
theorem dX10_stepOf_172 : decode cX10_stepOf 172 = .ok (.aload_n 0, 1) := by decide +kernel
theorem dX10_stepOf_173 : decode cX10_stepOf 173 = .ok (.getfield 34, 3) := by decide +kernel
theorem dX10_stepOf_176 : decode cX10_stepOf 176 = .ok (.iload 5, 2) := by decide +kernel
theorem dX10_stepOf_178 : decode cX10_stepOf 178 = .ok (.iaload, 1) := by decide +kernel
theorem dX10_stepOf_179 : decode cX10_stepOf 179 = .ok (.aload_n 0, 1) := by decide +kernel
theorem dX10_stepOf_180 : decode cX10_stepOf 180 = .ok (.getfield 34, 3) := by decide +kernel
theorem dX10_stepOf_183 : decode cX10_stepOf 183 = .ok (.iload 6, 2) := by decide +kernel
theorem dX10_stepOf_185 : decode cX10_stepOf 185 = .ok (.iaload, 1) := by decide +kernel
theorem dX10_stepOf_186 : decode cX10_stepOf 186 = .ok (.invokestatic 121, 3) := by decide +kernel
theorem dX10_stepOf_189 : decode cX10_stepOf 189 = .ok (.istore 10, 2) := by decide +kernel
theorem dX10_stepOf_191 : decode cX10_stepOf 191 = .ok (.aload_n 0, 1) := by decide +kernel
theorem dX10_stepOf_192 : decode cX10_stepOf 192 = .ok (.iload 10, 2) := by decide +kernel
theorem dX10_stepOf_194 : decode cX10_stepOf 194 = .ok (.iload 7, 2) := by decide +kernel
theorem dX10_stepOf_196 : decode cX10_stepOf 196 = .ok (.iconst 2, 1) := by decide +kernel
theorem dX10_stepOf_197 : decode cX10_stepOf 197 = .ok (.iload 10, 2) := by decide +kernel
theorem dX10_stepOf_199 : decode cX10_stepOf 199 = .ok (.imul, 1) := by decide +kernel
theorem dX10_stepOf_200 : decode cX10_stepOf 200 = .ok (.aload_n 0, 1) := by decide +kernel
theorem dX10_stepOf_201 : decode cX10_stepOf 201 = .ok (.getfield 37, 3) := by decide +kernel
theorem dX10_stepOf_204 : decode cX10_stepOf 204 = .ok (.iload 5, 2) := by decide +kernel
theorem dX10_stepOf_206 : decode cX10_stepOf 206 = .ok (.iaload, 1) := by decide +kernel
theorem dX10_stepOf_207 : decode cX10_stepOf 207 = .ok (.aload_n 0, 1) := by decide +kernel
theorem dX10_stepOf_208 : decode cX10_stepOf 208 = .ok (.getfield 37, 3) := by decide +kernel
theorem dX10_stepOf_211 : decode cX10_stepOf 211 = .ok (.iload 6, 2) := by decide +kernel
theorem dX10_stepOf_213 : decode cX10_stepOf 213 = .ok (.iaload, 1) := by decide +kernel
theorem dX10_stepOf_214 : decode cX10_stepOf 214 = .ok (.invokestatic 121, 3) := by decide +kernel
theorem dX10_stepOf_217 : decode cX10_stepOf 217 = .ok (.iadd, 1) := by decide +kernel
theorem dX10_stepOf_218 : decode cX10_stepOf 218 = .ok (.invokevirtual 137, 3) := by decide +kernel
theorem dX10_stepOf_221 : decode cX10_stepOf 221 = .ok (.ireturn, 1) := by decide +kernel
theorem dX10_stepOf_222 : decode cX10_stepOf 222 = .ok (.aload_n 0, 1) := by decide +kernel
theorem dX10_stepOf_223 : decode cX10_stepOf 223 = .ok (.iload_n 1, 1) := by decide +kernel
theorem dX10_stepOf_224 : decode cX10_stepOf 224 = .ok (.aload_n 0, 1) := by decide +kernel
theorem dX10_stepOf_225 : decode cX10_stepOf 225 = .ok (.getfield 34, 3) := by decide +kernel
theorem dX10_stepOf_228 : decode cX10_stepOf 228 = .ok (.iload 5, 2) := by decide +kernel
theorem dX10_stepOf_230 : decode cX10_stepOf 230 = .ok (.iaload, 1) := by decide +kernel
theorem dX10_stepOf_231 : decode cX10_stepOf 231 = .ok (.iload_n 3, 1) := by decide +kernel
theorem dX10_stepOf_232 : decode cX10_stepOf 232 = .ok (.aload_n 0, 1) := by decide +kernel
theorem dX10_stepOf_233 : decode cX10_stepOf 233 = .ok (.getfield 34, 3) := by decide +kernel
theorem dX10_stepOf_236 : decode cX10_stepOf 236 = .ok (.iload 6, 2) := by decide +kernel
theorem dX10_stepOf_238 : decode cX10_stepOf 238 = .ok (.iaload, 1) := by decide +kernel
theorem dX10_stepOf_239 : decode cX10_stepOf 239 = .ok (.invokevirtual 140, 3) := by decide +kernel
theorem dX10_stepOf_242 : decode cX10_stepOf 242 = .ok (.ireturn, 1) := by decide +kernel
theorem dX10_stepOf_243 : decode cX10_stepOf 243 = .ok (.aload_n 0, 1) := by decide +kernel
theorem dX10_stepOf_244 : decode cX10_stepOf 244 = .ok (.getfield 34, 3) := by decide +kernel
theorem dX10_stepOf_247 : decode cX10_stepOf 247 = .ok (.iload 5, 2) := by decide +kernel
theorem dX10_stepOf_249 : decode cX10_stepOf 249 = .ok (.iaload, 1) := by decide +kernel
theorem dX10_stepOf_250 : decode cX10_stepOf 250 = .ok (.aload_n 0, 1) := by decide +kernel
theorem dX10_stepOf_251 : decode cX10_stepOf 251 = .ok (.getfield 34, 3) := by decide +kernel
theorem dX10_stepOf_254 : decode cX10_stepOf 254 = .ok (.iload 6, 2) := by decide +kernel
theorem dX10_stepOf_256 : decode cX10_stepOf 256 = .ok (.iaload, 1) := by decide +kernel
theorem dX10_stepOf_257 : decode cX10_stepOf 257 = .ok (.invokestatic 121, 3) := by decide +kernel
theorem dX10_stepOf_260 : decode cX10_stepOf 260 = .ok (.istore 11, 2) := by decide +kernel
theorem dX10_stepOf_262 : decode cX10_stepOf 262 = .ok (.aload_n 0, 1) := by decide +kernel
theorem dX10_stepOf_263 : decode cX10_stepOf 263 = .ok (.iload 11, 2) := by decide +kernel
theorem dX10_stepOf_265 : decode cX10_stepOf 265 = .ok (.iload 7, 2) := by decide +kernel
theorem dX10_stepOf_267 : decode cX10_stepOf 267 = .ok (.iload 11, 2) := by decide +kernel
theorem dX10_stepOf_269 : decode cX10_stepOf 269 = .ok (.invokevirtual 137, 3) := by decide +kernel
theorem dX10_stepOf_272 : decode cX10_stepOf 272 = .ok (.ireturn, 1) := by decide +kernel
theorem dX10_stepOf_273 : decode cX10_stepOf 273 = .ok (.aload_n 0, 1) := by decide +kernel
theorem dX10_stepOf_274 : decode cX10_stepOf 274 = .ok (.iload_n 1, 1) := by decide +kernel
theorem dX10_stepOf_275 : decode cX10_stepOf 275 = .ok (.iload 5, 2) := by decide +kernel
theorem dX10_stepOf_277 : decode cX10_stepOf 277 = .ok (.iload_n 3, 1) := by decide +kernel
theorem dX10_stepOf_278 : decode cX10_stepOf 278 = .ok (.iload 6, 2) := by decide +kernel
theorem dX10_stepOf_280 : decode cX10_stepOf 280 = .ok (.invokevirtual 144, 3) := by decide +kernel
theorem dX10_stepOf_283 : decode cX10_stepOf 283 = .ok (.ireturn, 1) := by decide +kernel
theorem dX10_breathed_0 : decode cX10_breathed 0 = .ok (.iload_n 2, 1) := by decide +kernel
theorem dX10_breathed_1 : decode cX10_breathed 1 = .ok (.iload 4, 2) := by decide +kernel
theorem dX10_breathed_3 : decode cX10_breathed 3 = .ok (.if_icmp .ne 5, 3) := by decide +kernel
theorem dX10_breathed_6 : decode cX10_breathed 6 = .ok (.iconst 0, 1) := by decide +kernel
theorem dX10_breathed_7 : decode cX10_breathed 7 = .ok (.ireturn, 1) := by decide +kernel
theorem dX10_breathed_8 : decode cX10_breathed 8 = .ok (.aload_n 0, 1) := by decide +kernel
theorem dX10_breathed_9 : decode cX10_breathed 9 = .ok (.getfield 28, 3) := by decide +kernel
theorem dX10_breathed_12 : decode cX10_breathed 12 = .ok (.iconst 2, 1) := by decide +kernel
theorem dX10_breathed_13 : decode cX10_breathed 13 = .ok (.iaload, 1) := by decide +kernel
theorem dX10_breathed_14 : decode cX10_breathed 14 = .ok (.aload_n 0, 1) := by decide +kernel
theorem dX10_breathed_15 : decode cX10_breathed 15 = .ok (.getfield 13, 3) := by decide +kernel
theorem dX10_breathed_18 : decode cX10_breathed 18 = .ok (.iload_n 3, 1) := by decide +kernel
theorem dX10_breathed_19 : decode cX10_breathed 19 = .ok (.iaload, 1) := by decide +kernel
theorem dX10_breathed_20 : decode cX10_breathed 20 = .ok (.aload_n 0, 1) := by decide +kernel
theorem dX10_breathed_21 : decode cX10_breathed 21 = .ok (.getfield 13, 3) := by decide +kernel
theorem dX10_breathed_24 : decode cX10_breathed 24 = .ok (.iload_n 1, 1) := by decide +kernel
theorem dX10_breathed_25 : decode cX10_breathed 25 = .ok (.iaload, 1) := by decide +kernel
theorem dX10_breathed_26 : decode cX10_breathed 26 = .ok (.isub, 1) := by decide +kernel
theorem dX10_breathed_27 : decode cX10_breathed 27 = .ok (.aload_n 0, 1) := by decide +kernel
theorem dX10_breathed_28 : decode cX10_breathed 28 = .ok (.getfield 16, 3) := by decide +kernel
theorem dX10_breathed_31 : decode cX10_breathed 31 = .ok (.iload_n 1, 1) := by decide +kernel
theorem dX10_breathed_32 : decode cX10_breathed 32 = .ok (.iaload, 1) := by decide +kernel
theorem dX10_breathed_33 : decode cX10_breathed 33 = .ok (.isub, 1) := by decide +kernel
theorem dX10_breathed_34 : decode cX10_breathed 34 = .ok (.isub, 1) := by decide +kernel
theorem dX10_breathed_35 : decode cX10_breathed 35 = .ok (.istore 5, 2) := by decide +kernel
theorem dX10_breathed_37 : decode cX10_breathed 37 = .ok (.iload 4, 2) := by decide +kernel
theorem dX10_breathed_39 : decode cX10_breathed 39 = .ok (.iload_n 3, 1) := by decide +kernel
theorem dX10_breathed_40 : decode cX10_breathed 40 = .ok (.if_icmp .ne 14, 3) := by decide +kernel
theorem dX10_breathed_43 : decode cX10_breathed 43 = .ok (.iload 5, 2) := by decide +kernel
theorem dX10_breathed_45 : decode cX10_breathed 45 = .ok (.aload_n 0, 1) := by decide +kernel
theorem dX10_breathed_46 : decode cX10_breathed 46 = .ok (.getfield 16, 3) := by decide +kernel
theorem dX10_breathed_49 : decode cX10_breathed 49 = .ok (.iload_n 1, 1) := by decide +kernel
theorem dX10_breathed_50 : decode cX10_breathed 50 = .ok (.iaload, 1) := by decide +kernel
theorem dX10_breathed_51 : decode cX10_breathed 51 = .ok (.if_icmp .lt 6, 3) := by decide +kernel
theorem dX10_breathed_54 : decode cX10_breathed 54 = .ok (.bipush (-2), 2) := by decide +kernel
theorem dX10_breathed_56 : decode cX10_breathed 56 = .ok (.ireturn, 1) := by decide +kernel
theorem dX10_breathed_57 : decode cX10_breathed 57 = .ok (.iconst 1, 1) := by decide +kernel
theorem dX10_breathed_58 : decode cX10_breathed 58 = .ok (.iload 5, 2) := by decide +kernel
theorem dX10_breathed_60 : decode cX10_breathed 60 = .ok (.ifCond .le 10, 3) := by decide +kernel
theorem dX10_breathed_63 : decode cX10_breathed 63 = .ok (.iconst 2, 1) := by decide +kernel
theorem dX10_breathed_64 : decode cX10_breathed 64 = .ok (.iload 5, 2) := by decide +kernel
theorem dX10_breathed_66 : decode cX10_breathed 66 = .ok (.imul, 1) := by decide +kernel
theorem dX10_breathed_67 : decode cX10_breathed 67 = .ok (.goto 4, 3) := by decide +kernel
theorem dX10_breathed_70 : decode cX10_breathed 70 = .ok (.iconst 0, 1) := by decide +kernel
theorem dX10_breathed_71 : decode cX10_breathed 71 = .ok (.iadd, 1) := by decide +kernel
theorem dX10_breathed_72 : decode cX10_breathed 72 = .ok (.ireturn, 1) := by decide +kernel
theorem dX10_latest_0 : decode cX10_latest 0 = .ok (.aload_n 0, 1) := by decide +kernel
theorem dX10_latest_1 : decode cX10_latest 1 = .ok (.getfield 34, 3) := by decide +kernel
theorem dX10_latest_4 : decode cX10_latest 4 = .ok (.iload_n 2, 1) := by decide +kernel
theorem dX10_latest_5 : decode cX10_latest 5 = .ok (.iaload, 1) := by decide +kernel
theorem dX10_latest_6 : decode cX10_latest 6 = .ok (.iconst 2, 1) := by decide +kernel
theorem dX10_latest_7 : decode cX10_latest 7 = .ok (.if_icmp .eq 13, 3) := by decide +kernel
theorem dX10_latest_10 : decode cX10_latest 10 = .ok (.aload_n 0, 1) := by decide +kernel
theorem dX10_latest_11 : decode cX10_latest 11 = .ok (.getfield 34, 3) := by decide +kernel
theorem dX10_latest_14 : decode cX10_latest 14 = .ok (.iload_n 2, 1) := by decide +kernel
theorem dX10_latest_15 : decode cX10_latest 15 = .ok (.iaload, 1) := by decide +kernel
theorem dX10_latest_16 : decode cX10_latest 16 = .ok (.iload_n 3, 1) := by decide +kernel
theorem dX10_latest_17 : decode cX10_latest 17 = .ok (.if_icmp .ne 7, 3) := by decide +kernel
theorem dX10_latest_20 : decode cX10_latest 20 = .ok (.iload_n 1, 1) := by decide +kernel
theorem dX10_latest_21 : decode cX10_latest 21 = .ok (.goto 9, 3) := by decide +kernel
theorem dX10_latest_24 : decode cX10_latest 24 = .ok (.aload_n 0, 1) := by decide +kernel
theorem dX10_latest_25 : decode cX10_latest 25 = .ok (.getfield 37, 3) := by decide +kernel
theorem dX10_latest_28 : decode cX10_latest 28 = .ok (.iload_n 2, 1) := by decide +kernel
theorem dX10_latest_29 : decode cX10_latest 29 = .ok (.iaload, 1) := by decide +kernel
theorem dX10_latest_30 : decode cX10_latest 30 = .ok (.ireturn, 1) := by decide +kernel
theorem dX10_struck_0 : decode cX10_struck 0 = .ok (.iconst 0, 1) := by decide +kernel
theorem dX10_struck_1 : decode cX10_struck 1 = .ok (.istore 5, 2) := by decide +kernel
theorem dX10_struck_3 : decode cX10_struck 3 = .ok (.iconst 0, 1) := by decide +kernel
theorem dX10_struck_4 : decode cX10_struck 4 = .ok (.istore 6, 2) := by decide +kernel
theorem dX10_struck_6 : decode cX10_struck 6 = .ok (.iload 6, 2) := by decide +kernel
theorem dX10_struck_8 : decode cX10_struck 8 = .ok (.iconst 2, 1) := by decide +kernel
theorem dX10_struck_9 : decode cX10_struck 9 = .ok (.if_icmp .ge 156, 3) := by decide +kernel
theorem dX10_struck_12 : decode cX10_struck 12 = .ok (.aload_n 0, 1) := by decide +kernel
theorem dX10_struck_13 : decode cX10_struck 13 = .ok (.iload_n 1, 1) := by decide +kernel
theorem dX10_struck_14 : decode cX10_struck 14 = .ok (.iload_n 2, 1) := by decide +kernel
theorem dX10_struck_15 : decode cX10_struck 15 = .ok (.iload 6, 2) := by decide +kernel
theorem dX10_struck_17 : decode cX10_struck 17 = .ok (.invokevirtual 147, 3) := by decide +kernel
theorem dX10_struck_20 : decode cX10_struck 20 = .ok (.istore 7, 2) := by decide +kernel
theorem dX10_struck_22 : decode cX10_struck 22 = .ok (.aload_n 0, 1) := by decide +kernel
theorem dX10_struck_23 : decode cX10_struck 23 = .ok (.getfield 34, 3) := by decide +kernel
theorem dX10_struck_26 : decode cX10_struck 26 = .ok (.iload 4, 2) := by decide +kernel
theorem dX10_struck_28 : decode cX10_struck 28 = .ok (.iaload, 1) := by decide +kernel
theorem dX10_struck_29 : decode cX10_struck 29 = .ok (.iconst 2, 1) := by decide +kernel
theorem dX10_struck_30 : decode cX10_struck 30 = .ok (.if_icmp .eq 30, 3) := by decide +kernel
theorem dX10_struck_33 : decode cX10_struck 33 = .ok (.aload_n 0, 1) := by decide +kernel
theorem dX10_struck_34 : decode cX10_struck 34 = .ok (.getfield 34, 3) := by decide +kernel
theorem dX10_struck_37 : decode cX10_struck 37 = .ok (.iload 4, 2) := by decide +kernel
theorem dX10_struck_39 : decode cX10_struck 39 = .ok (.iaload, 1) := by decide +kernel
theorem dX10_struck_40 : decode cX10_struck 40 = .ok (.iload 6, 2) := by decide +kernel
theorem dX10_struck_42 : decode cX10_struck 42 = .ok (.if_icmp .eq 18, 3) := by decide +kernel
theorem dX10_struck_45 : decode cX10_struck 45 = .ok (.aload_n 0, 1) := by decide +kernel
theorem dX10_struck_46 : decode cX10_struck 46 = .ok (.getfield 37, 3) := by decide +kernel
theorem dX10_struck_49 : decode cX10_struck 49 = .ok (.iload 4, 2) := by decide +kernel
theorem dX10_struck_51 : decode cX10_struck 51 = .ok (.iaload, 1) := by decide +kernel
theorem dX10_struck_52 : decode cX10_struck 52 = .ok (.iload 7, 2) := by decide +kernel
theorem dX10_struck_54 : decode cX10_struck 54 = .ok (.if_icmp .eq 105, 3) := by decide +kernel
theorem dX10_struck_57 : decode cX10_struck 57 = .ok (.bipush (-2), 2) := by decide +kernel
theorem dX10_struck_59 : decode cX10_struck 59 = .ok (.ireturn, 1) := by decide +kernel
theorem dX10_struck_60 : decode cX10_struck 60 = .ok (.iload 7, 2) := by decide +kernel
theorem dX10_struck_62 : decode cX10_struck 62 = .ok (.ifCond .ge 7, 3) := by decide +kernel
theorem dX10_struck_65 : decode cX10_struck 65 = .ok (.iconst 0, 1) := by decide +kernel
theorem dX10_struck_66 : decode cX10_struck 66 = .ok (.goto 21, 3) := by decide +kernel
theorem dX10_struck_69 : decode cX10_struck 69 = .ok (.aload_n 0, 1) := by decide +kernel
theorem dX10_struck_70 : decode cX10_struck 70 = .ok (.iload 7, 2) := by decide +kernel
theorem dX10_struck_72 : decode cX10_struck 72 = .ok (.iload 6, 2) := by decide +kernel
theorem dX10_struck_74 : decode cX10_struck 74 = .ok (.invokevirtual 128, 3) := by decide +kernel
theorem dX10_struck_77 : decode cX10_struck 77 = .ok (.aload_n 0, 1) := by decide +kernel
theorem dX10_struck_78 : decode cX10_struck 78 = .ok (.iload_n 3, 1) := by decide +kernel
theorem dX10_struck_79 : decode cX10_struck 79 = .ok (.iload 6, 2) := by decide +kernel
theorem dX10_struck_81 : decode cX10_struck 81 = .ok (.invokevirtual 128, 3) := by decide +kernel
theorem dX10_struck_84 : decode cX10_struck 84 = .ok (.invokestatic 121, 3) := by decide +kernel
theorem dX10_struck_87 : decode cX10_struck 87 = .ok (.istore 8, 2) := by decide +kernel
theorem dX10_struck_89 : decode cX10_struck 89 = .ok (.iload 7, 2) := by decide +kernel
theorem dX10_struck_91 : decode cX10_struck 91 = .ok (.ifCond .lt 32, 3) := by decide +kernel
theorem dX10_struck_94 : decode cX10_struck 94 = .ok (.iload 8, 2) := by decide +kernel
theorem dX10_struck_96 : decode cX10_struck 96 = .ok (.aload_n 0, 1) := by decide +kernel
theorem dX10_struck_97 : decode cX10_struck 97 = .ok (.getfield 28, 3) := by decide +kernel
theorem dX10_struck_100 : decode cX10_struck 100 = .ok (.iconst 0, 1) := by decide +kernel
theorem dX10_struck_101 : decode cX10_struck 101 = .ok (.iaload, 1) := by decide +kernel
theorem dX10_struck_102 : decode cX10_struck 102 = .ok (.imul, 1) := by decide +kernel
