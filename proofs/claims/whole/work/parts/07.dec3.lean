theorem dX10_struck_103 : decode cX10_struck 103 = .ok (.aload_n 0, 1) := by decide +kernel
theorem dX10_struck_104 : decode cX10_struck 104 = .ok (.getfield 13, 3) := by decide +kernel
theorem dX10_struck_107 : decode cX10_struck 107 = .ok (.iload_n 3, 1) := by decide +kernel
theorem dX10_struck_108 : decode cX10_struck 108 = .ok (.iaload, 1) := by decide +kernel
theorem dX10_struck_109 : decode cX10_struck 109 = .ok (.aload_n 0, 1) := by decide +kernel
theorem dX10_struck_110 : decode cX10_struck 110 = .ok (.getfield 13, 3) := by decide +kernel
theorem dX10_struck_113 : decode cX10_struck 113 = .ok (.iload 7, 2) := by decide +kernel
theorem dX10_struck_115 : decode cX10_struck 115 = .ok (.iaload, 1) := by decide +kernel
theorem dX10_struck_116 : decode cX10_struck 116 = .ok (.isub, 1) := by decide +kernel
theorem dX10_struck_117 : decode cX10_struck 117 = .ok (.if_icmp .le 6, 3) := by decide +kernel
theorem dX10_struck_120 : decode cX10_struck 120 = .ok (.bipush (-2), 2) := by decide +kernel
theorem dX10_struck_122 : decode cX10_struck 122 = .ok (.ireturn, 1) := by decide +kernel
theorem dX10_struck_123 : decode cX10_struck 123 = .ok (.iload 5, 2) := by decide +kernel
theorem dX10_struck_125 : decode cX10_struck 125 = .ok (.iload 8, 2) := by decide +kernel
theorem dX10_struck_127 : decode cX10_struck 127 = .ok (.aload_n 0, 1) := by decide +kernel
theorem dX10_struck_128 : decode cX10_struck 128 = .ok (.getfield 34, 3) := by decide +kernel
theorem dX10_struck_131 : decode cX10_struck 131 = .ok (.iload_n 2, 1) := by decide +kernel
theorem dX10_struck_132 : decode cX10_struck 132 = .ok (.iaload, 1) := by decide +kernel
theorem dX10_struck_133 : decode cX10_struck 133 = .ok (.iload 6, 2) := by decide +kernel
theorem dX10_struck_135 : decode cX10_struck 135 = .ok (.if_icmp .ne 19, 3) := by decide +kernel
theorem dX10_struck_138 : decode cX10_struck 138 = .ok (.aload_n 0, 1) := by decide +kernel
theorem dX10_struck_139 : decode cX10_struck 139 = .ok (.getfield 34, 3) := by decide +kernel
theorem dX10_struck_142 : decode cX10_struck 142 = .ok (.iload 4, 2) := by decide +kernel
theorem dX10_struck_144 : decode cX10_struck 144 = .ok (.iaload, 1) := by decide +kernel
theorem dX10_struck_145 : decode cX10_struck 145 = .ok (.iload 6, 2) := by decide +kernel
theorem dX10_struck_147 : decode cX10_struck 147 = .ok (.if_icmp .ne 7, 3) := by decide +kernel
theorem dX10_struck_150 : decode cX10_struck 150 = .ok (.iconst 2, 1) := by decide +kernel
theorem dX10_struck_151 : decode cX10_struck 151 = .ok (.goto 4, 3) := by decide +kernel
theorem dX10_struck_154 : decode cX10_struck 154 = .ok (.iconst 0, 1) := by decide +kernel
theorem dX10_struck_155 : decode cX10_struck 155 = .ok (.iadd, 1) := by decide +kernel
theorem dX10_struck_156 : decode cX10_struck 156 = .ok (.iadd, 1) := by decide +kernel
theorem dX10_struck_157 : decode cX10_struck 157 = .ok (.istore 5, 2) := by decide +kernel
theorem dX10_struck_159 : decode cX10_struck 159 = .ok (.iinc 6 1, 3) := by decide +kernel
theorem dX10_struck_162 : decode cX10_struck 162 = .ok (.goto (-156), 3) := by decide +kernel
theorem dX10_struck_165 : decode cX10_struck 165 = .ok (.iload 5, 2) := by decide +kernel
theorem dX10_struck_167 : decode cX10_struck 167 = .ok (.ireturn, 1) := by decide +kernel
theorem dX10_step_0 : decode cX10_step 0 = .ok (.aload_n 0, 1) := by decide +kernel
theorem dX10_step_1 : decode cX10_step 1 = .ok (.invokevirtual 131, 3) := by decide +kernel
theorem dX10_step_4 : decode cX10_step 4 = .ok (.aload_n 0, 1) := by decide +kernel
theorem dX10_step_5 : decode cX10_step 5 = .ok (.iload_n 1, 1) := by decide +kernel
theorem dX10_step_6 : decode cX10_step 6 = .ok (.iload_n 2, 1) := by decide +kernel
theorem dX10_step_7 : decode cX10_step 7 = .ok (.invokevirtual 134, 3) := by decide +kernel
theorem dX10_step_10 : decode cX10_step 10 = .ok (.ifCond .ne 24, 3) := by decide +kernel
theorem dX10_step_13 : decode cX10_step 13 = .ok (.aload_n 0, 1) := by decide +kernel
theorem dX10_step_14 : decode cX10_step 14 = .ok (.iload_n 1, 1) := by decide +kernel
theorem dX10_step_15 : decode cX10_step 15 = .ok (.invokevirtual 150, 3) := by decide +kernel
theorem dX10_step_18 : decode cX10_step 18 = .ok (.ifCond .lt 16, 3) := by decide +kernel
theorem dX10_step_21 : decode cX10_step 21 = .ok (.aload_n 0, 1) := by decide +kernel
theorem dX10_step_22 : decode cX10_step 22 = .ok (.aload_n 0, 1) := by decide +kernel
theorem dX10_step_23 : decode cX10_step 23 = .ok (.iload_n 1, 1) := by decide +kernel
theorem dX10_step_24 : decode cX10_step 24 = .ok (.invokevirtual 150, 3) := by decide +kernel
theorem dX10_step_27 : decode cX10_step 27 = .ok (.iload_n 3, 1) := by decide +kernel
theorem dX10_step_28 : decode cX10_step 28 = .ok (.invokevirtual 134, 3) := by decide +kernel
theorem dX10_step_31 : decode cX10_step 31 = .ok (.ifCond .eq 5, 3) := by decide +kernel
theorem dX10_step_34 : decode cX10_step 34 = .ok (.iconst (-1), 1) := by decide +kernel
theorem dX10_step_35 : decode cX10_step 35 = .ok (.ireturn, 1) := by decide +kernel
theorem dX10_step_36 : decode cX10_step 36 = .ok (.aload_n 0, 1) := by decide +kernel
theorem dX10_step_37 : decode cX10_step 37 = .ok (.iload_n 1, 1) := by decide +kernel
theorem dX10_step_38 : decode cX10_step 38 = .ok (.iload_n 2, 1) := by decide +kernel
theorem dX10_step_39 : decode cX10_step 39 = .ok (.aload_n 0, 1) := by decide +kernel
theorem dX10_step_40 : decode cX10_step 40 = .ok (.iload_n 1, 1) := by decide +kernel
theorem dX10_step_41 : decode cX10_step 41 = .ok (.invokevirtual 150, 3) := by decide +kernel
theorem dX10_step_44 : decode cX10_step 44 = .ok (.iload_n 3, 1) := by decide +kernel
theorem dX10_step_45 : decode cX10_step 45 = .ok (.invokevirtual 153, 3) := by decide +kernel
theorem dX10_step_48 : decode cX10_step 48 = .ok (.ireturn, 1) := by decide +kernel
theorem dX10_isLet_0 : decode cX10_isLet 0 = .ok (.aload_n 0, 1) := by decide +kernel
theorem dX10_isLet_1 : decode cX10_isLet 1 = .ok (.getfield 25, 3) := by decide +kernel
theorem dX10_isLet_4 : decode cX10_isLet 4 = .ok (.iload_n 1, 1) := by decide +kernel
theorem dX10_isLet_5 : decode cX10_isLet 5 = .ok (.iaload, 1) := by decide +kernel
theorem dX10_isLet_6 : decode cX10_isLet 6 = .ok (.ifCond .lt 13, 3) := by decide +kernel
theorem dX10_isLet_9 : decode cX10_isLet 9 = .ok (.aload_n 0, 1) := by decide +kernel
theorem dX10_isLet_10 : decode cX10_isLet 10 = .ok (.getfield 25, 3) := by decide +kernel
theorem dX10_isLet_13 : decode cX10_isLet 13 = .ok (.iload_n 1, 1) := by decide +kernel
theorem dX10_isLet_14 : decode cX10_isLet 14 = .ok (.iaload, 1) := by decide +kernel
theorem dX10_isLet_15 : decode cX10_isLet 15 = .ok (.iload_n 2, 1) := by decide +kernel
theorem dX10_isLet_16 : decode cX10_isLet 16 = .ok (.if_icmp .ne 7, 3) := by decide +kernel
theorem dX10_isLet_19 : decode cX10_isLet 19 = .ok (.iconst 1, 1) := by decide +kernel
theorem dX10_isLet_20 : decode cX10_isLet 20 = .ok (.goto 4, 3) := by decide +kernel
theorem dX10_isLet_23 : decode cX10_isLet 23 = .ok (.iconst 0, 1) := by decide +kernel
theorem dX10_isLet_24 : decode cX10_isLet 24 = .ok (.ireturn, 1) := by decide +kernel
theorem dX10_reckon_0 : decode cX10_reckon 0 = .ok (.aload_n 0, 1) := by decide +kernel
theorem dX10_reckon_1 : decode cX10_reckon 1 = .ok (.invokevirtual 131, 3) := by decide +kernel
theorem dX10_reckon_4 : decode cX10_reckon 4 = .ok (.aload_n 0, 1) := by decide +kernel
theorem dX10_reckon_5 : decode cX10_reckon 5 = .ok (.getfield 67, 3) := by decide +kernel
theorem dX10_reckon_8 : decode cX10_reckon 8 = .ok (.iconst 1, 1) := by decide +kernel
theorem dX10_reckon_9 : decode cX10_reckon 9 = .ok (.isub, 1) := by decide +kernel
theorem dX10_reckon_10 : decode cX10_reckon 10 = .ok (.istore_n 1, 1) := by decide +kernel
theorem dX10_reckon_11 : decode cX10_reckon 11 = .ok (.iload_n 1, 1) := by decide +kernel
theorem dX10_reckon_12 : decode cX10_reckon 12 = .ok (.ifCond .lt 190, 3) := by decide +kernel
theorem dX10_reckon_15 : decode cX10_reckon 15 = .ok (.aload_n 0, 1) := by decide +kernel
theorem dX10_reckon_16 : decode cX10_reckon 16 = .ok (.iload_n 1, 1) := by decide +kernel
theorem dX10_reckon_17 : decode cX10_reckon 17 = .ok (.invokevirtual 150, 3) := by decide +kernel
theorem dX10_reckon_20 : decode cX10_reckon 20 = .ok (.istore_n 2, 1) := by decide +kernel
theorem dX10_reckon_21 : decode cX10_reckon 21 = .ok (.iconst 0, 1) := by decide +kernel
theorem dX10_reckon_22 : decode cX10_reckon 22 = .ok (.istore_n 3, 1) := by decide +kernel
theorem dX10_reckon_23 : decode cX10_reckon 23 = .ok (.iload_n 3, 1) := by decide +kernel
theorem dX10_reckon_24 : decode cX10_reckon 24 = .ok (.aload_n 0, 1) := by decide +kernel
theorem dX10_reckon_25 : decode cX10_reckon 25 = .ok (.getfield 31, 3) := by decide +kernel
theorem dX10_reckon_28 : decode cX10_reckon 28 = .ok (.iload_n 1, 1) := by decide +kernel
theorem dX10_reckon_29 : decode cX10_reckon 29 = .ok (.iaload, 1) := by decide +kernel
theorem dX10_reckon_30 : decode cX10_reckon 30 = .ok (.if_icmp .ge 166, 3) := by decide +kernel
theorem dX10_reckon_33 : decode cX10_reckon 33 = .ok (.iload_n 2, 1) := by decide +kernel
theorem dX10_reckon_34 : decode cX10_reckon 34 = .ok (.ifCond .ge 7, 3) := by decide +kernel
theorem dX10_reckon_37 : decode cX10_reckon 37 = .ok (.iconst 0, 1) := by decide +kernel
theorem dX10_reckon_38 : decode cX10_reckon 38 = .ok (.goto 5, 3) := by decide +kernel
theorem dX10_reckon_41 : decode cX10_reckon 41 = .ok (.ldc 156, 2) := by decide +kernel
theorem dX10_reckon_43 : decode cX10_reckon 43 = .ok (.istore 4, 2) := by decide +kernel
theorem dX10_reckon_45 : decode cX10_reckon 45 = .ok (.iconst 0, 1) := by decide +kernel
theorem dX10_reckon_46 : decode cX10_reckon 46 = .ok (.istore 5, 2) := by decide +kernel
theorem dX10_reckon_48 : decode cX10_reckon 48 = .ok (.iload_n 2, 1) := by decide +kernel
theorem dX10_reckon_49 : decode cX10_reckon 49 = .ok (.ifCond .lt 95, 3) := by decide +kernel
theorem dX10_reckon_52 : decode cX10_reckon 52 = .ok (.iload 5, 2) := by decide +kernel
theorem dX10_reckon_54 : decode cX10_reckon 54 = .ok (.aload_n 0, 1) := by decide +kernel
theorem dX10_reckon_55 : decode cX10_reckon 55 = .ok (.getfield 31, 3) := by decide +kernel
theorem dX10_reckon_58 : decode cX10_reckon 58 = .ok (.iload_n 2, 1) := by decide +kernel
theorem dX10_reckon_59 : decode cX10_reckon 59 = .ok (.iaload, 1) := by decide +kernel
theorem dX10_reckon_60 : decode cX10_reckon 60 = .ok (.if_icmp .ge 84, 3) := by decide +kernel
theorem dX10_reckon_63 : decode cX10_reckon 63 = .ok (.aload_n 0, 1) := by decide +kernel
theorem dX10_reckon_64 : decode cX10_reckon 64 = .ok (.getfield 43, 3) := by decide +kernel
theorem dX10_reckon_67 : decode cX10_reckon 67 = .ok (.bipush 80, 2) := by decide +kernel
theorem dX10_reckon_69 : decode cX10_reckon 69 = .ok (.iload_n 2, 1) := by decide +kernel
theorem dX10_reckon_70 : decode cX10_reckon 70 = .ok (.imul, 1) := by decide +kernel
theorem dX10_reckon_71 : decode cX10_reckon 71 = .ok (.iload 5, 2) := by decide +kernel
theorem dX10_reckon_73 : decode cX10_reckon 73 = .ok (.iadd, 1) := by decide +kernel
theorem dX10_reckon_74 : decode cX10_reckon 74 = .ok (.iaload, 1) := by decide +kernel
theorem dX10_reckon_75 : decode cX10_reckon 75 = .ok (.ldc 156, 2) := by decide +kernel
theorem dX10_reckon_77 : decode cX10_reckon 77 = .ok (.if_icmp .ge 15, 3) := by decide +kernel
theorem dX10_reckon_80 : decode cX10_reckon 80 = .ok (.aload_n 0, 1) := by decide +kernel
theorem dX10_reckon_81 : decode cX10_reckon 81 = .ok (.iload_n 1, 1) := by decide +kernel
theorem dX10_reckon_82 : decode cX10_reckon 82 = .ok (.iload_n 3, 1) := by decide +kernel
theorem dX10_reckon_83 : decode cX10_reckon 83 = .ok (.iload_n 2, 1) := by decide +kernel
theorem dX10_reckon_84 : decode cX10_reckon 84 = .ok (.iload 5, 2) := by decide +kernel
theorem dX10_reckon_86 : decode cX10_reckon 86 = .ok (.invokevirtual 153, 3) := by decide +kernel
theorem dX10_reckon_89 : decode cX10_reckon 89 = .ok (.goto 5, 3) := by decide +kernel
theorem dX10_reckon_92 : decode cX10_reckon 92 = .ok (.bipush (-2), 2) := by decide +kernel
theorem dX10_reckon_94 : decode cX10_reckon 94 = .ok (.istore 6, 2) := by decide +kernel
theorem dX10_reckon_96 : decode cX10_reckon 96 = .ok (.iload 6, 2) := by decide +kernel
theorem dX10_reckon_98 : decode cX10_reckon 98 = .ok (.ifCond .lt 40, 3) := by decide +kernel
theorem dX10_reckon_101 : decode cX10_reckon 101 = .ok (.iload 6, 2) := by decide +kernel
theorem dX10_reckon_103 : decode cX10_reckon 103 = .ok (.aload_n 0, 1) := by decide +kernel
theorem dX10_reckon_104 : decode cX10_reckon 104 = .ok (.getfield 43, 3) := by decide +kernel
theorem dX10_reckon_107 : decode cX10_reckon 107 = .ok (.bipush 80, 2) := by decide +kernel
theorem dX10_reckon_109 : decode cX10_reckon 109 = .ok (.iload_n 2, 1) := by decide +kernel
theorem dX10_reckon_110 : decode cX10_reckon 110 = .ok (.imul, 1) := by decide +kernel
theorem dX10_reckon_111 : decode cX10_reckon 111 = .ok (.iload 5, 2) := by decide +kernel
theorem dX10_reckon_113 : decode cX10_reckon 113 = .ok (.iadd, 1) := by decide +kernel
theorem dX10_reckon_114 : decode cX10_reckon 114 = .ok (.iaload, 1) := by decide +kernel
theorem dX10_reckon_115 : decode cX10_reckon 115 = .ok (.iadd, 1) := by decide +kernel
theorem dX10_reckon_116 : decode cX10_reckon 116 = .ok (.iload 4, 2) := by decide +kernel
theorem dX10_reckon_118 : decode cX10_reckon 118 = .ok (.if_icmp .ge 20, 3) := by decide +kernel
theorem dX10_reckon_121 : decode cX10_reckon 121 = .ok (.iload 6, 2) := by decide +kernel
theorem dX10_reckon_123 : decode cX10_reckon 123 = .ok (.aload_n 0, 1) := by decide +kernel
theorem dX10_reckon_124 : decode cX10_reckon 124 = .ok (.getfield 43, 3) := by decide +kernel
theorem dX10_reckon_127 : decode cX10_reckon 127 = .ok (.bipush 80, 2) := by decide +kernel
theorem dX10_reckon_129 : decode cX10_reckon 129 = .ok (.iload_n 2, 1) := by decide +kernel
theorem dX10_reckon_130 : decode cX10_reckon 130 = .ok (.imul, 1) := by decide +kernel
theorem dX10_reckon_131 : decode cX10_reckon 131 = .ok (.iload 5, 2) := by decide +kernel
theorem dX10_reckon_133 : decode cX10_reckon 133 = .ok (.iadd, 1) := by decide +kernel
theorem dX10_reckon_134 : decode cX10_reckon 134 = .ok (.iaload, 1) := by decide +kernel
theorem dX10_reckon_135 : decode cX10_reckon 135 = .ok (.iadd, 1) := by decide +kernel
theorem dX10_reckon_136 : decode cX10_reckon 136 = .ok (.istore 4, 2) := by decide +kernel
theorem dX10_reckon_138 : decode cX10_reckon 138 = .ok (.iinc 5 1, 3) := by decide +kernel
theorem dX10_reckon_141 : decode cX10_reckon 141 = .ok (.goto (-93), 3) := by decide +kernel
theorem dX10_reckon_144 : decode cX10_reckon 144 = .ok (.aload_n 0, 1) := by decide +kernel
theorem dX10_reckon_145 : decode cX10_reckon 145 = .ok (.getfield 43, 3) := by decide +kernel
theorem dX10_reckon_148 : decode cX10_reckon 148 = .ok (.bipush 80, 2) := by decide +kernel
theorem dX10_reckon_150 : decode cX10_reckon 150 = .ok (.iload_n 1, 1) := by decide +kernel
theorem dX10_reckon_151 : decode cX10_reckon 151 = .ok (.imul, 1) := by decide +kernel
theorem dX10_reckon_152 : decode cX10_reckon 152 = .ok (.iload_n 3, 1) := by decide +kernel
theorem dX10_reckon_153 : decode cX10_reckon 153 = .ok (.iadd, 1) := by decide +kernel
theorem dX10_reckon_154 : decode cX10_reckon 154 = .ok (.iload 4, 2) := by decide +kernel
theorem dX10_reckon_156 : decode cX10_reckon 156 = .ok (.ldc 156, 2) := by decide +kernel
theorem dX10_reckon_158 : decode cX10_reckon 158 = .ok (.if_icmp .ge 12, 3) := by decide +kernel
theorem dX10_reckon_161 : decode cX10_reckon 161 = .ok (.aload_n 0, 1) := by decide +kernel
theorem dX10_reckon_162 : decode cX10_reckon 162 = .ok (.iload_n 1, 1) := by decide +kernel
theorem dX10_reckon_163 : decode cX10_reckon 163 = .ok (.iload_n 3, 1) := by decide +kernel
theorem dX10_reckon_164 : decode cX10_reckon 164 = .ok (.invokevirtual 157, 3) := by decide +kernel
theorem dX10_reckon_167 : decode cX10_reckon 167 = .ok (.ifCond .ne 8, 3) := by decide +kernel
theorem dX10_reckon_170 : decode cX10_reckon 170 = .ok (.ldc 156, 2) := by decide +kernel
theorem dX10_reckon_172 : decode cX10_reckon 172 = .ok (.goto 17, 3) := by decide +kernel
theorem dX10_reckon_175 : decode cX10_reckon 175 = .ok (.iload 4, 2) := by decide +kernel
theorem dX10_reckon_177 : decode cX10_reckon 177 = .ok (.aload_n 0, 1) := by decide +kernel
theorem dX10_reckon_178 : decode cX10_reckon 178 = .ok (.getfield 40, 3) := by decide +kernel
theorem dX10_reckon_181 : decode cX10_reckon 181 = .ok (.bipush 80, 2) := by decide +kernel
theorem dX10_reckon_183 : decode cX10_reckon 183 = .ok (.iload_n 1, 1) := by decide +kernel
theorem dX10_reckon_184 : decode cX10_reckon 184 = .ok (.imul, 1) := by decide +kernel
theorem dX10_reckon_185 : decode cX10_reckon 185 = .ok (.iload_n 3, 1) := by decide +kernel
theorem dX10_reckon_186 : decode cX10_reckon 186 = .ok (.iadd, 1) := by decide +kernel
theorem dX10_reckon_187 : decode cX10_reckon 187 = .ok (.iaload, 1) := by decide +kernel
theorem dX10_reckon_188 : decode cX10_reckon 188 = .ok (.iadd, 1) := by decide +kernel
theorem dX10_reckon_189 : decode cX10_reckon 189 = .ok (.iastore, 1) := by decide +kernel
theorem dX10_reckon_190 : decode cX10_reckon 190 = .ok (.iinc 3 1, 3) := by decide +kernel
theorem dX10_reckon_193 : decode cX10_reckon 193 = .ok (.goto (-170), 3) := by decide +kernel
theorem dX10_reckon_196 : decode cX10_reckon 196 = .ok (.iinc 1 (-1), 3) := by decide +kernel
theorem dX10_reckon_199 : decode cX10_reckon 199 = .ok (.goto (-188), 3) := by decide +kernel
theorem dX10_reckon_202 : decode cX10_reckon 202 = .ok (.return_, 1) := by decide +kernel
theorem dX10_first_0 : decode cX10_first 0 = .ok (.iconst 0, 1) := by decide +kernel
theorem dX10_first_1 : decode cX10_first 1 = .ok (.istore_n 2, 1) := by decide +kernel
theorem dX10_first_2 : decode cX10_first 2 = .ok (.iload_n 2, 1) := by decide +kernel
theorem dX10_first_3 : decode cX10_first 3 = .ok (.aload_n 0, 1) := by decide +kernel
theorem dX10_first_4 : decode cX10_first 4 = .ok (.getfield 67, 3) := by decide +kernel
theorem dX10_first_7 : decode cX10_first 7 = .ok (.if_icmp .ge 19, 3) := by decide +kernel
theorem dX10_first_10 : decode cX10_first 10 = .ok (.aload_n 0, 1) := by decide +kernel
theorem dX10_first_11 : decode cX10_first 11 = .ok (.getfield 7, 3) := by decide +kernel
theorem dX10_first_14 : decode cX10_first 14 = .ok (.iload_n 2, 1) := by decide +kernel
theorem dX10_first_15 : decode cX10_first 15 = .ok (.iaload, 1) := by decide +kernel
theorem dX10_first_16 : decode cX10_first 16 = .ok (.iload_n 1, 1) := by decide +kernel
theorem dX10_first_17 : decode cX10_first 17 = .ok (.if_icmp .eq 9, 3) := by decide +kernel
theorem dX10_first_20 : decode cX10_first 20 = .ok (.iinc 2 1, 3) := by decide +kernel
theorem dX10_first_23 : decode cX10_first 23 = .ok (.goto (-21), 3) := by decide +kernel
theorem dX10_first_26 : decode cX10_first 26 = .ok (.iload_n 2, 1) := by decide +kernel
theorem dX10_first_27 : decode cX10_first 27 = .ok (.aload_n 0, 1) := by decide +kernel
theorem dX10_first_28 : decode cX10_first 28 = .ok (.getfield 67, 3) := by decide +kernel
theorem dX10_first_31 : decode cX10_first 31 = .ok (.if_icmp .ge 7, 3) := by decide +kernel
theorem dX10_first_34 : decode cX10_first 34 = .ok (.iload_n 2, 1) := by decide +kernel
theorem dX10_first_35 : decode cX10_first 35 = .ok (.goto 5, 3) := by decide +kernel
theorem dX10_first_38 : decode cX10_first 38 = .ok (.bipush (-2), 2) := by decide +kernel
theorem dX10_first_40 : decode cX10_first 40 = .ok (.ireturn, 1) := by decide +kernel
theorem dX10_chain_0 : decode cX10_chain 0 = .ok (.aload_n 0, 1) := by decide +kernel
theorem dX10_chain_1 : decode cX10_chain 1 = .ok (.iload_n 1, 1) := by decide +kernel
theorem dX10_chain_2 : decode cX10_chain 2 = .ok (.invokevirtual 160, 3) := by decide +kernel
theorem dX10_chain_5 : decode cX10_chain 5 = .ok (.istore_n 2, 1) := by decide +kernel
theorem dX10_chain_6 : decode cX10_chain 6 = .ok (.iload_n 2, 1) := by decide +kernel
theorem dX10_chain_7 : decode cX10_chain 7 = .ok (.ifCond .ge 5, 3) := by decide +kernel
theorem dX10_chain_10 : decode cX10_chain 10 = .ok (.iconst 0, 1) := by decide +kernel
theorem dX10_chain_11 : decode cX10_chain 11 = .ok (.ireturn, 1) := by decide +kernel
theorem dX10_chain_12 : decode cX10_chain 12 = .ok (.ldc 156, 2) := by decide +kernel
theorem dX10_chain_14 : decode cX10_chain 14 = .ok (.istore_n 3, 1) := by decide +kernel
theorem dX10_chain_15 : decode cX10_chain 15 = .ok (.iconst 0, 1) := by decide +kernel
theorem dX10_chain_16 : decode cX10_chain 16 = .ok (.istore 4, 2) := by decide +kernel
theorem dX10_chain_18 : decode cX10_chain 18 = .ok (.iload 4, 2) := by decide +kernel
theorem dX10_chain_20 : decode cX10_chain 20 = .ok (.aload_n 0, 1) := by decide +kernel
theorem dX10_chain_21 : decode cX10_chain 21 = .ok (.getfield 31, 3) := by decide +kernel
theorem dX10_chain_24 : decode cX10_chain 24 = .ok (.iload_n 2, 1) := by decide +kernel
theorem dX10_chain_25 : decode cX10_chain 25 = .ok (.iaload, 1) := by decide +kernel
theorem dX10_chain_26 : decode cX10_chain 26 = .ok (.if_icmp .ge 42, 3) := by decide +kernel
theorem dX10_chain_29 : decode cX10_chain 29 = .ok (.aload_n 0, 1) := by decide +kernel
theorem dX10_chain_30 : decode cX10_chain 30 = .ok (.getfield 43, 3) := by decide +kernel
theorem dX10_chain_33 : decode cX10_chain 33 = .ok (.bipush 80, 2) := by decide +kernel
theorem dX10_chain_35 : decode cX10_chain 35 = .ok (.iload_n 2, 1) := by decide +kernel
theorem dX10_chain_36 : decode cX10_chain 36 = .ok (.imul, 1) := by decide +kernel
theorem dX10_chain_37 : decode cX10_chain 37 = .ok (.iload 4, 2) := by decide +kernel
theorem dX10_chain_39 : decode cX10_chain 39 = .ok (.iadd, 1) := by decide +kernel
theorem dX10_chain_40 : decode cX10_chain 40 = .ok (.iaload, 1) := by decide +kernel
theorem dX10_chain_41 : decode cX10_chain 41 = .ok (.iload_n 3, 1) := by decide +kernel
theorem dX10_chain_42 : decode cX10_chain 42 = .ok (.if_icmp .ge 18, 3) := by decide +kernel
theorem dX10_chain_45 : decode cX10_chain 45 = .ok (.aload_n 0, 1) := by decide +kernel
theorem dX10_chain_46 : decode cX10_chain 46 = .ok (.getfield 43, 3) := by decide +kernel
theorem dX10_chain_49 : decode cX10_chain 49 = .ok (.bipush 80, 2) := by decide +kernel
theorem dX10_chain_51 : decode cX10_chain 51 = .ok (.iload_n 2, 1) := by decide +kernel
theorem dX10_chain_52 : decode cX10_chain 52 = .ok (.imul, 1) := by decide +kernel
theorem dX10_chain_53 : decode cX10_chain 53 = .ok (.iload 4, 2) := by decide +kernel
theorem dX10_chain_55 : decode cX10_chain 55 = .ok (.iadd, 1) := by decide +kernel
theorem dX10_chain_56 : decode cX10_chain 56 = .ok (.iaload, 1) := by decide +kernel
theorem dX10_chain_57 : decode cX10_chain 57 = .ok (.goto 4, 3) := by decide +kernel
theorem dX10_chain_60 : decode cX10_chain 60 = .ok (.iload_n 3, 1) := by decide +kernel
theorem dX10_chain_61 : decode cX10_chain 61 = .ok (.istore_n 3, 1) := by decide +kernel
theorem dX10_chain_62 : decode cX10_chain 62 = .ok (.iinc 4 1, 3) := by decide +kernel
theorem dX10_chain_65 : decode cX10_chain 65 = .ok (.goto (-47), 3) := by decide +kernel
theorem dX10_chain_68 : decode cX10_chain 68 = .ok (.iload_n 3, 1) := by decide +kernel
theorem dX10_chain_69 : decode cX10_chain 69 = .ok (.ireturn, 1) := by decide +kernel
theorem dX10_price_0 : decode cX10_price 0 = .ok (.aload_n 0, 1) := by decide +kernel
theorem dX10_price_1 : decode cX10_price 1 = .ok (.invokevirtual 163, 3) := by decide +kernel
theorem dX10_price_4 : decode cX10_price 4 = .ok (.aload_n 0, 1) := by decide +kernel
theorem dX10_price_5 : decode cX10_price 5 = .ok (.iconst 0, 1) := by decide +kernel
theorem dX10_price_6 : decode cX10_price 6 = .ok (.invokevirtual 166, 3) := by decide +kernel
theorem dX10_price_9 : decode cX10_price 9 = .ok (.ldc 156, 2) := by decide +kernel
theorem dX10_price_11 : decode cX10_price 11 = .ok (.if_icmp .ge 13, 3) := by decide +kernel
theorem dX10_price_14 : decode cX10_price 14 = .ok (.aload_n 0, 1) := by decide +kernel
theorem dX10_price_15 : decode cX10_price 15 = .ok (.iconst 1, 1) := by decide +kernel
theorem dX10_price_16 : decode cX10_price 16 = .ok (.invokevirtual 166, 3) := by decide +kernel
theorem dX10_price_19 : decode cX10_price 19 = .ok (.ldc 156, 2) := by decide +kernel
theorem dX10_price_21 : decode cX10_price 21 = .ok (.if_icmp .lt 8, 3) := by decide +kernel
theorem dX10_price_24 : decode cX10_price 24 = .ok (.ldc 156, 2) := by decide +kernel
theorem dX10_price_26 : decode cX10_price 26 = .ok (.goto 14, 3) := by decide +kernel
theorem dX10_price_29 : decode cX10_price 29 = .ok (.aload_n 0, 1) := by decide +kernel
theorem dX10_price_30 : decode cX10_price 30 = .ok (.iconst 0, 1) := by decide +kernel
theorem dX10_price_31 : decode cX10_price 31 = .ok (.invokevirtual 166, 3) := by decide +kernel
theorem dX10_price_34 : decode cX10_price 34 = .ok (.aload_n 0, 1) := by decide +kernel
theorem dX10_price_35 : decode cX10_price 35 = .ok (.iconst 1, 1) := by decide +kernel
theorem dX10_price_36 : decode cX10_price 36 = .ok (.invokevirtual 166, 3) := by decide +kernel
theorem dX10_price_39 : decode cX10_price 39 = .ok (.iadd, 1) := by decide +kernel
theorem dX10_price_40 : decode cX10_price 40 = .ok (.istore_n 1, 1) := by decide +kernel
theorem dX10_price_41 : decode cX10_price 41 = .ok (.iload_n 1, 1) := by decide +kernel
theorem dX10_price_42 : decode cX10_price 42 = .ok (.ldc 156, 2) := by decide +kernel
theorem dX10_price_44 : decode cX10_price 44 = .ok (.if_icmp .lt 8, 3) := by decide +kernel
theorem dX10_price_47 : decode cX10_price 47 = .ok (.bipush (-2), 2) := by decide +kernel
theorem dX10_price_49 : decode cX10_price 49 = .ok (.goto 4, 3) := by decide +kernel
theorem dX10_price_52 : decode cX10_price 52 = .ok (.iload_n 1, 1) := by decide +kernel
theorem dX10_price_53 : decode cX10_price 53 = .ok (.ireturn, 1) := by decide +kernel
theorem dX10_way_0 : decode cX10_way 0 = .ok (.iload_n 1, 1) := by decide +kernel
theorem dX10_way_1 : decode cX10_way 1 = .ok (.iconst 0, 1) := by decide +kernel
theorem dX10_way_2 : decode cX10_way 2 = .ok (.aload_n 0, 1) := by decide +kernel
theorem dX10_way_3 : decode cX10_way 3 = .ok (.getfield 67, 3) := by decide +kernel
theorem dX10_way_6 : decode cX10_way 6 = .ok (.iconst 1, 1) := by decide +kernel
theorem dX10_way_7 : decode cX10_way 7 = .ok (.isub, 1) := by decide +kernel
theorem dX10_way_8 : decode cX10_way 8 = .ok (.invokestatic 70, 3) := by decide +kernel
theorem dX10_way_11 : decode cX10_way 11 = .ok (.ifCond .ne 5, 3) := by decide +kernel
theorem dX10_way_14 : decode cX10_way 14 = .ok (.iconst (-1), 1) := by decide +kernel
theorem dX10_way_15 : decode cX10_way 15 = .ok (.ireturn, 1) := by decide +kernel
theorem dX10_way_16 : decode cX10_way 16 = .ok (.aload_n 0, 1) := by decide +kernel
theorem dX10_way_17 : decode cX10_way 17 = .ok (.invokevirtual 169, 3) := by decide +kernel
theorem dX10_way_20 : decode cX10_way 20 = .ok (.ifCond .ge 6, 3) := by decide +kernel
theorem dX10_way_23 : decode cX10_way 23 = .ok (.bipush (-2), 2) := by decide +kernel
theorem dX10_way_25 : decode cX10_way 25 = .ok (.ireturn, 1) := by decide +kernel
theorem dX10_way_26 : decode cX10_way 26 = .ok (.aload_n 0, 1) := by decide +kernel
theorem dX10_way_27 : decode cX10_way 27 = .ok (.aload_n 0, 1) := by decide +kernel
theorem dX10_way_28 : decode cX10_way 28 = .ok (.getfield 7, 3) := by decide +kernel
theorem dX10_way_31 : decode cX10_way 31 = .ok (.iload_n 1, 1) := by decide +kernel
theorem dX10_way_32 : decode cX10_way 32 = .ok (.iaload, 1) := by decide +kernel
theorem dX10_way_33 : decode cX10_way 33 = .ok (.invokevirtual 166, 3) := by decide +kernel
theorem dX10_way_36 : decode cX10_way 36 = .ok (.istore_n 2, 1) := by decide +kernel
theorem dX10_way_37 : decode cX10_way 37 = .ok (.bipush (-2), 2) := by decide +kernel
theorem dX10_way_39 : decode cX10_way 39 = .ok (.istore_n 3, 1) := by decide +kernel
theorem dX10_way_40 : decode cX10_way 40 = .ok (.aload_n 0, 1) := by decide +kernel
theorem dX10_way_41 : decode cX10_way 41 = .ok (.aload_n 0, 1) := by decide +kernel
theorem dX10_way_42 : decode cX10_way 42 = .ok (.getfield 7, 3) := by decide +kernel
theorem dX10_way_45 : decode cX10_way 45 = .ok (.iload_n 1, 1) := by decide +kernel
theorem dX10_way_46 : decode cX10_way 46 = .ok (.iaload, 1) := by decide +kernel
theorem dX10_way_47 : decode cX10_way 47 = .ok (.invokevirtual 160, 3) := by decide +kernel
theorem dX10_way_50 : decode cX10_way 50 = .ok (.istore 4, 2) := by decide +kernel
theorem dX10_way_52 : decode cX10_way 52 = .ok (.iload 4, 2) := by decide +kernel
theorem dX10_way_54 : decode cX10_way 54 = .ok (.ifCond .lt 94, 3) := by decide +kernel
theorem dX10_way_57 : decode cX10_way 57 = .ok (.iload 4, 2) := by decide +kernel
theorem dX10_way_59 : decode cX10_way 59 = .ok (.iload_n 1, 1) := by decide +kernel
theorem dX10_way_60 : decode cX10_way 60 = .ok (.if_icmp .gt 88, 3) := by decide +kernel
theorem dX10_way_63 : decode cX10_way 63 = .ok (.iconst 0, 1) := by decide +kernel
theorem dX10_way_64 : decode cX10_way 64 = .ok (.istore 5, 2) := by decide +kernel
theorem dX10_way_66 : decode cX10_way 66 = .ok (.aload_n 0, 1) := by decide +kernel
theorem dX10_way_67 : decode cX10_way 67 = .ok (.iload_n 3, 1) := by decide +kernel
theorem dX10_way_68 : decode cX10_way 68 = .ok (.iload 4, 2) := by decide +kernel
theorem dX10_way_70 : decode cX10_way 70 = .ok (.iload 5, 2) := by decide +kernel
theorem dX10_way_72 : decode cX10_way 72 = .ok (.iload_n 2, 1) := by decide +kernel
theorem dX10_way_73 : decode cX10_way 73 = .ok (.invokevirtual 172, 3) := by decide +kernel
theorem dX10_way_76 : decode cX10_way 76 = .ok (.ifCond .ne 9, 3) := by decide +kernel
theorem dX10_way_79 : decode cX10_way 79 = .ok (.iinc 5 1, 3) := by decide +kernel
theorem dX10_way_82 : decode cX10_way 82 = .ok (.goto (-16), 3) := by decide +kernel
theorem dX10_way_85 : decode cX10_way 85 = .ok (.iload_n 2, 1) := by decide +kernel
theorem dX10_way_86 : decode cX10_way 86 = .ok (.aload_n 0, 1) := by decide +kernel
theorem dX10_way_87 : decode cX10_way 87 = .ok (.getfield 40, 3) := by decide +kernel
theorem dX10_way_90 : decode cX10_way 90 = .ok (.bipush 80, 2) := by decide +kernel
theorem dX10_way_92 : decode cX10_way 92 = .ok (.iload 4, 2) := by decide +kernel
theorem dX10_way_94 : decode cX10_way 94 = .ok (.imul, 1) := by decide +kernel
theorem dX10_way_95 : decode cX10_way 95 = .ok (.iload 5, 2) := by decide +kernel
theorem dX10_way_97 : decode cX10_way 97 = .ok (.iadd, 1) := by decide +kernel
theorem dX10_way_98 : decode cX10_way 98 = .ok (.iaload, 1) := by decide +kernel
theorem dX10_way_99 : decode cX10_way 99 = .ok (.iload_n 3, 1) := by decide +kernel
theorem dX10_way_100 : decode cX10_way 100 = .ok (.ifCond .ge 7, 3) := by decide +kernel
theorem dX10_way_103 : decode cX10_way 103 = .ok (.iconst 0, 1) := by decide +kernel
theorem dX10_way_104 : decode cX10_way 104 = .ok (.goto 18, 3) := by decide +kernel
theorem dX10_way_107 : decode cX10_way 107 = .ok (.aload_n 0, 1) := by decide +kernel
theorem dX10_way_108 : decode cX10_way 108 = .ok (.iload_n 3, 1) := by decide +kernel
theorem dX10_way_109 : decode cX10_way 109 = .ok (.aload_n 0, 1) := by decide +kernel
theorem dX10_way_110 : decode cX10_way 110 = .ok (.getfield 46, 3) := by decide +kernel
theorem dX10_way_113 : decode cX10_way 113 = .ok (.iload_n 3, 1) := by decide +kernel
theorem dX10_way_114 : decode cX10_way 114 = .ok (.iaload, 1) := by decide +kernel
theorem dX10_way_115 : decode cX10_way 115 = .ok (.iload 4, 2) := by decide +kernel
theorem dX10_way_117 : decode cX10_way 117 = .ok (.iload 5, 2) := by decide +kernel
theorem dX10_way_119 : decode cX10_way 119 = .ok (.invokevirtual 153, 3) := by decide +kernel
theorem dX10_way_122 : decode cX10_way 122 = .ok (.iadd, 1) := by decide +kernel
theorem dX10_way_123 : decode cX10_way 123 = .ok (.isub, 1) := by decide +kernel
theorem dX10_way_124 : decode cX10_way 124 = .ok (.istore_n 2, 1) := by decide +kernel
theorem dX10_way_125 : decode cX10_way 125 = .ok (.aload_n 0, 1) := by decide +kernel
theorem dX10_way_126 : decode cX10_way 126 = .ok (.getfield 46, 3) := by decide +kernel
theorem dX10_way_129 : decode cX10_way 129 = .ok (.iload 4, 2) := by decide +kernel
theorem dX10_way_131 : decode cX10_way 131 = .ok (.iload 5, 2) := by decide +kernel
theorem dX10_way_133 : decode cX10_way 133 = .ok (.iastore, 1) := by decide +kernel
theorem dX10_way_134 : decode cX10_way 134 = .ok (.iload 4, 2) := by decide +kernel
theorem dX10_way_136 : decode cX10_way 136 = .ok (.istore_n 3, 1) := by decide +kernel
theorem dX10_way_137 : decode cX10_way 137 = .ok (.aload_n 0, 1) := by decide +kernel
theorem dX10_way_138 : decode cX10_way 138 = .ok (.iload 4, 2) := by decide +kernel
theorem dX10_way_140 : decode cX10_way 140 = .ok (.invokevirtual 150, 3) := by decide +kernel
theorem dX10_way_143 : decode cX10_way 143 = .ok (.istore 4, 2) := by decide +kernel
theorem dX10_way_145 : decode cX10_way 145 = .ok (.goto (-93), 3) := by decide +kernel
theorem dX10_way_148 : decode cX10_way 148 = .ok (.aload_n 0, 1) := by decide +kernel
theorem dX10_way_149 : decode cX10_way 149 = .ok (.getfield 46, 3) := by decide +kernel
theorem dX10_way_152 : decode cX10_way 152 = .ok (.iload_n 1, 1) := by decide +kernel
theorem dX10_way_153 : decode cX10_way 153 = .ok (.iaload, 1) := by decide +kernel
theorem dX10_way_154 : decode cX10_way 154 = .ok (.ireturn, 1) := by decide +kernel
theorem dX10_isOn_0 : decode cX10_isOn 0 = .ok (.aload_n 0, 1) := by decide +kernel
theorem dX10_isOn_1 : decode cX10_isOn 1 = .ok (.getfield 43, 3) := by decide +kernel
theorem dX10_isOn_4 : decode cX10_isOn 4 = .ok (.bipush 80, 2) := by decide +kernel
theorem dX10_isOn_6 : decode cX10_isOn 6 = .ok (.iload_n 2, 1) := by decide +kernel
theorem dX10_isOn_7 : decode cX10_isOn 7 = .ok (.imul, 1) := by decide +kernel
theorem dX10_isOn_8 : decode cX10_isOn 8 = .ok (.iload_n 3, 1) := by decide +kernel
theorem dX10_isOn_9 : decode cX10_isOn 9 = .ok (.iadd, 1) := by decide +kernel
theorem dX10_isOn_10 : decode cX10_isOn 10 = .ok (.iaload, 1) := by decide +kernel
theorem dX10_isOn_11 : decode cX10_isOn 11 = .ok (.ldc 156, 2) := by decide +kernel
theorem dX10_isOn_13 : decode cX10_isOn 13 = .ok (.if_icmp .lt 5, 3) := by decide +kernel
theorem dX10_isOn_16 : decode cX10_isOn 16 = .ok (.iconst 0, 1) := by decide +kernel
theorem dX10_isOn_17 : decode cX10_isOn 17 = .ok (.ireturn, 1) := by decide +kernel
theorem dX10_isOn_18 : decode cX10_isOn 18 = .ok (.iload_n 1, 1) := by decide +kernel
theorem dX10_isOn_19 : decode cX10_isOn 19 = .ok (.ifCond .ge 7, 3) := by decide +kernel
theorem dX10_isOn_22 : decode cX10_isOn 22 = .ok (.iconst 0, 1) := by decide +kernel
theorem dX10_isOn_23 : decode cX10_isOn 23 = .ok (.goto 16, 3) := by decide +kernel
theorem dX10_isOn_26 : decode cX10_isOn 26 = .ok (.aload_n 0, 1) := by decide +kernel
theorem dX10_isOn_27 : decode cX10_isOn 27 = .ok (.iload_n 1, 1) := by decide +kernel
theorem dX10_isOn_28 : decode cX10_isOn 28 = .ok (.aload_n 0, 1) := by decide +kernel
theorem dX10_isOn_29 : decode cX10_isOn 29 = .ok (.getfield 46, 3) := by decide +kernel
theorem dX10_isOn_32 : decode cX10_isOn 32 = .ok (.iload_n 1, 1) := by decide +kernel
theorem dX10_isOn_33 : decode cX10_isOn 33 = .ok (.iaload, 1) := by decide +kernel
theorem dX10_isOn_34 : decode cX10_isOn 34 = .ok (.iload_n 2, 1) := by decide +kernel
theorem dX10_isOn_35 : decode cX10_isOn 35 = .ok (.iload_n 3, 1) := by decide +kernel
theorem dX10_isOn_36 : decode cX10_isOn 36 = .ok (.invokevirtual 153, 3) := by decide +kernel
theorem dX10_isOn_39 : decode cX10_isOn 39 = .ok (.istore 5, 2) := by decide +kernel
theorem dX10_isOn_41 : decode cX10_isOn 41 = .ok (.iload 5, 2) := by decide +kernel
theorem dX10_isOn_43 : decode cX10_isOn 43 = .ok (.ifCond .lt 26, 3) := by decide +kernel
theorem dX10_isOn_46 : decode cX10_isOn 46 = .ok (.iload 5, 2) := by decide +kernel
theorem dX10_isOn_48 : decode cX10_isOn 48 = .ok (.aload_n 0, 1) := by decide +kernel
theorem dX10_isOn_49 : decode cX10_isOn 49 = .ok (.getfield 43, 3) := by decide +kernel
theorem dX10_isOn_52 : decode cX10_isOn 52 = .ok (.bipush 80, 2) := by decide +kernel
theorem dX10_isOn_54 : decode cX10_isOn 54 = .ok (.iload_n 2, 1) := by decide +kernel
theorem dX10_isOn_55 : decode cX10_isOn 55 = .ok (.imul, 1) := by decide +kernel
theorem dX10_isOn_56 : decode cX10_isOn 56 = .ok (.iload_n 3, 1) := by decide +kernel
theorem dX10_isOn_57 : decode cX10_isOn 57 = .ok (.iadd, 1) := by decide +kernel
theorem dX10_isOn_58 : decode cX10_isOn 58 = .ok (.iaload, 1) := by decide +kernel
theorem dX10_isOn_59 : decode cX10_isOn 59 = .ok (.iadd, 1) := by decide +kernel
theorem dX10_isOn_60 : decode cX10_isOn 60 = .ok (.iload 4, 2) := by decide +kernel
theorem dX10_isOn_62 : decode cX10_isOn 62 = .ok (.if_icmp .ne 7, 3) := by decide +kernel
theorem dX10_isOn_65 : decode cX10_isOn 65 = .ok (.iconst 1, 1) := by decide +kernel
theorem dX10_isOn_66 : decode cX10_isOn 66 = .ok (.goto 4, 3) := by decide +kernel
theorem dX10_isOn_69 : decode cX10_isOn 69 = .ok (.iconst 0, 1) := by decide +kernel
theorem dX10_isOn_70 : decode cX10_isOn 70 = .ok (.ireturn, 1) := by decide +kernel
theorem dX10_stuck_0 : decode cX10_stuck 0 = .ok (.aload_n 0, 1) := by decide +kernel
theorem dX10_stuck_1 : decode cX10_stuck 1 = .ok (.invokevirtual 131, 3) := by decide +kernel
theorem dX10_stuck_4 : decode cX10_stuck 4 = .ok (.iconst 0, 1) := by decide +kernel
theorem dX10_stuck_5 : decode cX10_stuck 5 = .ok (.istore_n 1, 1) := by decide +kernel
theorem dX10_stuck_6 : decode cX10_stuck 6 = .ok (.iload_n 1, 1) := by decide +kernel
theorem dX10_stuck_7 : decode cX10_stuck 7 = .ok (.aload_n 0, 1) := by decide +kernel
theorem dX10_stuck_8 : decode cX10_stuck 8 = .ok (.getfield 67, 3) := by decide +kernel
theorem dX10_stuck_11 : decode cX10_stuck 11 = .ok (.if_icmp .ge 171, 3) := by decide +kernel
theorem dX10_stuck_14 : decode cX10_stuck 14 = .ok (.aload_n 0, 1) := by decide +kernel
theorem dX10_stuck_15 : decode cX10_stuck 15 = .ok (.iload_n 1, 1) := by decide +kernel
theorem dX10_stuck_16 : decode cX10_stuck 16 = .ok (.aload_n 0, 1) := by decide +kernel
theorem dX10_stuck_17 : decode cX10_stuck 17 = .ok (.getfield 7, 3) := by decide +kernel
theorem dX10_stuck_20 : decode cX10_stuck 20 = .ok (.iload_n 1, 1) := by decide +kernel
theorem dX10_stuck_21 : decode cX10_stuck 21 = .ok (.iaload, 1) := by decide +kernel
theorem dX10_stuck_22 : decode cX10_stuck 22 = .ok (.invokevirtual 79, 3) := by decide +kernel
theorem dX10_stuck_25 : decode cX10_stuck 25 = .ok (.istore_n 2, 1) := by decide +kernel
theorem dX10_stuck_26 : decode cX10_stuck 26 = .ok (.iconst 0, 1) := by decide +kernel
theorem dX10_stuck_27 : decode cX10_stuck 27 = .ok (.istore_n 3, 1) := by decide +kernel
theorem dX10_stuck_28 : decode cX10_stuck 28 = .ok (.iconst 0, 1) := by decide +kernel
theorem dX10_stuck_29 : decode cX10_stuck 29 = .ok (.istore 4, 2) := by decide +kernel
theorem dX10_stuck_31 : decode cX10_stuck 31 = .ok (.iload 4, 2) := by decide +kernel
theorem dX10_stuck_33 : decode cX10_stuck 33 = .ok (.aload_n 0, 1) := by decide +kernel
theorem dX10_stuck_34 : decode cX10_stuck 34 = .ok (.getfield 31, 3) := by decide +kernel
theorem dX10_stuck_37 : decode cX10_stuck 37 = .ok (.iload_n 1, 1) := by decide +kernel
theorem dX10_stuck_38 : decode cX10_stuck 38 = .ok (.iaload, 1) := by decide +kernel
theorem dX10_stuck_39 : decode cX10_stuck 39 = .ok (.if_icmp .ge 131, 3) := by decide +kernel
theorem dX10_stuck_42 : decode cX10_stuck 42 = .ok (.iload_n 2, 1) := by decide +kernel
theorem dX10_stuck_43 : decode cX10_stuck 43 = .ok (.ifCond .ge 7, 3) := by decide +kernel
theorem dX10_stuck_46 : decode cX10_stuck 46 = .ok (.iconst 1, 1) := by decide +kernel
theorem dX10_stuck_47 : decode cX10_stuck 47 = .ok (.goto 4, 3) := by decide +kernel
theorem dX10_stuck_50 : decode cX10_stuck 50 = .ok (.iconst 0, 1) := by decide +kernel
theorem dX10_stuck_51 : decode cX10_stuck 51 = .ok (.istore 5, 2) := by decide +kernel
theorem dX10_stuck_53 : decode cX10_stuck 53 = .ok (.iconst 0, 1) := by decide +kernel
theorem dX10_stuck_54 : decode cX10_stuck 54 = .ok (.istore 6, 2) := by decide +kernel
theorem dX10_stuck_56 : decode cX10_stuck 56 = .ok (.iload_n 2, 1) := by decide +kernel
theorem dX10_stuck_57 : decode cX10_stuck 57 = .ok (.ifCond .lt 60, 3) := by decide +kernel
theorem dX10_stuck_60 : decode cX10_stuck 60 = .ok (.iload 6, 2) := by decide +kernel
theorem dX10_stuck_62 : decode cX10_stuck 62 = .ok (.aload_n 0, 1) := by decide +kernel
theorem dX10_stuck_63 : decode cX10_stuck 63 = .ok (.getfield 31, 3) := by decide +kernel
theorem dX10_stuck_66 : decode cX10_stuck 66 = .ok (.iload_n 2, 1) := by decide +kernel
theorem dX10_stuck_67 : decode cX10_stuck 67 = .ok (.iaload, 1) := by decide +kernel
theorem dX10_stuck_68 : decode cX10_stuck 68 = .ok (.if_icmp .ge 49, 3) := by decide +kernel
theorem dX10_stuck_71 : decode cX10_stuck 71 = .ok (.iload 5, 2) := by decide +kernel
theorem dX10_stuck_73 : decode cX10_stuck 73 = .ok (.ifCond .ne 44, 3) := by decide +kernel
theorem dX10_stuck_76 : decode cX10_stuck 76 = .ok (.aload_n 0, 1) := by decide +kernel
theorem dX10_stuck_77 : decode cX10_stuck 77 = .ok (.getfield 49, 3) := by decide +kernel
theorem dX10_stuck_80 : decode cX10_stuck 80 = .ok (.bipush 80, 2) := by decide +kernel
theorem dX10_stuck_82 : decode cX10_stuck 82 = .ok (.iload_n 2, 1) := by decide +kernel
theorem dX10_stuck_83 : decode cX10_stuck 83 = .ok (.imul, 1) := by decide +kernel
theorem dX10_stuck_84 : decode cX10_stuck 84 = .ok (.iload 6, 2) := by decide +kernel
theorem dX10_stuck_86 : decode cX10_stuck 86 = .ok (.iadd, 1) := by decide +kernel
theorem dX10_stuck_87 : decode cX10_stuck 87 = .ok (.baload, 1) := by decide +kernel
theorem dX10_stuck_88 : decode cX10_stuck 88 = .ok (.ifCond .eq 20, 3) := by decide +kernel
theorem dX10_stuck_91 : decode cX10_stuck 91 = .ok (.aload_n 0, 1) := by decide +kernel
theorem dX10_stuck_92 : decode cX10_stuck 92 = .ok (.iload_n 2, 1) := by decide +kernel
theorem dX10_stuck_93 : decode cX10_stuck 93 = .ok (.iload 6, 2) := by decide +kernel
theorem dX10_stuck_95 : decode cX10_stuck 95 = .ok (.iload_n 1, 1) := by decide +kernel
theorem dX10_stuck_96 : decode cX10_stuck 96 = .ok (.iload 4, 2) := by decide +kernel
theorem dX10_stuck_98 : decode cX10_stuck 98 = .ok (.invokevirtual 153, 3) := by decide +kernel
theorem dX10_stuck_101 : decode cX10_stuck 101 = .ok (.ifCond .lt 7, 3) := by decide +kernel
theorem dX10_stuck_104 : decode cX10_stuck 104 = .ok (.iconst 1, 1) := by decide +kernel
theorem dX10_stuck_105 : decode cX10_stuck 105 = .ok (.goto 4, 3) := by decide +kernel
theorem dX10_stuck_108 : decode cX10_stuck 108 = .ok (.iconst 0, 1) := by decide +kernel
theorem dX10_stuck_109 : decode cX10_stuck 109 = .ok (.istore 5, 2) := by decide +kernel
theorem dX10_stuck_111 : decode cX10_stuck 111 = .ok (.iinc 6 1, 3) := by decide +kernel
theorem dX10_stuck_114 : decode cX10_stuck 114 = .ok (.goto (-58), 3) := by decide +kernel
theorem dX10_stuck_117 : decode cX10_stuck 117 = .ok (.aload_n 0, 1) := by decide +kernel
theorem dX10_stuck_118 : decode cX10_stuck 118 = .ok (.getfield 49, 3) := by decide +kernel
theorem dX10_stuck_121 : decode cX10_stuck 121 = .ok (.bipush 80, 2) := by decide +kernel
theorem dX10_stuck_123 : decode cX10_stuck 123 = .ok (.iload_n 1, 1) := by decide +kernel
theorem dX10_stuck_124 : decode cX10_stuck 124 = .ok (.imul, 1) := by decide +kernel
theorem dX10_stuck_125 : decode cX10_stuck 125 = .ok (.iload 4, 2) := by decide +kernel
theorem dX10_stuck_127 : decode cX10_stuck 127 = .ok (.iadd, 1) := by decide +kernel
theorem dX10_stuck_128 : decode cX10_stuck 128 = .ok (.iload 5, 2) := by decide +kernel
theorem dX10_stuck_130 : decode cX10_stuck 130 = .ok (.ifCond .eq 17, 3) := by decide +kernel
theorem dX10_stuck_133 : decode cX10_stuck 133 = .ok (.aload_n 0, 1) := by decide +kernel
theorem dX10_stuck_134 : decode cX10_stuck 134 = .ok (.iload_n 1, 1) := by decide +kernel
theorem dX10_stuck_135 : decode cX10_stuck 135 = .ok (.iload 4, 2) := by decide +kernel
theorem dX10_stuck_137 : decode cX10_stuck 137 = .ok (.invokevirtual 157, 3) := by decide +kernel
theorem dX10_stuck_140 : decode cX10_stuck 140 = .ok (.ifCond .eq 7, 3) := by decide +kernel
theorem dX10_stuck_143 : decode cX10_stuck 143 = .ok (.iconst 1, 1) := by decide +kernel
theorem dX10_stuck_144 : decode cX10_stuck 144 = .ok (.goto 4, 3) := by decide +kernel
theorem dX10_stuck_147 : decode cX10_stuck 147 = .ok (.iconst 0, 1) := by decide +kernel
theorem dX10_stuck_148 : decode cX10_stuck 148 = .ok (.bastore, 1) := by decide +kernel
theorem dX10_stuck_149 : decode cX10_stuck 149 = .ok (.iload_n 3, 1) := by decide +kernel
theorem dX10_stuck_150 : decode cX10_stuck 150 = .ok (.aload_n 0, 1) := by decide +kernel
theorem dX10_stuck_151 : decode cX10_stuck 151 = .ok (.getfield 49, 3) := by decide +kernel
theorem dX10_stuck_154 : decode cX10_stuck 154 = .ok (.bipush 80, 2) := by decide +kernel
theorem dX10_stuck_156 : decode cX10_stuck 156 = .ok (.iload_n 1, 1) := by decide +kernel
theorem dX10_stuck_157 : decode cX10_stuck 157 = .ok (.imul, 1) := by decide +kernel
theorem dX10_stuck_158 : decode cX10_stuck 158 = .ok (.iload 4, 2) := by decide +kernel
theorem dX10_stuck_160 : decode cX10_stuck 160 = .ok (.iadd, 1) := by decide +kernel
theorem dX10_stuck_161 : decode cX10_stuck 161 = .ok (.baload, 1) := by decide +kernel
theorem dX10_stuck_162 : decode cX10_stuck 162 = .ok (.ior, 1) := by decide +kernel
theorem dX10_stuck_163 : decode cX10_stuck 163 = .ok (.istore_n 3, 1) := by decide +kernel
theorem dX10_stuck_164 : decode cX10_stuck 164 = .ok (.iinc 4 1, 3) := by decide +kernel
theorem dX10_stuck_167 : decode cX10_stuck 167 = .ok (.goto (-136), 3) := by decide +kernel
theorem dX10_stuck_170 : decode cX10_stuck 170 = .ok (.iload_n 3, 1) := by decide +kernel
theorem dX10_stuck_171 : decode cX10_stuck 171 = .ok (.ifCond .ne 5, 3) := by decide +kernel
theorem dX10_stuck_174 : decode cX10_stuck 174 = .ok (.iload_n 1, 1) := by decide +kernel
theorem dX10_stuck_175 : decode cX10_stuck 175 = .ok (.ireturn, 1) := by decide +kernel
theorem dX10_stuck_176 : decode cX10_stuck 176 = .ok (.iinc 1 1, 3) := by decide +kernel
theorem dX10_stuck_179 : decode cX10_stuck 179 = .ok (.goto (-173), 3) := by decide +kernel
theorem dX10_stuck_182 : decode cX10_stuck 182 = .ok (.bipush (-2), 2) := by decide +kernel
theorem dX10_stuck_184 : decode cX10_stuck 184 = .ok (.ireturn, 1) := by decide +kernel
theorem dX10_more_0 : decode cX10_more 0 = .ok (.iload_n 0, 1) := by decide +kernel
theorem dX10_more_1 : decode cX10_more 1 = .ok (.iload_n 1, 1) := by decide +kernel
theorem dX10_more_2 : decode cX10_more 2 = .ok (.iadd, 1) := by decide +kernel
theorem dX10_more_3 : decode cX10_more 3 = .ok (.ldc 156, 2) := by decide +kernel
theorem dX10_more_5 : decode cX10_more 5 = .ok (.if_icmp .le 8, 3) := by decide +kernel
theorem dX10_more_8 : decode cX10_more 8 = .ok (.ldc 156, 2) := by decide +kernel
theorem dX10_more_10 : decode cX10_more 10 = .ok (.goto 6, 3) := by decide +kernel
theorem dX10_more_13 : decode cX10_more 13 = .ok (.iload_n 0, 1) := by decide +kernel
theorem dX10_more_14 : decode cX10_more 14 = .ok (.iload_n 1, 1) := by decide +kernel
theorem dX10_more_15 : decode cX10_more 15 = .ok (.iadd, 1) := by decide +kernel
theorem dX10_more_16 : decode cX10_more 16 = .ok (.ireturn, 1) := by decide +kernel
theorem dX10_countChain_0 : decode cX10_countChain 0 = .ok (.iconst 0, 1) := by decide +kernel
theorem dX10_countChain_1 : decode cX10_countChain 1 = .ok (.istore_n 2, 1) := by decide +kernel
theorem dX10_countChain_2 : decode cX10_countChain 2 = .ok (.iload_n 2, 1) := by decide +kernel
theorem dX10_countChain_3 : decode cX10_countChain 3 = .ok (.sipush 301, 3) := by decide +kernel
theorem dX10_countChain_6 : decode cX10_countChain 6 = .ok (.if_icmp .ge 16, 3) := by decide +kernel
theorem dX10_countChain_9 : decode cX10_countChain 9 = .ok (.aload_n 0, 1) := by decide +kernel
theorem dX10_countChain_10 : decode cX10_countChain 10 = .ok (.getfield 57, 3) := by decide +kernel
theorem dX10_countChain_13 : decode cX10_countChain 13 = .ok (.iload_n 2, 1) := by decide +kernel
theorem dX10_countChain_14 : decode cX10_countChain 14 = .ok (.iconst 0, 1) := by decide +kernel
theorem dX10_countChain_15 : decode cX10_countChain 15 = .ok (.iastore, 1) := by decide +kernel
theorem dX10_countChain_16 : decode cX10_countChain 16 = .ok (.iinc 2 1, 3) := by decide +kernel
theorem dX10_countChain_19 : decode cX10_countChain 19 = .ok (.goto (-17), 3) := by decide +kernel
theorem dX10_countChain_22 : decode cX10_countChain 22 = .ok (.aload_n 0, 1) := by decide +kernel
theorem dX10_countChain_23 : decode cX10_countChain 23 = .ok (.iload_n 1, 1) := by decide +kernel
theorem dX10_countChain_24 : decode cX10_countChain 24 = .ok (.invokevirtual 160, 3) := by decide +kernel
theorem dX10_countChain_27 : decode cX10_countChain 27 = .ok (.istore_n 2, 1) := by decide +kernel
theorem dX10_countChain_28 : decode cX10_countChain 28 = .ok (.iload_n 2, 1) := by decide +kernel
theorem dX10_countChain_29 : decode cX10_countChain 29 = .ok (.ifCond .ge 11, 3) := by decide +kernel
theorem dX10_countChain_32 : decode cX10_countChain 32 = .ok (.aload_n 0, 1) := by decide +kernel
theorem dX10_countChain_33 : decode cX10_countChain 33 = .ok (.getfield 57, 3) := by decide +kernel
theorem dX10_countChain_36 : decode cX10_countChain 36 = .ok (.iconst 0, 1) := by decide +kernel
theorem dX10_countChain_37 : decode cX10_countChain 37 = .ok (.iconst 1, 1) := by decide +kernel
theorem dX10_countChain_38 : decode cX10_countChain 38 = .ok (.iastore, 1) := by decide +kernel
theorem dX10_countChain_39 : decode cX10_countChain 39 = .ok (.return_, 1) := by decide +kernel
theorem dX10_countChain_40 : decode cX10_countChain 40 = .ok (.iconst 0, 1) := by decide +kernel
theorem dX10_countChain_41 : decode cX10_countChain 41 = .ok (.istore_n 3, 1) := by decide +kernel
theorem dX10_countChain_42 : decode cX10_countChain 42 = .ok (.aload_n 0, 1) := by decide +kernel
theorem dX10_countChain_43 : decode cX10_countChain 43 = .ok (.iload_n 2, 1) := by decide +kernel
theorem dX10_countChain_44 : decode cX10_countChain 44 = .ok (.invokevirtual 176, 3) := by decide +kernel
theorem dX10_countChain_47 : decode cX10_countChain 47 = .ok (.aload_n 0, 1) := by decide +kernel
theorem dX10_countChain_48 : decode cX10_countChain 48 = .ok (.iload_n 2, 1) := by decide +kernel
theorem dX10_countChain_49 : decode cX10_countChain 49 = .ok (.invokevirtual 150, 3) := by decide +kernel
theorem dX10_countChain_52 : decode cX10_countChain 52 = .ok (.istore 4, 2) := by decide +kernel
theorem dX10_countChain_54 : decode cX10_countChain 54 = .ok (.iload 4, 2) := by decide +kernel
theorem dX10_countChain_56 : decode cX10_countChain 56 = .ok (.ifCond .lt 29, 3) := by decide +kernel
theorem dX10_countChain_59 : decode cX10_countChain 59 = .ok (.aload_n 0, 1) := by decide +kernel
theorem dX10_countChain_60 : decode cX10_countChain 60 = .ok (.iload_n 2, 1) := by decide +kernel
theorem dX10_countChain_61 : decode cX10_countChain 61 = .ok (.iload 4, 2) := by decide +kernel
theorem dX10_countChain_63 : decode cX10_countChain 63 = .ok (.iload_n 3, 1) := by decide +kernel
theorem dX10_countChain_64 : decode cX10_countChain 64 = .ok (.invokevirtual 179, 3) := by decide +kernel
theorem dX10_countChain_67 : decode cX10_countChain 67 = .ok (.iconst 1, 1) := by decide +kernel
theorem dX10_countChain_68 : decode cX10_countChain 68 = .ok (.iload_n 3, 1) := by decide +kernel
theorem dX10_countChain_69 : decode cX10_countChain 69 = .ok (.isub, 1) := by decide +kernel
theorem dX10_countChain_70 : decode cX10_countChain 70 = .ok (.istore_n 3, 1) := by decide +kernel
theorem dX10_countChain_71 : decode cX10_countChain 71 = .ok (.iload 4, 2) := by decide +kernel
theorem dX10_countChain_73 : decode cX10_countChain 73 = .ok (.istore_n 2, 1) := by decide +kernel
theorem dX10_countChain_74 : decode cX10_countChain 74 = .ok (.aload_n 0, 1) := by decide +kernel
theorem dX10_countChain_75 : decode cX10_countChain 75 = .ok (.iload 4, 2) := by decide +kernel
theorem dX10_countChain_77 : decode cX10_countChain 77 = .ok (.invokevirtual 150, 3) := by decide +kernel
theorem dX10_countChain_80 : decode cX10_countChain 80 = .ok (.istore 4, 2) := by decide +kernel
theorem dX10_countChain_82 : decode cX10_countChain 82 = .ok (.goto (-28), 3) := by decide +kernel
theorem dX10_countChain_85 : decode cX10_countChain 85 = .ok (.iconst 0, 1) := by decide +kernel
theorem dX10_countChain_86 : decode cX10_countChain 86 = .ok (.istore 4, 2) := by decide +kernel
theorem dX10_countChain_88 : decode cX10_countChain 88 = .ok (.iload 4, 2) := by decide +kernel
theorem dX10_countChain_90 : decode cX10_countChain 90 = .ok (.aload_n 0, 1) := by decide +kernel
theorem dX10_countChain_91 : decode cX10_countChain 91 = .ok (.getfield 31, 3) := by decide +kernel
theorem dX10_countChain_94 : decode cX10_countChain 94 = .ok (.iload_n 2, 1) := by decide +kernel
theorem dX10_countChain_95 : decode cX10_countChain 95 = .ok (.iaload, 1) := by decide +kernel
theorem dX10_countChain_96 : decode cX10_countChain 96 = .ok (.if_icmp .ge 63, 3) := by decide +kernel
theorem dX10_countChain_99 : decode cX10_countChain 99 = .ok (.iconst 0, 1) := by decide +kernel
theorem dX10_countChain_100 : decode cX10_countChain 100 = .ok (.istore 5, 2) := by decide +kernel
theorem dX10_countChain_102 : decode cX10_countChain 102 = .ok (.iload 5, 2) := by decide +kernel
theorem dX10_countChain_104 : decode cX10_countChain 104 = .ok (.sipush 301, 3) := by decide +kernel
theorem dX10_countChain_107 : decode cX10_countChain 107 = .ok (.if_icmp .ge 46, 3) := by decide +kernel
theorem dX10_countChain_110 : decode cX10_countChain 110 = .ok (.aload_n 0, 1) := by decide +kernel
theorem dX10_countChain_111 : decode cX10_countChain 111 = .ok (.getfield 57, 3) := by decide +kernel
theorem dX10_countChain_114 : decode cX10_countChain 114 = .ok (.iload 5, 2) := by decide +kernel
theorem dX10_countChain_116 : decode cX10_countChain 116 = .ok (.aload_n 0, 1) := by decide +kernel
theorem dX10_countChain_117 : decode cX10_countChain 117 = .ok (.getfield 57, 3) := by decide +kernel
theorem dX10_countChain_120 : decode cX10_countChain 120 = .ok (.iload 5, 2) := by decide +kernel
theorem dX10_countChain_122 : decode cX10_countChain 122 = .ok (.iaload, 1) := by decide +kernel
theorem dX10_countChain_123 : decode cX10_countChain 123 = .ok (.aload_n 0, 1) := by decide +kernel
theorem dX10_countChain_124 : decode cX10_countChain 124 = .ok (.getfield 54, 3) := by decide +kernel
theorem dX10_countChain_127 : decode cX10_countChain 127 = .ok (.sipush 24080, 3) := by decide +kernel
theorem dX10_countChain_130 : decode cX10_countChain 130 = .ok (.iload_n 3, 1) := by decide +kernel
theorem dX10_countChain_131 : decode cX10_countChain 131 = .ok (.imul, 1) := by decide +kernel
theorem dX10_countChain_132 : decode cX10_countChain 132 = .ok (.sipush 301, 3) := by decide +kernel
theorem dX10_countChain_135 : decode cX10_countChain 135 = .ok (.iload 4, 2) := by decide +kernel
theorem dX10_countChain_137 : decode cX10_countChain 137 = .ok (.imul, 1) := by decide +kernel
theorem dX10_countChain_138 : decode cX10_countChain 138 = .ok (.iadd, 1) := by decide +kernel
theorem dX10_countChain_139 : decode cX10_countChain 139 = .ok (.iload 5, 2) := by decide +kernel
theorem dX10_countChain_141 : decode cX10_countChain 141 = .ok (.iadd, 1) := by decide +kernel
theorem dX10_countChain_142 : decode cX10_countChain 142 = .ok (.iaload, 1) := by decide +kernel
theorem dX10_countChain_143 : decode cX10_countChain 143 = .ok (.invokestatic 182, 3) := by decide +kernel
theorem dX10_countChain_146 : decode cX10_countChain 146 = .ok (.iastore, 1) := by decide +kernel
theorem dX10_countChain_147 : decode cX10_countChain 147 = .ok (.iinc 5 1, 3) := by decide +kernel
theorem dX10_countChain_150 : decode cX10_countChain 150 = .ok (.goto (-48), 3) := by decide +kernel
theorem dX10_countChain_153 : decode cX10_countChain 153 = .ok (.iinc 4 1, 3) := by decide +kernel
theorem dX10_countChain_156 : decode cX10_countChain 156 = .ok (.goto (-68), 3) := by decide +kernel
theorem dX10_countChain_159 : decode cX10_countChain 159 = .ok (.return_, 1) := by decide +kernel
theorem dX10_beginCounts_0 : decode cX10_beginCounts 0 = .ok (.iconst 0, 1) := by decide +kernel
theorem dX10_beginCounts_1 : decode cX10_beginCounts 1 = .ok (.istore_n 2, 1) := by decide +kernel
theorem dX10_beginCounts_2 : decode cX10_beginCounts 2 = .ok (.iload_n 2, 1) := by decide +kernel
theorem dX10_beginCounts_3 : decode cX10_beginCounts 3 = .ok (.aload_n 0, 1) := by decide +kernel
theorem dX10_beginCounts_4 : decode cX10_beginCounts 4 = .ok (.getfield 31, 3) := by decide +kernel
theorem dX10_beginCounts_7 : decode cX10_beginCounts 7 = .ok (.iload_n 1, 1) := by decide +kernel
theorem dX10_beginCounts_8 : decode cX10_beginCounts 8 = .ok (.iaload, 1) := by decide +kernel
theorem dX10_beginCounts_9 : decode cX10_beginCounts 9 = .ok (.if_icmp .ge 65, 3) := by decide +kernel
theorem dX10_beginCounts_12 : decode cX10_beginCounts 12 = .ok (.iconst 0, 1) := by decide +kernel
theorem dX10_beginCounts_13 : decode cX10_beginCounts 13 = .ok (.istore_n 3, 1) := by decide +kernel
theorem dX10_beginCounts_14 : decode cX10_beginCounts 14 = .ok (.iload_n 3, 1) := by decide +kernel
theorem dX10_beginCounts_15 : decode cX10_beginCounts 15 = .ok (.sipush 301, 3) := by decide +kernel
theorem dX10_beginCounts_18 : decode cX10_beginCounts 18 = .ok (.if_icmp .ge 50, 3) := by decide +kernel
theorem dX10_beginCounts_21 : decode cX10_beginCounts 21 = .ok (.aload_n 0, 1) := by decide +kernel
theorem dX10_beginCounts_22 : decode cX10_beginCounts 22 = .ok (.getfield 54, 3) := by decide +kernel
theorem dX10_beginCounts_25 : decode cX10_beginCounts 25 = .ok (.sipush 301, 3) := by decide +kernel
theorem dX10_beginCounts_28 : decode cX10_beginCounts 28 = .ok (.iload_n 2, 1) := by decide +kernel
theorem dX10_beginCounts_29 : decode cX10_beginCounts 29 = .ok (.imul, 1) := by decide +kernel
theorem dX10_beginCounts_30 : decode cX10_beginCounts 30 = .ok (.iload_n 3, 1) := by decide +kernel
theorem dX10_beginCounts_31 : decode cX10_beginCounts 31 = .ok (.iadd, 1) := by decide +kernel
theorem dX10_beginCounts_32 : decode cX10_beginCounts 32 = .ok (.aload_n 0, 1) := by decide +kernel
theorem dX10_beginCounts_33 : decode cX10_beginCounts 33 = .ok (.iload_n 1, 1) := by decide +kernel
theorem dX10_beginCounts_34 : decode cX10_beginCounts 34 = .ok (.iload_n 2, 1) := by decide +kernel
theorem dX10_beginCounts_35 : decode cX10_beginCounts 35 = .ok (.invokevirtual 157, 3) := by decide +kernel
theorem dX10_beginCounts_38 : decode cX10_beginCounts 38 = .ok (.ifCond .eq 22, 3) := by decide +kernel
theorem dX10_beginCounts_41 : decode cX10_beginCounts 41 = .ok (.aload_n 0, 1) := by decide +kernel
theorem dX10_beginCounts_42 : decode cX10_beginCounts 42 = .ok (.getfield 40, 3) := by decide +kernel
theorem dX10_beginCounts_45 : decode cX10_beginCounts 45 = .ok (.bipush 80, 2) := by decide +kernel
theorem dX10_beginCounts_47 : decode cX10_beginCounts 47 = .ok (.iload_n 1, 1) := by decide +kernel
theorem dX10_beginCounts_48 : decode cX10_beginCounts 48 = .ok (.imul, 1) := by decide +kernel
theorem dX10_beginCounts_49 : decode cX10_beginCounts 49 = .ok (.iload_n 2, 1) := by decide +kernel
theorem dX10_beginCounts_50 : decode cX10_beginCounts 50 = .ok (.iadd, 1) := by decide +kernel
theorem dX10_beginCounts_51 : decode cX10_beginCounts 51 = .ok (.iaload, 1) := by decide +kernel
theorem dX10_beginCounts_52 : decode cX10_beginCounts 52 = .ok (.iload_n 3, 1) := by decide +kernel
theorem dX10_beginCounts_53 : decode cX10_beginCounts 53 = .ok (.if_icmp .ne 7, 3) := by decide +kernel
theorem dX10_beginCounts_56 : decode cX10_beginCounts 56 = .ok (.iconst 1, 1) := by decide +kernel
theorem dX10_beginCounts_57 : decode cX10_beginCounts 57 = .ok (.goto 4, 3) := by decide +kernel
theorem dX10_beginCounts_60 : decode cX10_beginCounts 60 = .ok (.iconst 0, 1) := by decide +kernel
theorem dX10_beginCounts_61 : decode cX10_beginCounts 61 = .ok (.iastore, 1) := by decide +kernel
theorem dX10_beginCounts_62 : decode cX10_beginCounts 62 = .ok (.iinc 3 1, 3) := by decide +kernel
theorem dX10_beginCounts_65 : decode cX10_beginCounts 65 = .ok (.goto (-51), 3) := by decide +kernel
theorem dX10_beginCounts_68 : decode cX10_beginCounts 68 = .ok (.iinc 2 1, 3) := by decide +kernel
theorem dX10_beginCounts_71 : decode cX10_beginCounts 71 = .ok (.goto (-69), 3) := by decide +kernel
theorem dX10_beginCounts_74 : decode cX10_beginCounts 74 = .ok (.return_, 1) := by decide +kernel
theorem dX10_goOn_0 : decode cX10_goOn 0 = .ok (.sipush 24080, 3) := by decide +kernel
theorem dX10_goOn_3 : decode cX10_goOn 3 = .ok (.iload_n 3, 1) := by decide +kernel
theorem dX10_goOn_4 : decode cX10_goOn 4 = .ok (.imul, 1) := by decide +kernel
theorem dX10_goOn_5 : decode cX10_goOn 5 = .ok (.istore 4, 2) := by decide +kernel
theorem dX10_goOn_7 : decode cX10_goOn 7 = .ok (.sipush 24080, 3) := by decide +kernel
theorem dX10_goOn_10 : decode cX10_goOn 10 = .ok (.iconst 1, 1) := by decide +kernel
theorem dX10_goOn_11 : decode cX10_goOn 11 = .ok (.iload_n 3, 1) := by decide +kernel
theorem dX10_goOn_12 : decode cX10_goOn 12 = .ok (.isub, 1) := by decide +kernel
theorem dX10_goOn_13 : decode cX10_goOn 13 = .ok (.imul, 1) := by decide +kernel
theorem dX10_goOn_14 : decode cX10_goOn 14 = .ok (.istore 5, 2) := by decide +kernel
theorem dX10_goOn_16 : decode cX10_goOn 16 = .ok (.iconst 0, 1) := by decide +kernel
theorem dX10_goOn_17 : decode cX10_goOn 17 = .ok (.istore 6, 2) := by decide +kernel
theorem dX10_goOn_19 : decode cX10_goOn 19 = .ok (.iload 6, 2) := by decide +kernel
theorem dX10_goOn_21 : decode cX10_goOn 21 = .ok (.aload_n 0, 1) := by decide +kernel
theorem dX10_goOn_22 : decode cX10_goOn 22 = .ok (.getfield 31, 3) := by decide +kernel
theorem dX10_goOn_25 : decode cX10_goOn 25 = .ok (.iload_n 2, 1) := by decide +kernel
theorem dX10_goOn_26 : decode cX10_goOn 26 = .ok (.iaload, 1) := by decide +kernel
theorem dX10_goOn_27 : decode cX10_goOn 27 = .ok (.if_icmp .ge 188, 3) := by decide +kernel
theorem dX10_goOn_30 : decode cX10_goOn 30 = .ok (.iconst 0, 1) := by decide +kernel
theorem dX10_goOn_31 : decode cX10_goOn 31 = .ok (.istore 7, 2) := by decide +kernel
theorem dX10_goOn_33 : decode cX10_goOn 33 = .ok (.iload 7, 2) := by decide +kernel
theorem dX10_goOn_35 : decode cX10_goOn 35 = .ok (.sipush 301, 3) := by decide +kernel
theorem dX10_goOn_38 : decode cX10_goOn 38 = .ok (.if_icmp .ge 27, 3) := by decide +kernel
theorem dX10_goOn_41 : decode cX10_goOn 41 = .ok (.aload_n 0, 1) := by decide +kernel
theorem dX10_goOn_42 : decode cX10_goOn 42 = .ok (.getfield 54, 3) := by decide +kernel
theorem dX10_goOn_45 : decode cX10_goOn 45 = .ok (.iload 5, 2) := by decide +kernel
theorem dX10_goOn_47 : decode cX10_goOn 47 = .ok (.sipush 301, 3) := by decide +kernel
theorem dX10_goOn_50 : decode cX10_goOn 50 = .ok (.iload 6, 2) := by decide +kernel
theorem dX10_goOn_52 : decode cX10_goOn 52 = .ok (.imul, 1) := by decide +kernel
theorem dX10_goOn_53 : decode cX10_goOn 53 = .ok (.iadd, 1) := by decide +kernel
theorem dX10_goOn_54 : decode cX10_goOn 54 = .ok (.iload 7, 2) := by decide +kernel
theorem dX10_goOn_56 : decode cX10_goOn 56 = .ok (.iadd, 1) := by decide +kernel
theorem dX10_goOn_57 : decode cX10_goOn 57 = .ok (.iconst 0, 1) := by decide +kernel
theorem dX10_goOn_58 : decode cX10_goOn 58 = .ok (.iastore, 1) := by decide +kernel
theorem dX10_goOn_59 : decode cX10_goOn 59 = .ok (.iinc 7 1, 3) := by decide +kernel
theorem dX10_goOn_62 : decode cX10_goOn 62 = .ok (.goto (-29), 3) := by decide +kernel
theorem dX10_goOn_65 : decode cX10_goOn 65 = .ok (.iconst 0, 1) := by decide +kernel
theorem dX10_goOn_66 : decode cX10_goOn 66 = .ok (.istore 7, 2) := by decide +kernel
theorem dX10_goOn_68 : decode cX10_goOn 68 = .ok (.iload 7, 2) := by decide +kernel
theorem dX10_goOn_70 : decode cX10_goOn 70 = .ok (.aload_n 0, 1) := by decide +kernel
theorem dX10_goOn_71 : decode cX10_goOn 71 = .ok (.getfield 31, 3) := by decide +kernel
theorem dX10_goOn_74 : decode cX10_goOn 74 = .ok (.iload_n 1, 1) := by decide +kernel
theorem dX10_goOn_75 : decode cX10_goOn 75 = .ok (.iaload, 1) := by decide +kernel
theorem dX10_goOn_76 : decode cX10_goOn 76 = .ok (.if_icmp .ge 133, 3) := by decide +kernel
theorem dX10_goOn_79 : decode cX10_goOn 79 = .ok (.aload_n 0, 1) := by decide +kernel
theorem dX10_goOn_80 : decode cX10_goOn 80 = .ok (.iload_n 2, 1) := by decide +kernel
theorem dX10_goOn_81 : decode cX10_goOn 81 = .ok (.iload 6, 2) := by decide +kernel
theorem dX10_goOn_83 : decode cX10_goOn 83 = .ok (.invokevirtual 157, 3) := by decide +kernel
theorem dX10_goOn_86 : decode cX10_goOn 86 = .ok (.ifCond .eq 123, 3) := by decide +kernel
theorem dX10_goOn_89 : decode cX10_goOn 89 = .ok (.aload_n 0, 1) := by decide +kernel
theorem dX10_goOn_90 : decode cX10_goOn 90 = .ok (.iload_n 1, 1) := by decide +kernel
theorem dX10_goOn_91 : decode cX10_goOn 91 = .ok (.iload 7, 2) := by decide +kernel
theorem dX10_goOn_93 : decode cX10_goOn 93 = .ok (.iload_n 2, 1) := by decide +kernel
theorem dX10_goOn_94 : decode cX10_goOn 94 = .ok (.iload 6, 2) := by decide +kernel
theorem dX10_goOn_96 : decode cX10_goOn 96 = .ok (.invokevirtual 153, 3) := by decide +kernel
theorem dX10_goOn_99 : decode cX10_goOn 99 = .ok (.istore 8, 2) := by decide +kernel
theorem dX10_goOn_101 : decode cX10_goOn 101 = .ok (.iload 8, 2) := by decide +kernel
theorem dX10_goOn_103 : decode cX10_goOn 103 = .ok (.aload_n 0, 1) := by decide +kernel
theorem dX10_goOn_104 : decode cX10_goOn 104 = .ok (.getfield 40, 3) := by decide +kernel
theorem dX10_goOn_107 : decode cX10_goOn 107 = .ok (.bipush 80, 2) := by decide +kernel
theorem dX10_goOn_109 : decode cX10_goOn 109 = .ok (.iload_n 2, 1) := by decide +kernel
theorem dX10_goOn_110 : decode cX10_goOn 110 = .ok (.imul, 1) := by decide +kernel
theorem dX10_goOn_111 : decode cX10_goOn 111 = .ok (.iload 6, 2) := by decide +kernel
theorem dX10_goOn_113 : decode cX10_goOn 113 = .ok (.iadd, 1) := by decide +kernel
theorem dX10_goOn_114 : decode cX10_goOn 114 = .ok (.iaload, 1) := by decide +kernel
theorem dX10_goOn_115 : decode cX10_goOn 115 = .ok (.iadd, 1) := by decide +kernel
theorem dX10_goOn_116 : decode cX10_goOn 116 = .ok (.istore 9, 2) := by decide +kernel
theorem dX10_goOn_118 : decode cX10_goOn 118 = .ok (.iconst 0, 1) := by decide +kernel
theorem dX10_goOn_119 : decode cX10_goOn 119 = .ok (.istore 10, 2) := by decide +kernel
theorem dX10_goOn_121 : decode cX10_goOn 121 = .ok (.iload 8, 2) := by decide +kernel
theorem dX10_goOn_123 : decode cX10_goOn 123 = .ok (.ifCond .lt 80, 3) := by decide +kernel
theorem dX10_goOn_126 : decode cX10_goOn 126 = .ok (.iload 10, 2) := by decide +kernel
theorem dX10_goOn_128 : decode cX10_goOn 128 = .ok (.iload 9, 2) := by decide +kernel
theorem dX10_goOn_130 : decode cX10_goOn 130 = .ok (.iadd, 1) := by decide +kernel
theorem dX10_goOn_131 : decode cX10_goOn 131 = .ok (.sipush 301, 3) := by decide +kernel
theorem dX10_goOn_134 : decode cX10_goOn 134 = .ok (.if_icmp .ge 69, 3) := by decide +kernel
theorem dX10_goOn_137 : decode cX10_goOn 137 = .ok (.aload_n 0, 1) := by decide +kernel
theorem dX10_goOn_138 : decode cX10_goOn 138 = .ok (.getfield 54, 3) := by decide +kernel
theorem dX10_goOn_141 : decode cX10_goOn 141 = .ok (.iload 5, 2) := by decide +kernel
theorem dX10_goOn_143 : decode cX10_goOn 143 = .ok (.sipush 301, 3) := by decide +kernel
theorem dX10_goOn_146 : decode cX10_goOn 146 = .ok (.iload 6, 2) := by decide +kernel
theorem dX10_goOn_148 : decode cX10_goOn 148 = .ok (.imul, 1) := by decide +kernel
theorem dX10_goOn_149 : decode cX10_goOn 149 = .ok (.iadd, 1) := by decide +kernel
theorem dX10_goOn_150 : decode cX10_goOn 150 = .ok (.iload 10, 2) := by decide +kernel
theorem dX10_goOn_152 : decode cX10_goOn 152 = .ok (.iadd, 1) := by decide +kernel
theorem dX10_goOn_153 : decode cX10_goOn 153 = .ok (.iload 9, 2) := by decide +kernel
theorem dX10_goOn_155 : decode cX10_goOn 155 = .ok (.iadd, 1) := by decide +kernel
theorem dX10_goOn_156 : decode cX10_goOn 156 = .ok (.aload_n 0, 1) := by decide +kernel
theorem dX10_goOn_157 : decode cX10_goOn 157 = .ok (.getfield 54, 3) := by decide +kernel
theorem dX10_goOn_160 : decode cX10_goOn 160 = .ok (.iload 5, 2) := by decide +kernel
theorem dX10_goOn_162 : decode cX10_goOn 162 = .ok (.sipush 301, 3) := by decide +kernel
theorem dX10_goOn_165 : decode cX10_goOn 165 = .ok (.iload 6, 2) := by decide +kernel
theorem dX10_goOn_167 : decode cX10_goOn 167 = .ok (.imul, 1) := by decide +kernel
theorem dX10_goOn_168 : decode cX10_goOn 168 = .ok (.iadd, 1) := by decide +kernel
theorem dX10_goOn_169 : decode cX10_goOn 169 = .ok (.iload 10, 2) := by decide +kernel
theorem dX10_goOn_171 : decode cX10_goOn 171 = .ok (.iadd, 1) := by decide +kernel
theorem dX10_goOn_172 : decode cX10_goOn 172 = .ok (.iload 9, 2) := by decide +kernel
theorem dX10_goOn_174 : decode cX10_goOn 174 = .ok (.iadd, 1) := by decide +kernel
theorem dX10_goOn_175 : decode cX10_goOn 175 = .ok (.iaload, 1) := by decide +kernel
theorem dX10_goOn_176 : decode cX10_goOn 176 = .ok (.aload_n 0, 1) := by decide +kernel
theorem dX10_goOn_177 : decode cX10_goOn 177 = .ok (.getfield 54, 3) := by decide +kernel
theorem dX10_goOn_180 : decode cX10_goOn 180 = .ok (.iload 4, 2) := by decide +kernel
theorem dX10_goOn_182 : decode cX10_goOn 182 = .ok (.sipush 301, 3) := by decide +kernel
theorem dX10_goOn_185 : decode cX10_goOn 185 = .ok (.iload 7, 2) := by decide +kernel
theorem dX10_goOn_187 : decode cX10_goOn 187 = .ok (.imul, 1) := by decide +kernel
theorem dX10_goOn_188 : decode cX10_goOn 188 = .ok (.iadd, 1) := by decide +kernel
theorem dX10_goOn_189 : decode cX10_goOn 189 = .ok (.iload 10, 2) := by decide +kernel
theorem dX10_goOn_191 : decode cX10_goOn 191 = .ok (.iadd, 1) := by decide +kernel
theorem dX10_goOn_192 : decode cX10_goOn 192 = .ok (.iaload, 1) := by decide +kernel
theorem dX10_goOn_193 : decode cX10_goOn 193 = .ok (.invokestatic 182, 3) := by decide +kernel
theorem dX10_goOn_196 : decode cX10_goOn 196 = .ok (.iastore, 1) := by decide +kernel
theorem dX10_goOn_197 : decode cX10_goOn 197 = .ok (.iinc 10 1, 3) := by decide +kernel
theorem dX10_goOn_200 : decode cX10_goOn 200 = .ok (.goto (-79), 3) := by decide +kernel
theorem dX10_goOn_203 : decode cX10_goOn 203 = .ok (.iinc 7 1, 3) := by decide +kernel
theorem dX10_goOn_206 : decode cX10_goOn 206 = .ok (.goto (-138), 3) := by decide +kernel
theorem dX10_goOn_209 : decode cX10_goOn 209 = .ok (.iinc 6 1, 3) := by decide +kernel
theorem dX10_goOn_212 : decode cX10_goOn 212 = .ok (.goto (-193), 3) := by decide +kernel
theorem dX10_goOn_215 : decode cX10_goOn 215 = .ok (.return_, 1) := by decide +kernel
theorem dX10_ways_0 : decode cX10_ways 0 = .ok (.iload_n 1, 1) := by decide +kernel
theorem dX10_ways_1 : decode cX10_ways 1 = .ok (.iconst 0, 1) := by decide +kernel
theorem dX10_ways_2 : decode cX10_ways 2 = .ok (.sipush 300, 3) := by decide +kernel
theorem dX10_ways_5 : decode cX10_ways 5 = .ok (.invokestatic 70, 3) := by decide +kernel
theorem dX10_ways_8 : decode cX10_ways 8 = .ok (.ifCond .ne 5, 3) := by decide +kernel
theorem dX10_ways_11 : decode cX10_ways 11 = .ok (.iconst (-1), 1) := by decide +kernel
theorem dX10_ways_12 : decode cX10_ways 12 = .ok (.ireturn, 1) := by decide +kernel
theorem dX10_ways_13 : decode cX10_ways 13 = .ok (.aload_n 0, 1) := by decide +kernel
theorem dX10_ways_14 : decode cX10_ways 14 = .ok (.invokevirtual 131, 3) := by decide +kernel
theorem dX10_ways_17 : decode cX10_ways 17 = .ok (.aload_n 0, 1) := by decide +kernel
theorem dX10_ways_18 : decode cX10_ways 18 = .ok (.iconst 0, 1) := by decide +kernel
theorem dX10_ways_19 : decode cX10_ways 19 = .ok (.invokevirtual 185, 3) := by decide +kernel
theorem dX10_ways_22 : decode cX10_ways 22 = .ok (.iconst 0, 1) := by decide +kernel
theorem dX10_ways_23 : decode cX10_ways 23 = .ok (.istore_n 2, 1) := by decide +kernel
theorem dX10_ways_24 : decode cX10_ways 24 = .ok (.iload_n 2, 1) := by decide +kernel
theorem dX10_ways_25 : decode cX10_ways 25 = .ok (.sipush 301, 3) := by decide +kernel
theorem dX10_ways_28 : decode cX10_ways 28 = .ok (.if_icmp .ge 21, 3) := by decide +kernel
theorem dX10_ways_31 : decode cX10_ways 31 = .ok (.aload_n 0, 1) := by decide +kernel
theorem dX10_ways_32 : decode cX10_ways 32 = .ok (.getfield 60, 3) := by decide +kernel
theorem dX10_ways_35 : decode cX10_ways 35 = .ok (.iload_n 2, 1) := by decide +kernel
theorem dX10_ways_36 : decode cX10_ways 36 = .ok (.aload_n 0, 1) := by decide +kernel
theorem dX10_ways_37 : decode cX10_ways 37 = .ok (.getfield 57, 3) := by decide +kernel
theorem dX10_ways_40 : decode cX10_ways 40 = .ok (.iload_n 2, 1) := by decide +kernel
theorem dX10_ways_41 : decode cX10_ways 41 = .ok (.iaload, 1) := by decide +kernel
theorem dX10_ways_42 : decode cX10_ways 42 = .ok (.iastore, 1) := by decide +kernel
theorem dX10_ways_43 : decode cX10_ways 43 = .ok (.iinc 2 1, 3) := by decide +kernel
theorem dX10_ways_46 : decode cX10_ways 46 = .ok (.goto (-22), 3) := by decide +kernel
theorem dX10_ways_49 : decode cX10_ways 49 = .ok (.aload_n 0, 1) := by decide +kernel
theorem dX10_ways_50 : decode cX10_ways 50 = .ok (.iconst 1, 1) := by decide +kernel
theorem dX10_ways_51 : decode cX10_ways 51 = .ok (.invokevirtual 185, 3) := by decide +kernel
theorem dX10_ways_54 : decode cX10_ways 54 = .ok (.lconst 0, 1) := by decide +kernel
theorem dX10_ways_55 : decode cX10_ways 55 = .ok (.lstore_n 2, 1) := by decide +kernel
theorem dX10_ways_56 : decode cX10_ways 56 = .ok (.iconst 0, 1) := by decide +kernel
theorem dX10_ways_57 : decode cX10_ways 57 = .ok (.istore 4, 2) := by decide +kernel
theorem dX10_ways_59 : decode cX10_ways 59 = .ok (.iload 4, 2) := by decide +kernel
theorem dX10_ways_61 : decode cX10_ways 61 = .ok (.iload_n 1, 1) := by decide +kernel
theorem dX10_ways_62 : decode cX10_ways 62 = .ok (.if_icmp .gt 64, 3) := by decide +kernel
theorem dX10_ways_65 : decode cX10_ways 65 = .ok (.iconst 0, 1) := by decide +kernel
theorem dX10_ways_66 : decode cX10_ways 66 = .ok (.istore 5, 2) := by decide +kernel
theorem dX10_ways_68 : decode cX10_ways 68 = .ok (.iload 5, 2) := by decide +kernel
theorem dX10_ways_70 : decode cX10_ways 70 = .ok (.iload 4, 2) := by decide +kernel
theorem dX10_ways_72 : decode cX10_ways 72 = .ok (.if_icmp .gt 48, 3) := by decide +kernel
theorem dX10_ways_75 : decode cX10_ways 75 = .ok (.lload_n 2, 1) := by decide +kernel
theorem dX10_ways_76 : decode cX10_ways 76 = .ok (.aload_n 0, 1) := by decide +kernel
theorem dX10_ways_77 : decode cX10_ways 77 = .ok (.getfield 60, 3) := by decide +kernel
theorem dX10_ways_80 : decode cX10_ways 80 = .ok (.iload 5, 2) := by decide +kernel
theorem dX10_ways_82 : decode cX10_ways 82 = .ok (.iaload, 1) := by decide +kernel
theorem dX10_ways_83 : decode cX10_ways 83 = .ok (.i2l, 1) := by decide +kernel
theorem dX10_ways_84 : decode cX10_ways 84 = .ok (.aload_n 0, 1) := by decide +kernel
theorem dX10_ways_85 : decode cX10_ways 85 = .ok (.getfield 57, 3) := by decide +kernel
theorem dX10_ways_88 : decode cX10_ways 88 = .ok (.iload 4, 2) := by decide +kernel
theorem dX10_ways_90 : decode cX10_ways 90 = .ok (.iload 5, 2) := by decide +kernel
theorem dX10_ways_92 : decode cX10_ways 92 = .ok (.isub, 1) := by decide +kernel
theorem dX10_ways_93 : decode cX10_ways 93 = .ok (.iaload, 1) := by decide +kernel
theorem dX10_ways_94 : decode cX10_ways 94 = .ok (.i2l, 1) := by decide +kernel
theorem dX10_ways_95 : decode cX10_ways 95 = .ok (.lmul, 1) := by decide +kernel
theorem dX10_ways_96 : decode cX10_ways 96 = .ok (.ladd, 1) := by decide +kernel
theorem dX10_ways_97 : decode cX10_ways 97 = .ok (.lstore_n 2, 1) := by decide +kernel
theorem dX10_ways_98 : decode cX10_ways 98 = .ok (.lload_n 2, 1) := by decide +kernel
theorem dX10_ways_99 : decode cX10_ways 99 = .ok (.ldc2_w 188, 3) := by decide +kernel
theorem dX10_ways_102 : decode cX10_ways 102 = .ok (.lcmp, 1) := by decide +kernel
theorem dX10_ways_103 : decode cX10_ways 103 = .ok (.ifCond .le 9, 3) := by decide +kernel
theorem dX10_ways_106 : decode cX10_ways 106 = .ok (.ldc2_w 188, 3) := by decide +kernel
theorem dX10_ways_109 : decode cX10_ways 109 = .ok (.goto 4, 3) := by decide +kernel
theorem dX10_ways_112 : decode cX10_ways 112 = .ok (.lload_n 2, 1) := by decide +kernel
theorem dX10_ways_113 : decode cX10_ways 113 = .ok (.lstore_n 2, 1) := by decide +kernel
theorem dX10_ways_114 : decode cX10_ways 114 = .ok (.iinc 5 1, 3) := by decide +kernel
theorem dX10_ways_117 : decode cX10_ways 117 = .ok (.goto (-49), 3) := by decide +kernel
theorem dX10_ways_120 : decode cX10_ways 120 = .ok (.iinc 4 1, 3) := by decide +kernel
theorem dX10_ways_123 : decode cX10_ways 123 = .ok (.goto (-64), 3) := by decide +kernel
theorem dX10_ways_126 : decode cX10_ways 126 = .ok (.lload_n 2, 1) := by decide +kernel
theorem dX10_ways_127 : decode cX10_ways 127 = .ok (.l2i, 1) := by decide +kernel
theorem dX10_ways_128 : decode cX10_ways 128 = .ok (.ireturn, 1) := by decide +kernel
theorem dX10_told_0 : decode cX10_told 0 = .ok (.iload_n 1, 1) := by decide +kernel
theorem dX10_told_1 : decode cX10_told 1 = .ok (.iconst 0, 1) := by decide +kernel
theorem dX10_told_2 : decode cX10_told 2 = .ok (.iconst 4, 1) := by decide +kernel
theorem dX10_told_3 : decode cX10_told 3 = .ok (.invokestatic 70, 3) := by decide +kernel
theorem dX10_told_6 : decode cX10_told 6 = .ok (.ifCond .ne 5, 3) := by decide +kernel
theorem dX10_told_9 : decode cX10_told 9 = .ok (.iconst (-1), 1) := by decide +kernel
theorem dX10_told_10 : decode cX10_told 10 = .ok (.ireturn, 1) := by decide +kernel
theorem dX10_told_11 : decode cX10_told 11 = .ok (.iconst 0, 1) := by decide +kernel
theorem dX10_told_12 : decode cX10_told 12 = .ok (.istore_n 2, 1) := by decide +kernel
theorem dX10_told_13 : decode cX10_told 13 = .ok (.iconst 0, 1) := by decide +kernel
theorem dX10_told_14 : decode cX10_told 14 = .ok (.istore_n 3, 1) := by decide +kernel
theorem dX10_told_15 : decode cX10_told 15 = .ok (.iload_n 3, 1) := by decide +kernel
theorem dX10_told_16 : decode cX10_told 16 = .ok (.aload_n 0, 1) := by decide +kernel
theorem dX10_told_17 : decode cX10_told 17 = .ok (.getfield 67, 3) := by decide +kernel
theorem dX10_told_20 : decode cX10_told 20 = .ok (.if_icmp .ge 52, 3) := by decide +kernel
theorem dX10_told_23 : decode cX10_told 23 = .ok (.iload_n 2, 1) := by decide +kernel
theorem dX10_told_24 : decode cX10_told 24 = .ok (.iload_n 1, 1) := by decide +kernel
theorem dX10_told_25 : decode cX10_told 25 = .ok (.ifCond .eq 34, 3) := by decide +kernel
theorem dX10_told_28 : decode cX10_told 28 = .ok (.iload_n 1, 1) := by decide +kernel
theorem dX10_told_29 : decode cX10_told 29 = .ok (.iconst 3, 1) := by decide +kernel
theorem dX10_told_30 : decode cX10_told 30 = .ok (.if_icmp .ge 15, 3) := by decide +kernel
theorem dX10_told_33 : decode cX10_told 33 = .ok (.aload_n 0, 1) := by decide +kernel
theorem dX10_told_34 : decode cX10_told 34 = .ok (.getfield 7, 3) := by decide +kernel
theorem dX10_told_37 : decode cX10_told 37 = .ok (.iload_n 3, 1) := by decide +kernel
theorem dX10_told_38 : decode cX10_told 38 = .ok (.iaload, 1) := by decide +kernel
theorem dX10_told_39 : decode cX10_told 39 = .ok (.iload_n 1, 1) := by decide +kernel
theorem dX10_told_40 : decode cX10_told 40 = .ok (.iconst 1, 1) := by decide +kernel
theorem dX10_told_41 : decode cX10_told 41 = .ok (.isub, 1) := by decide +kernel
theorem dX10_told_42 : decode cX10_told 42 = .ok (.if_icmp .eq 17, 3) := by decide +kernel
theorem dX10_told_45 : decode cX10_told 45 = .ok (.iload_n 1, 1) := by decide +kernel
theorem dX10_told_46 : decode cX10_told 46 = .ok (.iconst 4, 1) := by decide +kernel
theorem dX10_told_47 : decode cX10_told 47 = .ok (.if_icmp .ne 16, 3) := by decide +kernel
theorem dX10_told_50 : decode cX10_told 50 = .ok (.aload_n 0, 1) := by decide +kernel
theorem dX10_told_51 : decode cX10_told 51 = .ok (.getfield 25, 3) := by decide +kernel
theorem dX10_told_54 : decode cX10_told 54 = .ok (.iload_n 3, 1) := by decide +kernel
theorem dX10_told_55 : decode cX10_told 55 = .ok (.iaload, 1) := by decide +kernel
theorem dX10_told_56 : decode cX10_told 56 = .ok (.ifCond .lt 7, 3) := by decide +kernel
theorem dX10_told_59 : decode cX10_told 59 = .ok (.iconst 1, 1) := by decide +kernel
theorem dX10_told_60 : decode cX10_told 60 = .ok (.goto 4, 3) := by decide +kernel
theorem dX10_told_63 : decode cX10_told 63 = .ok (.iconst 0, 1) := by decide +kernel
theorem dX10_told_64 : decode cX10_told 64 = .ok (.iadd, 1) := by decide +kernel
theorem dX10_told_65 : decode cX10_told 65 = .ok (.istore_n 2, 1) := by decide +kernel
theorem dX10_told_66 : decode cX10_told 66 = .ok (.iinc 3 1, 3) := by decide +kernel
theorem dX10_told_69 : decode cX10_told 69 = .ok (.goto (-54), 3) := by decide +kernel
theorem dX10_told_72 : decode cX10_told 72 = .ok (.iload_n 1, 1) := by decide +kernel
theorem dX10_told_73 : decode cX10_told 73 = .ok (.iconst 3, 1) := by decide +kernel
theorem dX10_told_74 : decode cX10_told 74 = .ok (.if_icmp .ne 10, 3) := by decide +kernel
theorem dX10_told_77 : decode cX10_told 77 = .ok (.aload_n 0, 1) := by decide +kernel
theorem dX10_told_78 : decode cX10_told 78 = .ok (.getfield 63, 3) := by decide +kernel
theorem dX10_told_81 : decode cX10_told 81 = .ok (.goto 4, 3) := by decide +kernel
theorem dX10_told_84 : decode cX10_told 84 = .ok (.iload_n 2, 1) := by decide +kernel
theorem dX10_told_85 : decode cX10_told 85 = .ok (.ireturn, 1) := by decide +kernel
theorem dX10_about_0 : decode cX10_about 0 = .ok (.iload_n 1, 1) := by decide +kernel
theorem dX10_about_1 : decode cX10_about 1 = .ok (.iconst 0, 1) := by decide +kernel
theorem dX10_about_2 : decode cX10_about 2 = .ok (.aload_n 0, 1) := by decide +kernel
theorem dX10_about_3 : decode cX10_about 3 = .ok (.getfield 67, 3) := by decide +kernel
theorem dX10_about_6 : decode cX10_about 6 = .ok (.iconst 1, 1) := by decide +kernel
theorem dX10_about_7 : decode cX10_about 7 = .ok (.isub, 1) := by decide +kernel
theorem dX10_about_8 : decode cX10_about 8 = .ok (.invokestatic 70, 3) := by decide +kernel
theorem dX10_about_11 : decode cX10_about 11 = .ok (.ifCond .eq 13, 3) := by decide +kernel
theorem dX10_about_14 : decode cX10_about 14 = .ok (.iload_n 2, 1) := by decide +kernel
theorem dX10_about_15 : decode cX10_about 15 = .ok (.iconst 0, 1) := by decide +kernel
theorem dX10_about_16 : decode cX10_about 16 = .ok (.bipush 7, 2) := by decide +kernel
theorem dX10_about_18 : decode cX10_about 18 = .ok (.invokestatic 70, 3) := by decide +kernel
theorem dX10_about_21 : decode cX10_about 21 = .ok (.ifCond .ne 5, 3) := by decide +kernel
theorem dX10_about_24 : decode cX10_about 24 = .ok (.iconst (-1), 1) := by decide +kernel
theorem dX10_about_25 : decode cX10_about 25 = .ok (.ireturn, 1) := by decide +kernel
theorem dX10_about_26 : decode cX10_about 26 = .ok (.iload_n 2, 1) := by decide +kernel
theorem dX10_about_27 : decode cX10_about 27 = .ok (.tableswitch 80 0 7 #[45, 52, 59, 66, 80, 80, 80, 73], 45) := by decide +kernel
theorem dX10_about_72 : decode cX10_about 72 = .ok (.aload_n 0, 1) := by decide +kernel
theorem dX10_about_73 : decode cX10_about 73 = .ok (.getfield 7, 3) := by decide +kernel
theorem dX10_about_76 : decode cX10_about 76 = .ok (.iload_n 1, 1) := by decide +kernel
theorem dX10_about_77 : decode cX10_about 77 = .ok (.iaload, 1) := by decide +kernel
theorem dX10_about_78 : decode cX10_about 78 = .ok (.ireturn, 1) := by decide +kernel
theorem dX10_about_79 : decode cX10_about 79 = .ok (.aload_n 0, 1) := by decide +kernel
theorem dX10_about_80 : decode cX10_about 80 = .ok (.getfield 13, 3) := by decide +kernel
theorem dX10_about_83 : decode cX10_about 83 = .ok (.iload_n 1, 1) := by decide +kernel
theorem dX10_about_84 : decode cX10_about 84 = .ok (.iaload, 1) := by decide +kernel
theorem dX10_about_85 : decode cX10_about 85 = .ok (.ireturn, 1) := by decide +kernel
theorem dX10_about_86 : decode cX10_about 86 = .ok (.aload_n 0, 1) := by decide +kernel
theorem dX10_about_87 : decode cX10_about 87 = .ok (.getfield 16, 3) := by decide +kernel
theorem dX10_about_90 : decode cX10_about 90 = .ok (.iload_n 1, 1) := by decide +kernel
theorem dX10_about_91 : decode cX10_about 91 = .ok (.iaload, 1) := by decide +kernel
theorem dX10_about_92 : decode cX10_about 92 = .ok (.ireturn, 1) := by decide +kernel
theorem dX10_about_93 : decode cX10_about 93 = .ok (.aload_n 0, 1) := by decide +kernel
theorem dX10_about_94 : decode cX10_about 94 = .ok (.getfield 19, 3) := by decide +kernel
theorem dX10_about_97 : decode cX10_about 97 = .ok (.iload_n 1, 1) := by decide +kernel
theorem dX10_about_98 : decode cX10_about 98 = .ok (.iaload, 1) := by decide +kernel
theorem dX10_about_99 : decode cX10_about 99 = .ok (.ireturn, 1) := by decide +kernel
theorem dX10_about_100 : decode cX10_about 100 = .ok (.aload_n 0, 1) := by decide +kernel
theorem dX10_about_101 : decode cX10_about 101 = .ok (.getfield 25, 3) := by decide +kernel
theorem dX10_about_104 : decode cX10_about 104 = .ok (.iload_n 1, 1) := by decide +kernel
theorem dX10_about_105 : decode cX10_about 105 = .ok (.iaload, 1) := by decide +kernel
theorem dX10_about_106 : decode cX10_about 106 = .ok (.ireturn, 1) := by decide +kernel
theorem dX10_about_107 : decode cX10_about 107 = .ok (.aload_n 0, 1) := by decide +kernel
theorem dX10_about_108 : decode cX10_about 108 = .ok (.getfield 22, 3) := by decide +kernel
theorem dX10_about_111 : decode cX10_about 111 = .ok (.iconst 3, 1) := by decide +kernel
theorem dX10_about_112 : decode cX10_about 112 = .ok (.iload_n 1, 1) := by decide +kernel
theorem dX10_about_113 : decode cX10_about 113 = .ok (.imul, 1) := by decide +kernel
theorem dX10_about_114 : decode cX10_about 114 = .ok (.iload_n 2, 1) := by decide +kernel
theorem dX10_about_115 : decode cX10_about 115 = .ok (.iadd, 1) := by decide +kernel
theorem dX10_about_116 : decode cX10_about 116 = .ok (.iconst 4, 1) := by decide +kernel
theorem dX10_about_117 : decode cX10_about 117 = .ok (.isub, 1) := by decide +kernel
theorem dX10_about_118 : decode cX10_about 118 = .ok (.iaload, 1) := by decide +kernel
theorem dX10_about_119 : decode cX10_about 119 = .ok (.ireturn, 1) := by decide +kernel
theorem dJ6_bitCount_0f7a4_0 : decode cJ6_bitCount_0f7a4 0 = .ok (.iload_n 0, 1) := by decide +kernel
theorem dJ6_bitCount_0f7a4_1 : decode cJ6_bitCount_0f7a4 1 = .ok (.iload_n 0, 1) := by decide +kernel
theorem dJ6_bitCount_0f7a4_2 : decode cJ6_bitCount_0f7a4 2 = .ok (.iconst 1, 1) := by decide +kernel
theorem dJ6_bitCount_0f7a4_3 : decode cJ6_bitCount_0f7a4 3 = .ok (.iushr, 1) := by decide +kernel
theorem dJ6_bitCount_0f7a4_4 : decode cJ6_bitCount_0f7a4 4 = .ok (.ldc_w 265, 3) := by decide +kernel
theorem dJ6_bitCount_0f7a4_7 : decode cJ6_bitCount_0f7a4 7 = .ok (.iand, 1) := by decide +kernel
theorem dJ6_bitCount_0f7a4_8 : decode cJ6_bitCount_0f7a4 8 = .ok (.isub, 1) := by decide +kernel
theorem dJ6_bitCount_0f7a4_9 : decode cJ6_bitCount_0f7a4 9 = .ok (.istore_n 0, 1) := by decide +kernel
theorem dJ6_bitCount_0f7a4_10 : decode cJ6_bitCount_0f7a4 10 = .ok (.iload_n 0, 1) := by decide +kernel
theorem dJ6_bitCount_0f7a4_11 : decode cJ6_bitCount_0f7a4 11 = .ok (.ldc_w 266, 3) := by decide +kernel
theorem dJ6_bitCount_0f7a4_14 : decode cJ6_bitCount_0f7a4 14 = .ok (.iand, 1) := by decide +kernel
theorem dJ6_bitCount_0f7a4_15 : decode cJ6_bitCount_0f7a4 15 = .ok (.iload_n 0, 1) := by decide +kernel
theorem dJ6_bitCount_0f7a4_16 : decode cJ6_bitCount_0f7a4 16 = .ok (.iconst 2, 1) := by decide +kernel
theorem dJ6_bitCount_0f7a4_17 : decode cJ6_bitCount_0f7a4 17 = .ok (.iushr, 1) := by decide +kernel
theorem dJ6_bitCount_0f7a4_18 : decode cJ6_bitCount_0f7a4 18 = .ok (.ldc_w 266, 3) := by decide +kernel
theorem dJ6_bitCount_0f7a4_21 : decode cJ6_bitCount_0f7a4 21 = .ok (.iand, 1) := by decide +kernel
theorem dJ6_bitCount_0f7a4_22 : decode cJ6_bitCount_0f7a4 22 = .ok (.iadd, 1) := by decide +kernel
theorem dJ6_bitCount_0f7a4_23 : decode cJ6_bitCount_0f7a4 23 = .ok (.istore_n 0, 1) := by decide +kernel
theorem dJ6_bitCount_0f7a4_24 : decode cJ6_bitCount_0f7a4 24 = .ok (.iload_n 0, 1) := by decide +kernel
theorem dJ6_bitCount_0f7a4_25 : decode cJ6_bitCount_0f7a4 25 = .ok (.iload_n 0, 1) := by decide +kernel
theorem dJ6_bitCount_0f7a4_26 : decode cJ6_bitCount_0f7a4 26 = .ok (.iconst 4, 1) := by decide +kernel
theorem dJ6_bitCount_0f7a4_27 : decode cJ6_bitCount_0f7a4 27 = .ok (.iushr, 1) := by decide +kernel
theorem dJ6_bitCount_0f7a4_28 : decode cJ6_bitCount_0f7a4 28 = .ok (.iadd, 1) := by decide +kernel
theorem dJ6_bitCount_0f7a4_29 : decode cJ6_bitCount_0f7a4 29 = .ok (.ldc_w 267, 3) := by decide +kernel
theorem dJ6_bitCount_0f7a4_32 : decode cJ6_bitCount_0f7a4 32 = .ok (.iand, 1) := by decide +kernel
theorem dJ6_bitCount_0f7a4_33 : decode cJ6_bitCount_0f7a4 33 = .ok (.istore_n 0, 1) := by decide +kernel
theorem dJ6_bitCount_0f7a4_34 : decode cJ6_bitCount_0f7a4 34 = .ok (.iload_n 0, 1) := by decide +kernel
theorem dJ6_bitCount_0f7a4_35 : decode cJ6_bitCount_0f7a4 35 = .ok (.iload_n 0, 1) := by decide +kernel
theorem dJ6_bitCount_0f7a4_36 : decode cJ6_bitCount_0f7a4 36 = .ok (.bipush 8, 2) := by decide +kernel
theorem dJ6_bitCount_0f7a4_38 : decode cJ6_bitCount_0f7a4 38 = .ok (.iushr, 1) := by decide +kernel
theorem dJ6_bitCount_0f7a4_39 : decode cJ6_bitCount_0f7a4 39 = .ok (.iadd, 1) := by decide +kernel
theorem dJ6_bitCount_0f7a4_40 : decode cJ6_bitCount_0f7a4 40 = .ok (.istore_n 0, 1) := by decide +kernel
theorem dJ6_bitCount_0f7a4_41 : decode cJ6_bitCount_0f7a4 41 = .ok (.iload_n 0, 1) := by decide +kernel
theorem dJ6_bitCount_0f7a4_42 : decode cJ6_bitCount_0f7a4 42 = .ok (.iload_n 0, 1) := by decide +kernel
theorem dJ6_bitCount_0f7a4_43 : decode cJ6_bitCount_0f7a4 43 = .ok (.bipush 16, 2) := by decide +kernel
theorem dJ6_bitCount_0f7a4_45 : decode cJ6_bitCount_0f7a4 45 = .ok (.iushr, 1) := by decide +kernel
theorem dJ6_bitCount_0f7a4_46 : decode cJ6_bitCount_0f7a4 46 = .ok (.iadd, 1) := by decide +kernel
theorem dJ6_bitCount_0f7a4_47 : decode cJ6_bitCount_0f7a4 47 = .ok (.istore_n 0, 1) := by decide +kernel
theorem dJ6_bitCount_0f7a4_48 : decode cJ6_bitCount_0f7a4 48 = .ok (.iload_n 0, 1) := by decide +kernel
theorem dJ6_bitCount_0f7a4_49 : decode cJ6_bitCount_0f7a4 49 = .ok (.bipush 63, 2) := by decide +kernel
theorem dJ6_bitCount_0f7a4_51 : decode cJ6_bitCount_0f7a4 51 = .ok (.iand, 1) := by decide +kernel
theorem dJ6_bitCount_0f7a4_52 : decode cJ6_bitCount_0f7a4 52 = .ok (.ireturn, 1) := by decide +kernel
theorem dJ9_abs_0f7a4_0 : decode cJ9_abs_0f7a4 0 = .ok (.iload_n 0, 1) := by decide +kernel
theorem dJ9_abs_0f7a4_1 : decode cJ9_abs_0f7a4 1 = .ok (.ifCond .ge 8, 3) := by decide +kernel
theorem dJ9_abs_0f7a4_4 : decode cJ9_abs_0f7a4 4 = .ok (.iload_n 0, 1) := by decide +kernel
theorem dJ9_abs_0f7a4_5 : decode cJ9_abs_0f7a4 5 = .ok (.ineg, 1) := by decide +kernel
theorem dJ9_abs_0f7a4_6 : decode cJ9_abs_0f7a4 6 = .ok (.goto 4, 3) := by decide +kernel
theorem dJ9_abs_0f7a4_9 : decode cJ9_abs_0f7a4 9 = .ok (.iload_n 0, 1) := by decide +kernel
theorem dJ9_abs_0f7a4_10 : decode cJ9_abs_0f7a4 10 = .ok (.ireturn, 1) := by decide +kernel
theorem dJ9_max_7cf53_0 : decode cJ9_max_7cf53 0 = .ok (.iload_n 0, 1) := by decide +kernel
theorem dJ9_max_7cf53_1 : decode cJ9_max_7cf53 1 = .ok (.iload_n 1, 1) := by decide +kernel
theorem dJ9_max_7cf53_2 : decode cJ9_max_7cf53 2 = .ok (.if_icmp .lt 7, 3) := by decide +kernel
theorem dJ9_max_7cf53_5 : decode cJ9_max_7cf53 5 = .ok (.iload_n 0, 1) := by decide +kernel
theorem dJ9_max_7cf53_6 : decode cJ9_max_7cf53 6 = .ok (.goto 4, 3) := by decide +kernel
theorem dJ9_max_7cf53_9 : decode cJ9_max_7cf53 9 = .ok (.iload_n 1, 1) := by decide +kernel
theorem dJ9_max_7cf53_10 : decode cJ9_max_7cf53 10 = .ok (.ireturn, 1) := by decide +kernel
theorem dJ9_min_7cf53_0 : decode cJ9_min_7cf53 0 = .ok (.iload_n 0, 1) := by decide +kernel
theorem dJ9_min_7cf53_1 : decode cJ9_min_7cf53 1 = .ok (.iload_n 1, 1) := by decide +kernel
theorem dJ9_min_7cf53_2 : decode cJ9_min_7cf53 2 = .ok (.if_icmp .gt 7, 3) := by decide +kernel
theorem dJ9_min_7cf53_5 : decode cJ9_min_7cf53 5 = .ok (.iload_n 0, 1) := by decide +kernel
theorem dJ9_min_7cf53_6 : decode cJ9_min_7cf53 6 = .ok (.goto 4, 3) := by decide +kernel
theorem dJ9_min_7cf53_9 : decode cJ9_min_7cf53 9 = .ok (.iload_n 1, 1) := by decide +kernel
theorem dJ9_min_7cf53_10 : decode cJ9_min_7cf53 10 = .ok (.ireturn, 1) := by decide +kernel
theorem dJ9_min_f86c9_0 : decode cJ9_min_f86c9 0 = .ok (.lload_n 0, 1) := by decide +kernel
theorem dJ9_min_f86c9_1 : decode cJ9_min_f86c9 1 = .ok (.lload_n 2, 1) := by decide +kernel
theorem dJ9_min_f86c9_2 : decode cJ9_min_f86c9 2 = .ok (.lcmp, 1) := by decide +kernel
theorem dJ9_min_f86c9_3 : decode cJ9_min_f86c9 3 = .ok (.ifCond .gt 7, 3) := by decide +kernel
theorem dJ9_min_f86c9_6 : decode cJ9_min_f86c9 6 = .ok (.lload_n 0, 1) := by decide +kernel
theorem dJ9_min_f86c9_7 : decode cJ9_min_f86c9 7 = .ok (.goto 4, 3) := by decide +kernel
theorem dJ9_min_f86c9_10 : decode cJ9_min_f86c9 10 = .ok (.lload_n 2, 1) := by decide +kernel
theorem dJ9_min_f86c9_11 : decode cJ9_min_f86c9 11 = .ok (.lreturn, 1) := by decide +kernel
theorem dJ7_rangeCheck_23922_0 : decode cJ7_rangeCheck_23922 0 = .ok (.iload_n 1, 1) := by decide +kernel
theorem dJ7_rangeCheck_23922_1 : decode cJ7_rangeCheck_23922 1 = .ok (.iload_n 2, 1) := by decide +kernel
theorem dJ7_rangeCheck_23922_2 : decode cJ7_rangeCheck_23922 2 = .ok (.if_icmp .le 44, 3) := by decide +kernel
theorem dJ7_rangeCheck_23922_5 : decode cJ7_rangeCheck_23922 5 = .ok (.new 43, 3) := by decide +kernel
theorem dJ7_rangeCheck_23922_8 : decode cJ7_rangeCheck_23922 8 = .ok (.dup, 1) := by decide +kernel
theorem dJ7_rangeCheck_23922_9 : decode cJ7_rangeCheck_23922 9 = .ok (.new 45, 3) := by decide +kernel
theorem dJ7_rangeCheck_23922_12 : decode cJ7_rangeCheck_23922 12 = .ok (.dup, 1) := by decide +kernel
theorem dJ7_rangeCheck_23922_13 : decode cJ7_rangeCheck_23922 13 = .ok (.invokespecial 47, 3) := by decide +kernel
theorem dJ7_rangeCheck_23922_16 : decode cJ7_rangeCheck_23922 16 = .ok (.ldc 48, 2) := by decide +kernel
theorem dJ7_rangeCheck_23922_18 : decode cJ7_rangeCheck_23922 18 = .ok (.invokevirtual 50, 3) := by decide +kernel
theorem dJ7_rangeCheck_23922_21 : decode cJ7_rangeCheck_23922 21 = .ok (.iload_n 1, 1) := by decide +kernel
theorem dJ7_rangeCheck_23922_22 : decode cJ7_rangeCheck_23922 22 = .ok (.invokevirtual 54, 3) := by decide +kernel
theorem dJ7_rangeCheck_23922_25 : decode cJ7_rangeCheck_23922 25 = .ok (.ldc 57, 2) := by decide +kernel
theorem dJ7_rangeCheck_23922_27 : decode cJ7_rangeCheck_23922 27 = .ok (.invokevirtual 50, 3) := by decide +kernel
theorem dJ7_rangeCheck_23922_30 : decode cJ7_rangeCheck_23922 30 = .ok (.iload_n 2, 1) := by decide +kernel
theorem dJ7_rangeCheck_23922_31 : decode cJ7_rangeCheck_23922 31 = .ok (.invokevirtual 54, 3) := by decide +kernel
theorem dJ7_rangeCheck_23922_34 : decode cJ7_rangeCheck_23922 34 = .ok (.ldc 59, 2) := by decide +kernel
theorem dJ7_rangeCheck_23922_36 : decode cJ7_rangeCheck_23922 36 = .ok (.invokevirtual 50, 3) := by decide +kernel
theorem dJ7_rangeCheck_23922_39 : decode cJ7_rangeCheck_23922 39 = .ok (.invokevirtual 61, 3) := by decide +kernel
theorem dJ7_rangeCheck_23922_42 : decode cJ7_rangeCheck_23922 42 = .ok (.invokespecial 65, 3) := by decide +kernel
theorem dJ7_rangeCheck_23922_45 : decode cJ7_rangeCheck_23922 45 = .ok (.athrow, 1) := by decide +kernel
theorem dJ7_rangeCheck_23922_46 : decode cJ7_rangeCheck_23922 46 = .ok (.iload_n 1, 1) := by decide +kernel
theorem dJ7_rangeCheck_23922_47 : decode cJ7_rangeCheck_23922 47 = .ok (.ifCond .ge 12, 3) := by decide +kernel
theorem dJ7_rangeCheck_23922_50 : decode cJ7_rangeCheck_23922 50 = .ok (.new 68, 3) := by decide +kernel
theorem dJ7_rangeCheck_23922_53 : decode cJ7_rangeCheck_23922 53 = .ok (.dup, 1) := by decide +kernel
theorem dJ7_rangeCheck_23922_54 : decode cJ7_rangeCheck_23922 54 = .ok (.iload_n 1, 1) := by decide +kernel
theorem dJ7_rangeCheck_23922_55 : decode cJ7_rangeCheck_23922 55 = .ok (.invokespecial 70, 3) := by decide +kernel
theorem dJ7_rangeCheck_23922_58 : decode cJ7_rangeCheck_23922 58 = .ok (.athrow, 1) := by decide +kernel
theorem dJ7_rangeCheck_23922_59 : decode cJ7_rangeCheck_23922 59 = .ok (.iload_n 2, 1) := by decide +kernel
theorem dJ7_rangeCheck_23922_60 : decode cJ7_rangeCheck_23922 60 = .ok (.iload_n 0, 1) := by decide +kernel
theorem dJ7_rangeCheck_23922_61 : decode cJ7_rangeCheck_23922 61 = .ok (.if_icmp .le 12, 3) := by decide +kernel
theorem dJ7_rangeCheck_23922_64 : decode cJ7_rangeCheck_23922 64 = .ok (.new 68, 3) := by decide +kernel
theorem dJ7_rangeCheck_23922_67 : decode cJ7_rangeCheck_23922 67 = .ok (.dup, 1) := by decide +kernel
theorem dJ7_rangeCheck_23922_68 : decode cJ7_rangeCheck_23922 68 = .ok (.iload_n 2, 1) := by decide +kernel
theorem dJ7_rangeCheck_23922_69 : decode cJ7_rangeCheck_23922 69 = .ok (.invokespecial 70, 3) := by decide +kernel
theorem dJ7_rangeCheck_23922_72 : decode cJ7_rangeCheck_23922 72 = .ok (.athrow, 1) := by decide +kernel
theorem dJ7_rangeCheck_23922_73 : decode cJ7_rangeCheck_23922 73 = .ok (.return_, 1) := by decide +kernel
theorem dJ7_fill_53178_0 : decode cJ7_fill_53178 0 = .ok (.iconst 0, 1) := by decide +kernel
theorem dJ7_fill_53178_1 : decode cJ7_fill_53178 1 = .ok (.istore_n 2, 1) := by decide +kernel
theorem dJ7_fill_53178_2 : decode cJ7_fill_53178 2 = .ok (.aload_n 0, 1) := by decide +kernel
theorem dJ7_fill_53178_3 : decode cJ7_fill_53178 3 = .ok (.arraylength, 1) := by decide +kernel
theorem dJ7_fill_53178_4 : decode cJ7_fill_53178 4 = .ok (.istore_n 3, 1) := by decide +kernel
theorem dJ7_fill_53178_5 : decode cJ7_fill_53178 5 = .ok (.iload_n 2, 1) := by decide +kernel
theorem dJ7_fill_53178_6 : decode cJ7_fill_53178 6 = .ok (.iload_n 3, 1) := by decide +kernel
theorem dJ7_fill_53178_7 : decode cJ7_fill_53178 7 = .ok (.if_icmp .ge 13, 3) := by decide +kernel
theorem dJ7_fill_53178_10 : decode cJ7_fill_53178 10 = .ok (.aload_n 0, 1) := by decide +kernel
theorem dJ7_fill_53178_11 : decode cJ7_fill_53178 11 = .ok (.iload_n 2, 1) := by decide +kernel
theorem dJ7_fill_53178_12 : decode cJ7_fill_53178 12 = .ok (.iload_n 1, 1) := by decide +kernel
theorem dJ7_fill_53178_13 : decode cJ7_fill_53178 13 = .ok (.iastore, 1) := by decide +kernel
theorem dJ7_fill_53178_14 : decode cJ7_fill_53178 14 = .ok (.iinc 2 1, 3) := by decide +kernel
theorem dJ7_fill_53178_17 : decode cJ7_fill_53178 17 = .ok (.goto (-12), 3) := by decide +kernel
theorem dJ7_fill_53178_20 : decode cJ7_fill_53178 20 = .ok (.return_, 1) := by decide +kernel
theorem dJ7_fill_fda19_0 : decode cJ7_fill_fda19 0 = .ok (.aload_n 0, 1) := by decide +kernel
theorem dJ7_fill_fda19_1 : decode cJ7_fill_fda19 1 = .ok (.arraylength, 1) := by decide +kernel
theorem dJ7_fill_fda19_2 : decode cJ7_fill_fda19 2 = .ok (.iload_n 1, 1) := by decide +kernel
theorem dJ7_fill_fda19_3 : decode cJ7_fill_fda19 3 = .ok (.iload_n 2, 1) := by decide +kernel
theorem dJ7_fill_fda19_4 : decode cJ7_fill_fda19 4 = .ok (.invokestatic 13, 3) := by decide +kernel
theorem dJ7_fill_fda19_7 : decode cJ7_fill_fda19 7 = .ok (.iload_n 1, 1) := by decide +kernel
theorem dJ7_fill_fda19_8 : decode cJ7_fill_fda19 8 = .ok (.istore 4, 2) := by decide +kernel
theorem dJ7_fill_fda19_10 : decode cJ7_fill_fda19 10 = .ok (.iload 4, 2) := by decide +kernel
theorem dJ7_fill_fda19_12 : decode cJ7_fill_fda19 12 = .ok (.iload_n 2, 1) := by decide +kernel
theorem dJ7_fill_fda19_13 : decode cJ7_fill_fda19 13 = .ok (.if_icmp .ge 14, 3) := by decide +kernel
theorem dJ7_fill_fda19_16 : decode cJ7_fill_fda19 16 = .ok (.aload_n 0, 1) := by decide +kernel
theorem dJ7_fill_fda19_17 : decode cJ7_fill_fda19 17 = .ok (.iload 4, 2) := by decide +kernel
theorem dJ7_fill_fda19_19 : decode cJ7_fill_fda19 19 = .ok (.iload_n 3, 1) := by decide +kernel
theorem dJ7_fill_fda19_20 : decode cJ7_fill_fda19 20 = .ok (.iastore, 1) := by decide +kernel
theorem dJ7_fill_fda19_21 : decode cJ7_fill_fda19 21 = .ok (.iinc 4 1, 3) := by decide +kernel
theorem dJ7_fill_fda19_24 : decode cJ7_fill_fda19 24 = .ok (.goto (-14), 3) := by decide +kernel
theorem dJ7_fill_fda19_27 : decode cJ7_fill_fda19 27 = .ok (.return_, 1) := by decide +kernel
theorem dL_cell_0 : decode cL_cell 0 = .ok (.iload_n 1, 1) := by decide +kernel
theorem dL_cell_1 : decode cL_cell 1 = .ok (.aload_n 0, 1) := by decide +kernel
theorem dL_cell_2 : decode cL_cell 2 = .ok (.arraylength, 1) := by decide +kernel
theorem dL_cell_3 : decode cL_cell 3 = .ok (.if_icmp .ge 9, 3) := by decide +kernel
theorem dL_cell_6 : decode cL_cell 6 = .ok (.aload_n 0, 1) := by decide +kernel
theorem dL_cell_7 : decode cL_cell 7 = .ok (.iload_n 1, 1) := by decide +kernel
theorem dL_cell_8 : decode cL_cell 8 = .ok (.iaload, 1) := by decide +kernel
theorem dL_cell_9 : decode cL_cell 9 = .ok (.goto 4, 3) := by decide +kernel
theorem dL_cell_12 : decode cL_cell 12 = .ok (.iconst 0, 1) := by decide +kernel
theorem dL_cell_13 : decode cL_cell 13 = .ok (.ireturn, 1) := by decide +kernel
theorem dL_law_0 : decode cL_law 0 = .ok (.new 7, 3) := by decide +kernel
theorem dL_law_3 : decode cL_law 3 = .ok (.dup, 1) := by decide +kernel
theorem dL_law_4 : decode cL_law 4 = .ok (.aload_n 0, 1) := by decide +kernel
theorem dL_law_5 : decode cL_law 5 = .ok (.iconst 0, 1) := by decide +kernel
theorem dL_law_6 : decode cL_law 6 = .ok (.invokestatic 9, 3) := by decide +kernel
theorem dL_law_9 : decode cL_law 9 = .ok (.invokespecial 15, 3) := by decide +kernel
theorem dL_law_12 : decode cL_law 12 = .ok (.astore_n 1, 1) := by decide +kernel
theorem dL_law_13 : decode cL_law 13 = .ok (.new 18, 3) := by decide +kernel
theorem dL_law_16 : decode cL_law 16 = .ok (.dup, 1) := by decide +kernel
theorem dL_law_17 : decode cL_law 17 = .ok (.aload_n 0, 1) := by decide +kernel
theorem dL_law_18 : decode cL_law 18 = .ok (.iconst 0, 1) := by decide +kernel
theorem dL_law_19 : decode cL_law 19 = .ok (.invokestatic 9, 3) := by decide +kernel
theorem dL_law_22 : decode cL_law 22 = .ok (.invokespecial 20, 3) := by decide +kernel
theorem dL_law_25 : decode cL_law 25 = .ok (.astore_n 2, 1) := by decide +kernel
theorem dL_law_26 : decode cL_law 26 = .ok (.iconst 1, 1) := by decide +kernel
theorem dL_law_27 : decode cL_law 27 = .ok (.istore_n 3, 1) := by decide +kernel
theorem dL_law_28 : decode cL_law 28 = .ok (.iload_n 3, 1) := by decide +kernel
theorem dL_law_29 : decode cL_law 29 = .ok (.aload_n 0, 1) := by decide +kernel
theorem dL_law_30 : decode cL_law 30 = .ok (.arraylength, 1) := by decide +kernel
theorem dL_law_31 : decode cL_law 31 = .ok (.bipush 7, 2) := by decide +kernel
theorem dL_law_33 : decode cL_law 33 = .ok (.isub, 1) := by decide +kernel
theorem dL_law_34 : decode cL_law 34 = .ok (.if_icmp .gt 471, 3) := by decide +kernel
theorem dL_law_37 : decode cL_law 37 = .ok (.aload_n 0, 1) := by decide +kernel
theorem dL_law_38 : decode cL_law 38 = .ok (.iload_n 3, 1) := by decide +kernel
theorem dL_law_39 : decode cL_law 39 = .ok (.iaload, 1) := by decide +kernel
theorem dL_law_40 : decode cL_law 40 = .ok (.bipush 15, 2) := by decide +kernel
theorem dL_law_42 : decode cL_law 42 = .ok (.iand, 1) := by decide +kernel
theorem dL_law_43 : decode cL_law 43 = .ok (.tableswitch 456 0 12 #[65, 140, 153, 186, 219, 242, 285, 328, 341, 364, 377, 400, 423], 65) := by decide +kernel
theorem dL_law_108 : decode cL_law 108 = .ok (.aload_n 1, 1) := by decide +kernel
theorem dL_law_109 : decode cL_law 109 = .ok (.aload_n 0, 1) := by decide +kernel
theorem dL_law_110 : decode cL_law 110 = .ok (.iload_n 3, 1) := by decide +kernel
theorem dL_law_111 : decode cL_law 111 = .ok (.iconst 1, 1) := by decide +kernel
theorem dL_law_112 : decode cL_law 112 = .ok (.iadd, 1) := by decide +kernel
theorem dL_law_113 : decode cL_law 113 = .ok (.iaload, 1) := by decide +kernel
theorem dL_law_114 : decode cL_law 114 = .ok (.aload_n 0, 1) := by decide +kernel
theorem dL_law_115 : decode cL_law 115 = .ok (.iload_n 3, 1) := by decide +kernel
theorem dL_law_116 : decode cL_law 116 = .ok (.iconst 2, 1) := by decide +kernel
theorem dL_law_117 : decode cL_law 117 = .ok (.iadd, 1) := by decide +kernel
theorem dL_law_118 : decode cL_law 118 = .ok (.iaload, 1) := by decide +kernel
theorem dL_law_119 : decode cL_law 119 = .ok (.aload_n 0, 1) := by decide +kernel
theorem dL_law_120 : decode cL_law 120 = .ok (.iload_n 3, 1) := by decide +kernel
theorem dL_law_121 : decode cL_law 121 = .ok (.iconst 3, 1) := by decide +kernel
theorem dL_law_122 : decode cL_law 122 = .ok (.iadd, 1) := by decide +kernel
theorem dL_law_123 : decode cL_law 123 = .ok (.iaload, 1) := by decide +kernel
theorem dL_law_124 : decode cL_law 124 = .ok (.aload_n 0, 1) := by decide +kernel
theorem dL_law_125 : decode cL_law 125 = .ok (.iload_n 3, 1) := by decide +kernel
theorem dL_law_126 : decode cL_law 126 = .ok (.iconst 4, 1) := by decide +kernel
theorem dL_law_127 : decode cL_law 127 = .ok (.iadd, 1) := by decide +kernel
theorem dL_law_128 : decode cL_law 128 = .ok (.iaload, 1) := by decide +kernel
theorem dL_law_129 : decode cL_law 129 = .ok (.aload_n 0, 1) := by decide +kernel
theorem dL_law_130 : decode cL_law 130 = .ok (.iload_n 3, 1) := by decide +kernel
theorem dL_law_131 : decode cL_law 131 = .ok (.iconst 5, 1) := by decide +kernel
theorem dL_law_132 : decode cL_law 132 = .ok (.iadd, 1) := by decide +kernel
theorem dL_law_133 : decode cL_law 133 = .ok (.iaload, 1) := by decide +kernel
theorem dL_law_134 : decode cL_law 134 = .ok (.aload_n 0, 1) := by decide +kernel
theorem dL_law_135 : decode cL_law 135 = .ok (.iload_n 3, 1) := by decide +kernel
theorem dL_law_136 : decode cL_law 136 = .ok (.bipush 6, 2) := by decide +kernel
theorem dL_law_138 : decode cL_law 138 = .ok (.iadd, 1) := by decide +kernel
theorem dL_law_139 : decode cL_law 139 = .ok (.iaload, 1) := by decide +kernel
theorem dL_law_140 : decode cL_law 140 = .ok (.invokevirtual 21, 3) := by decide +kernel
theorem dL_law_143 : decode cL_law 143 = .ok (.aload_n 2, 1) := by decide +kernel
theorem dL_law_144 : decode cL_law 144 = .ok (.aload_n 0, 1) := by decide +kernel
theorem dL_law_145 : decode cL_law 145 = .ok (.iload_n 3, 1) := by decide +kernel
theorem dL_law_146 : decode cL_law 146 = .ok (.iconst 1, 1) := by decide +kernel
theorem dL_law_147 : decode cL_law 147 = .ok (.iadd, 1) := by decide +kernel
theorem dL_law_148 : decode cL_law 148 = .ok (.iaload, 1) := by decide +kernel
theorem dL_law_149 : decode cL_law 149 = .ok (.aload_n 0, 1) := by decide +kernel
theorem dL_law_150 : decode cL_law 150 = .ok (.iload_n 3, 1) := by decide +kernel
theorem dL_law_151 : decode cL_law 151 = .ok (.iconst 2, 1) := by decide +kernel
theorem dL_law_152 : decode cL_law 152 = .ok (.iadd, 1) := by decide +kernel
theorem dL_law_153 : decode cL_law 153 = .ok (.iaload, 1) := by decide +kernel
theorem dL_law_154 : decode cL_law 154 = .ok (.aload_n 0, 1) := by decide +kernel
theorem dL_law_155 : decode cL_law 155 = .ok (.iload_n 3, 1) := by decide +kernel
theorem dL_law_156 : decode cL_law 156 = .ok (.iconst 3, 1) := by decide +kernel
theorem dL_law_157 : decode cL_law 157 = .ok (.iadd, 1) := by decide +kernel
theorem dL_law_158 : decode cL_law 158 = .ok (.iaload, 1) := by decide +kernel
theorem dL_law_159 : decode cL_law 159 = .ok (.aload_n 0, 1) := by decide +kernel
theorem dL_law_160 : decode cL_law 160 = .ok (.iload_n 3, 1) := by decide +kernel
theorem dL_law_161 : decode cL_law 161 = .ok (.iconst 4, 1) := by decide +kernel
theorem dL_law_162 : decode cL_law 162 = .ok (.iadd, 1) := by decide +kernel
theorem dL_law_163 : decode cL_law 163 = .ok (.iaload, 1) := by decide +kernel
theorem dL_law_164 : decode cL_law 164 = .ok (.aload_n 0, 1) := by decide +kernel
theorem dL_law_165 : decode cL_law 165 = .ok (.iload_n 3, 1) := by decide +kernel
theorem dL_law_166 : decode cL_law 166 = .ok (.iconst 5, 1) := by decide +kernel
theorem dL_law_167 : decode cL_law 167 = .ok (.iadd, 1) := by decide +kernel
theorem dL_law_168 : decode cL_law 168 = .ok (.iaload, 1) := by decide +kernel
theorem dL_law_169 : decode cL_law 169 = .ok (.aload_n 0, 1) := by decide +kernel
theorem dL_law_170 : decode cL_law 170 = .ok (.iload_n 3, 1) := by decide +kernel
theorem dL_law_171 : decode cL_law 171 = .ok (.bipush 6, 2) := by decide +kernel
theorem dL_law_173 : decode cL_law 173 = .ok (.iadd, 1) := by decide +kernel
theorem dL_law_174 : decode cL_law 174 = .ok (.iaload, 1) := by decide +kernel
theorem dL_law_175 : decode cL_law 175 = .ok (.invokevirtual 25, 3) := by decide +kernel
theorem dL_law_178 : decode cL_law 178 = .ok (.if_icmp .eq 321, 3) := by decide +kernel
theorem dL_law_181 : decode cL_law 181 = .ok (.iconst 0, 1) := by decide +kernel
theorem dL_law_182 : decode cL_law 182 = .ok (.ireturn, 1) := by decide +kernel
theorem dL_law_183 : decode cL_law 183 = .ok (.aload_n 1, 1) := by decide +kernel
theorem dL_law_184 : decode cL_law 184 = .ok (.invokevirtual 26, 3) := by decide +kernel
theorem dL_law_187 : decode cL_law 187 = .ok (.aload_n 2, 1) := by decide +kernel
theorem dL_law_188 : decode cL_law 188 = .ok (.invokevirtual 30, 3) := by decide +kernel
theorem dL_law_191 : decode cL_law 191 = .ok (.if_icmp .eq 308, 3) := by decide +kernel
theorem dL_law_194 : decode cL_law 194 = .ok (.iconst 0, 1) := by decide +kernel
theorem dL_law_195 : decode cL_law 195 = .ok (.ireturn, 1) := by decide +kernel
theorem dL_law_196 : decode cL_law 196 = .ok (.aload_n 1, 1) := by decide +kernel
theorem dL_law_197 : decode cL_law 197 = .ok (.aload_n 0, 1) := by decide +kernel
theorem dL_law_198 : decode cL_law 198 = .ok (.iload_n 3, 1) := by decide +kernel
theorem dL_law_199 : decode cL_law 199 = .ok (.iconst 1, 1) := by decide +kernel
theorem dL_law_200 : decode cL_law 200 = .ok (.iadd, 1) := by decide +kernel
theorem dL_law_201 : decode cL_law 201 = .ok (.iaload, 1) := by decide +kernel
theorem dL_law_202 : decode cL_law 202 = .ok (.aload_n 0, 1) := by decide +kernel
theorem dL_law_203 : decode cL_law 203 = .ok (.iload_n 3, 1) := by decide +kernel
theorem dL_law_204 : decode cL_law 204 = .ok (.iconst 2, 1) := by decide +kernel
theorem dL_law_205 : decode cL_law 205 = .ok (.iadd, 1) := by decide +kernel
theorem dL_law_206 : decode cL_law 206 = .ok (.iaload, 1) := by decide +kernel
theorem dL_law_207 : decode cL_law 207 = .ok (.invokevirtual 31, 3) := by decide +kernel
theorem dL_law_210 : decode cL_law 210 = .ok (.aload_n 2, 1) := by decide +kernel
theorem dL_law_211 : decode cL_law 211 = .ok (.aload_n 0, 1) := by decide +kernel
theorem dL_law_212 : decode cL_law 212 = .ok (.iload_n 3, 1) := by decide +kernel
theorem dL_law_213 : decode cL_law 213 = .ok (.iconst 1, 1) := by decide +kernel
theorem dL_law_214 : decode cL_law 214 = .ok (.iadd, 1) := by decide +kernel
theorem dL_law_215 : decode cL_law 215 = .ok (.iaload, 1) := by decide +kernel
theorem dL_law_216 : decode cL_law 216 = .ok (.aload_n 0, 1) := by decide +kernel
theorem dL_law_217 : decode cL_law 217 = .ok (.iload_n 3, 1) := by decide +kernel
theorem dL_law_218 : decode cL_law 218 = .ok (.iconst 2, 1) := by decide +kernel
theorem dL_law_219 : decode cL_law 219 = .ok (.iadd, 1) := by decide +kernel
theorem dL_law_220 : decode cL_law 220 = .ok (.iaload, 1) := by decide +kernel
theorem dL_law_221 : decode cL_law 221 = .ok (.invokevirtual 35, 3) := by decide +kernel
theorem dL_law_224 : decode cL_law 224 = .ok (.if_icmp .eq 275, 3) := by decide +kernel
theorem dL_law_227 : decode cL_law 227 = .ok (.iconst 0, 1) := by decide +kernel
theorem dL_law_228 : decode cL_law 228 = .ok (.ireturn, 1) := by decide +kernel
theorem dL_law_229 : decode cL_law 229 = .ok (.aload_n 1, 1) := by decide +kernel
theorem dL_law_230 : decode cL_law 230 = .ok (.aload_n 0, 1) := by decide +kernel
theorem dL_law_231 : decode cL_law 231 = .ok (.iload_n 3, 1) := by decide +kernel
theorem dL_law_232 : decode cL_law 232 = .ok (.iconst 1, 1) := by decide +kernel
theorem dL_law_233 : decode cL_law 233 = .ok (.iadd, 1) := by decide +kernel
theorem dL_law_234 : decode cL_law 234 = .ok (.iaload, 1) := by decide +kernel
theorem dL_law_235 : decode cL_law 235 = .ok (.aload_n 0, 1) := by decide +kernel
theorem dL_law_236 : decode cL_law 236 = .ok (.iload_n 3, 1) := by decide +kernel
theorem dL_law_237 : decode cL_law 237 = .ok (.iconst 2, 1) := by decide +kernel
theorem dL_law_238 : decode cL_law 238 = .ok (.iadd, 1) := by decide +kernel
theorem dL_law_239 : decode cL_law 239 = .ok (.iaload, 1) := by decide +kernel
theorem dL_law_240 : decode cL_law 240 = .ok (.invokevirtual 36, 3) := by decide +kernel
theorem dL_law_243 : decode cL_law 243 = .ok (.aload_n 2, 1) := by decide +kernel
theorem dL_law_244 : decode cL_law 244 = .ok (.aload_n 0, 1) := by decide +kernel
theorem dL_law_245 : decode cL_law 245 = .ok (.iload_n 3, 1) := by decide +kernel
theorem dL_law_246 : decode cL_law 246 = .ok (.iconst 1, 1) := by decide +kernel
theorem dL_law_247 : decode cL_law 247 = .ok (.iadd, 1) := by decide +kernel
theorem dL_law_248 : decode cL_law 248 = .ok (.iaload, 1) := by decide +kernel
theorem dL_law_249 : decode cL_law 249 = .ok (.aload_n 0, 1) := by decide +kernel
theorem dL_law_250 : decode cL_law 250 = .ok (.iload_n 3, 1) := by decide +kernel
theorem dL_law_251 : decode cL_law 251 = .ok (.iconst 2, 1) := by decide +kernel
theorem dL_law_252 : decode cL_law 252 = .ok (.iadd, 1) := by decide +kernel
theorem dL_law_253 : decode cL_law 253 = .ok (.iaload, 1) := by decide +kernel
theorem dL_law_254 : decode cL_law 254 = .ok (.invokevirtual 39, 3) := by decide +kernel
theorem dL_law_257 : decode cL_law 257 = .ok (.if_icmp .eq 242, 3) := by decide +kernel
theorem dL_law_260 : decode cL_law 260 = .ok (.iconst 0, 1) := by decide +kernel
theorem dL_law_261 : decode cL_law 261 = .ok (.ireturn, 1) := by decide +kernel
theorem dL_law_262 : decode cL_law 262 = .ok (.aload_n 1, 1) := by decide +kernel
theorem dL_law_263 : decode cL_law 263 = .ok (.aload_n 0, 1) := by decide +kernel
theorem dL_law_264 : decode cL_law 264 = .ok (.iload_n 3, 1) := by decide +kernel
theorem dL_law_265 : decode cL_law 265 = .ok (.iconst 1, 1) := by decide +kernel
theorem dL_law_266 : decode cL_law 266 = .ok (.iadd, 1) := by decide +kernel
theorem dL_law_267 : decode cL_law 267 = .ok (.iaload, 1) := by decide +kernel
theorem dL_law_268 : decode cL_law 268 = .ok (.invokevirtual 40, 3) := by decide +kernel
theorem dL_law_271 : decode cL_law 271 = .ok (.aload_n 2, 1) := by decide +kernel
theorem dL_law_272 : decode cL_law 272 = .ok (.aload_n 0, 1) := by decide +kernel
theorem dL_law_273 : decode cL_law 273 = .ok (.iload_n 3, 1) := by decide +kernel
theorem dL_law_274 : decode cL_law 274 = .ok (.iconst 1, 1) := by decide +kernel
theorem dL_law_275 : decode cL_law 275 = .ok (.iadd, 1) := by decide +kernel
theorem dL_law_276 : decode cL_law 276 = .ok (.iaload, 1) := by decide +kernel
theorem dL_law_277 : decode cL_law 277 = .ok (.invokevirtual 44, 3) := by decide +kernel
theorem dL_law_280 : decode cL_law 280 = .ok (.if_icmp .eq 219, 3) := by decide +kernel
theorem dL_law_283 : decode cL_law 283 = .ok (.iconst 0, 1) := by decide +kernel
theorem dL_law_284 : decode cL_law 284 = .ok (.ireturn, 1) := by decide +kernel
theorem dL_law_285 : decode cL_law 285 = .ok (.aload_n 1, 1) := by decide +kernel
theorem dL_law_286 : decode cL_law 286 = .ok (.aload_n 0, 1) := by decide +kernel
theorem dL_law_287 : decode cL_law 287 = .ok (.iload_n 3, 1) := by decide +kernel
theorem dL_law_288 : decode cL_law 288 = .ok (.iconst 1, 1) := by decide +kernel
theorem dL_law_289 : decode cL_law 289 = .ok (.iadd, 1) := by decide +kernel
theorem dL_law_290 : decode cL_law 290 = .ok (.iaload, 1) := by decide +kernel
theorem dL_law_291 : decode cL_law 291 = .ok (.aload_n 0, 1) := by decide +kernel
theorem dL_law_292 : decode cL_law 292 = .ok (.iload_n 3, 1) := by decide +kernel
theorem dL_law_293 : decode cL_law 293 = .ok (.iconst 2, 1) := by decide +kernel
theorem dL_law_294 : decode cL_law 294 = .ok (.iadd, 1) := by decide +kernel
theorem dL_law_295 : decode cL_law 295 = .ok (.iaload, 1) := by decide +kernel
theorem dL_law_296 : decode cL_law 296 = .ok (.aload_n 0, 1) := by decide +kernel
theorem dL_law_297 : decode cL_law 297 = .ok (.iload_n 3, 1) := by decide +kernel
theorem dL_law_298 : decode cL_law 298 = .ok (.iconst 3, 1) := by decide +kernel
theorem dL_law_299 : decode cL_law 299 = .ok (.iadd, 1) := by decide +kernel
theorem dL_law_300 : decode cL_law 300 = .ok (.iaload, 1) := by decide +kernel
theorem dL_law_301 : decode cL_law 301 = .ok (.invokevirtual 45, 3) := by decide +kernel
theorem dL_law_304 : decode cL_law 304 = .ok (.aload_n 2, 1) := by decide +kernel
theorem dL_law_305 : decode cL_law 305 = .ok (.aload_n 0, 1) := by decide +kernel
theorem dL_law_306 : decode cL_law 306 = .ok (.iload_n 3, 1) := by decide +kernel
theorem dL_law_307 : decode cL_law 307 = .ok (.iconst 1, 1) := by decide +kernel
theorem dL_law_308 : decode cL_law 308 = .ok (.iadd, 1) := by decide +kernel
theorem dL_law_309 : decode cL_law 309 = .ok (.iaload, 1) := by decide +kernel
theorem dL_law_310 : decode cL_law 310 = .ok (.aload_n 0, 1) := by decide +kernel
theorem dL_law_311 : decode cL_law 311 = .ok (.iload_n 3, 1) := by decide +kernel
theorem dL_law_312 : decode cL_law 312 = .ok (.iconst 2, 1) := by decide +kernel
theorem dL_law_313 : decode cL_law 313 = .ok (.iadd, 1) := by decide +kernel
theorem dL_law_314 : decode cL_law 314 = .ok (.iaload, 1) := by decide +kernel
theorem dL_law_315 : decode cL_law 315 = .ok (.aload_n 0, 1) := by decide +kernel
theorem dL_law_316 : decode cL_law 316 = .ok (.iload_n 3, 1) := by decide +kernel
theorem dL_law_317 : decode cL_law 317 = .ok (.iconst 3, 1) := by decide +kernel
theorem dL_law_318 : decode cL_law 318 = .ok (.iadd, 1) := by decide +kernel
theorem dL_law_319 : decode cL_law 319 = .ok (.iaload, 1) := by decide +kernel
theorem dL_law_320 : decode cL_law 320 = .ok (.invokevirtual 49, 3) := by decide +kernel
theorem dL_law_323 : decode cL_law 323 = .ok (.if_icmp .eq 176, 3) := by decide +kernel
theorem dL_law_326 : decode cL_law 326 = .ok (.iconst 0, 1) := by decide +kernel
theorem dL_law_327 : decode cL_law 327 = .ok (.ireturn, 1) := by decide +kernel
theorem dL_law_328 : decode cL_law 328 = .ok (.aload_n 1, 1) := by decide +kernel
theorem dL_law_329 : decode cL_law 329 = .ok (.aload_n 0, 1) := by decide +kernel
theorem dL_law_330 : decode cL_law 330 = .ok (.iload_n 3, 1) := by decide +kernel
theorem dL_law_331 : decode cL_law 331 = .ok (.iconst 1, 1) := by decide +kernel
theorem dL_law_332 : decode cL_law 332 = .ok (.iadd, 1) := by decide +kernel
theorem dL_law_333 : decode cL_law 333 = .ok (.iaload, 1) := by decide +kernel
theorem dL_law_334 : decode cL_law 334 = .ok (.aload_n 0, 1) := by decide +kernel
theorem dL_law_335 : decode cL_law 335 = .ok (.iload_n 3, 1) := by decide +kernel
theorem dL_law_336 : decode cL_law 336 = .ok (.iconst 2, 1) := by decide +kernel
theorem dL_law_337 : decode cL_law 337 = .ok (.iadd, 1) := by decide +kernel
theorem dL_law_338 : decode cL_law 338 = .ok (.iaload, 1) := by decide +kernel
theorem dL_law_339 : decode cL_law 339 = .ok (.aload_n 0, 1) := by decide +kernel
theorem dL_law_340 : decode cL_law 340 = .ok (.iload_n 3, 1) := by decide +kernel
theorem dL_law_341 : decode cL_law 341 = .ok (.iconst 3, 1) := by decide +kernel
theorem dL_law_342 : decode cL_law 342 = .ok (.iadd, 1) := by decide +kernel
theorem dL_law_343 : decode cL_law 343 = .ok (.iaload, 1) := by decide +kernel
theorem dL_law_344 : decode cL_law 344 = .ok (.invokevirtual 50, 3) := by decide +kernel
theorem dL_law_347 : decode cL_law 347 = .ok (.aload_n 2, 1) := by decide +kernel
theorem dL_law_348 : decode cL_law 348 = .ok (.aload_n 0, 1) := by decide +kernel
theorem dL_law_349 : decode cL_law 349 = .ok (.iload_n 3, 1) := by decide +kernel
theorem dL_law_350 : decode cL_law 350 = .ok (.iconst 1, 1) := by decide +kernel
theorem dL_law_351 : decode cL_law 351 = .ok (.iadd, 1) := by decide +kernel
theorem dL_law_352 : decode cL_law 352 = .ok (.iaload, 1) := by decide +kernel
theorem dL_law_353 : decode cL_law 353 = .ok (.aload_n 0, 1) := by decide +kernel
theorem dL_law_354 : decode cL_law 354 = .ok (.iload_n 3, 1) := by decide +kernel
theorem dL_law_355 : decode cL_law 355 = .ok (.iconst 2, 1) := by decide +kernel
theorem dL_law_356 : decode cL_law 356 = .ok (.iadd, 1) := by decide +kernel
theorem dL_law_357 : decode cL_law 357 = .ok (.iaload, 1) := by decide +kernel
theorem dL_law_358 : decode cL_law 358 = .ok (.aload_n 0, 1) := by decide +kernel
theorem dL_law_359 : decode cL_law 359 = .ok (.iload_n 3, 1) := by decide +kernel
theorem dL_law_360 : decode cL_law 360 = .ok (.iconst 3, 1) := by decide +kernel
theorem dL_law_361 : decode cL_law 361 = .ok (.iadd, 1) := by decide +kernel
theorem dL_law_362 : decode cL_law 362 = .ok (.iaload, 1) := by decide +kernel
theorem dL_law_363 : decode cL_law 363 = .ok (.invokevirtual 53, 3) := by decide +kernel
theorem dL_law_366 : decode cL_law 366 = .ok (.if_icmp .eq 133, 3) := by decide +kernel
theorem dL_law_369 : decode cL_law 369 = .ok (.iconst 0, 1) := by decide +kernel
theorem dL_law_370 : decode cL_law 370 = .ok (.ireturn, 1) := by decide +kernel
theorem dL_law_371 : decode cL_law 371 = .ok (.aload_n 1, 1) := by decide +kernel
theorem dL_law_372 : decode cL_law 372 = .ok (.invokevirtual 54, 3) := by decide +kernel
theorem dL_law_375 : decode cL_law 375 = .ok (.aload_n 2, 1) := by decide +kernel
theorem dL_law_376 : decode cL_law 376 = .ok (.invokevirtual 57, 3) := by decide +kernel
theorem dL_law_379 : decode cL_law 379 = .ok (.if_icmp .eq 120, 3) := by decide +kernel
theorem dL_law_382 : decode cL_law 382 = .ok (.iconst 0, 1) := by decide +kernel
theorem dL_law_383 : decode cL_law 383 = .ok (.ireturn, 1) := by decide +kernel
theorem dL_law_384 : decode cL_law 384 = .ok (.aload_n 1, 1) := by decide +kernel
theorem dL_law_385 : decode cL_law 385 = .ok (.aload_n 0, 1) := by decide +kernel
theorem dL_law_386 : decode cL_law 386 = .ok (.iload_n 3, 1) := by decide +kernel
theorem dL_law_387 : decode cL_law 387 = .ok (.iconst 1, 1) := by decide +kernel
theorem dL_law_388 : decode cL_law 388 = .ok (.iadd, 1) := by decide +kernel
theorem dL_law_389 : decode cL_law 389 = .ok (.iaload, 1) := by decide +kernel
theorem dL_law_390 : decode cL_law 390 = .ok (.invokevirtual 58, 3) := by decide +kernel
theorem dL_law_393 : decode cL_law 393 = .ok (.aload_n 2, 1) := by decide +kernel
theorem dL_law_394 : decode cL_law 394 = .ok (.aload_n 0, 1) := by decide +kernel
theorem dL_law_395 : decode cL_law 395 = .ok (.iload_n 3, 1) := by decide +kernel
theorem dL_law_396 : decode cL_law 396 = .ok (.iconst 1, 1) := by decide +kernel
theorem dL_law_397 : decode cL_law 397 = .ok (.iadd, 1) := by decide +kernel
theorem dL_law_398 : decode cL_law 398 = .ok (.iaload, 1) := by decide +kernel
theorem dL_law_399 : decode cL_law 399 = .ok (.invokevirtual 61, 3) := by decide +kernel
theorem dL_law_402 : decode cL_law 402 = .ok (.if_icmp .eq 97, 3) := by decide +kernel
theorem dL_law_405 : decode cL_law 405 = .ok (.iconst 0, 1) := by decide +kernel
theorem dL_law_406 : decode cL_law 406 = .ok (.ireturn, 1) := by decide +kernel
theorem dL_law_407 : decode cL_law 407 = .ok (.aload_n 1, 1) := by decide +kernel
theorem dL_law_408 : decode cL_law 408 = .ok (.invokevirtual 62, 3) := by decide +kernel
theorem dL_law_411 : decode cL_law 411 = .ok (.aload_n 2, 1) := by decide +kernel
theorem dL_law_412 : decode cL_law 412 = .ok (.invokevirtual 65, 3) := by decide +kernel
theorem dL_law_415 : decode cL_law 415 = .ok (.if_icmp .eq 84, 3) := by decide +kernel
theorem dL_law_418 : decode cL_law 418 = .ok (.iconst 0, 1) := by decide +kernel
theorem dL_law_419 : decode cL_law 419 = .ok (.ireturn, 1) := by decide +kernel
theorem dL_law_420 : decode cL_law 420 = .ok (.aload_n 1, 1) := by decide +kernel
theorem dL_law_421 : decode cL_law 421 = .ok (.aload_n 0, 1) := by decide +kernel
theorem dL_law_422 : decode cL_law 422 = .ok (.iload_n 3, 1) := by decide +kernel
theorem dL_law_423 : decode cL_law 423 = .ok (.iconst 1, 1) := by decide +kernel
theorem dL_law_424 : decode cL_law 424 = .ok (.iadd, 1) := by decide +kernel
theorem dL_law_425 : decode cL_law 425 = .ok (.iaload, 1) := by decide +kernel
theorem dL_law_426 : decode cL_law 426 = .ok (.invokevirtual 66, 3) := by decide +kernel
theorem dL_law_429 : decode cL_law 429 = .ok (.aload_n 2, 1) := by decide +kernel
theorem dL_law_430 : decode cL_law 430 = .ok (.aload_n 0, 1) := by decide +kernel
theorem dL_law_431 : decode cL_law 431 = .ok (.iload_n 3, 1) := by decide +kernel
theorem dL_law_432 : decode cL_law 432 = .ok (.iconst 1, 1) := by decide +kernel
theorem dL_law_433 : decode cL_law 433 = .ok (.iadd, 1) := by decide +kernel
theorem dL_law_434 : decode cL_law 434 = .ok (.iaload, 1) := by decide +kernel
theorem dL_law_435 : decode cL_law 435 = .ok (.invokevirtual 69, 3) := by decide +kernel
theorem dL_law_438 : decode cL_law 438 = .ok (.if_icmp .eq 61, 3) := by decide +kernel
theorem dL_law_441 : decode cL_law 441 = .ok (.iconst 0, 1) := by decide +kernel
theorem dL_law_442 : decode cL_law 442 = .ok (.ireturn, 1) := by decide +kernel
theorem dL_law_443 : decode cL_law 443 = .ok (.aload_n 1, 1) := by decide +kernel
theorem dL_law_444 : decode cL_law 444 = .ok (.aload_n 0, 1) := by decide +kernel
theorem dL_law_445 : decode cL_law 445 = .ok (.iload_n 3, 1) := by decide +kernel
theorem dL_law_446 : decode cL_law 446 = .ok (.iconst 1, 1) := by decide +kernel
theorem dL_law_447 : decode cL_law 447 = .ok (.iadd, 1) := by decide +kernel
theorem dL_law_448 : decode cL_law 448 = .ok (.iaload, 1) := by decide +kernel
theorem dL_law_449 : decode cL_law 449 = .ok (.invokevirtual 70, 3) := by decide +kernel
theorem dL_law_452 : decode cL_law 452 = .ok (.aload_n 2, 1) := by decide +kernel
theorem dL_law_453 : decode cL_law 453 = .ok (.aload_n 0, 1) := by decide +kernel
theorem dL_law_454 : decode cL_law 454 = .ok (.iload_n 3, 1) := by decide +kernel
theorem dL_law_455 : decode cL_law 455 = .ok (.iconst 1, 1) := by decide +kernel
theorem dL_law_456 : decode cL_law 456 = .ok (.iadd, 1) := by decide +kernel
theorem dL_law_457 : decode cL_law 457 = .ok (.iaload, 1) := by decide +kernel
theorem dL_law_458 : decode cL_law 458 = .ok (.invokevirtual 73, 3) := by decide +kernel
theorem dL_law_461 : decode cL_law 461 = .ok (.if_icmp .eq 38, 3) := by decide +kernel
theorem dL_law_464 : decode cL_law 464 = .ok (.iconst 0, 1) := by decide +kernel
theorem dL_law_465 : decode cL_law 465 = .ok (.ireturn, 1) := by decide +kernel
theorem dL_law_466 : decode cL_law 466 = .ok (.aload_n 1, 1) := by decide +kernel
theorem dL_law_467 : decode cL_law 467 = .ok (.aload_n 0, 1) := by decide +kernel
theorem dL_law_468 : decode cL_law 468 = .ok (.iload_n 3, 1) := by decide +kernel
theorem dL_law_469 : decode cL_law 469 = .ok (.iconst 1, 1) := by decide +kernel
theorem dL_law_470 : decode cL_law 470 = .ok (.iadd, 1) := by decide +kernel
theorem dL_law_471 : decode cL_law 471 = .ok (.iaload, 1) := by decide +kernel
theorem dL_law_472 : decode cL_law 472 = .ok (.aload_n 0, 1) := by decide +kernel
theorem dL_law_473 : decode cL_law 473 = .ok (.iload_n 3, 1) := by decide +kernel
theorem dL_law_474 : decode cL_law 474 = .ok (.iconst 2, 1) := by decide +kernel
theorem dL_law_475 : decode cL_law 475 = .ok (.iadd, 1) := by decide +kernel
theorem dL_law_476 : decode cL_law 476 = .ok (.iaload, 1) := by decide +kernel
theorem dL_law_477 : decode cL_law 477 = .ok (.invokevirtual 74, 3) := by decide +kernel
theorem dL_law_480 : decode cL_law 480 = .ok (.aload_n 2, 1) := by decide +kernel
theorem dL_law_481 : decode cL_law 481 = .ok (.aload_n 0, 1) := by decide +kernel
theorem dL_law_482 : decode cL_law 482 = .ok (.iload_n 3, 1) := by decide +kernel
theorem dL_law_483 : decode cL_law 483 = .ok (.iconst 1, 1) := by decide +kernel
theorem dL_law_484 : decode cL_law 484 = .ok (.iadd, 1) := by decide +kernel
theorem dL_law_485 : decode cL_law 485 = .ok (.iaload, 1) := by decide +kernel
theorem dL_law_486 : decode cL_law 486 = .ok (.aload_n 0, 1) := by decide +kernel
theorem dL_law_487 : decode cL_law 487 = .ok (.iload_n 3, 1) := by decide +kernel
theorem dL_law_488 : decode cL_law 488 = .ok (.iconst 2, 1) := by decide +kernel
theorem dL_law_489 : decode cL_law 489 = .ok (.iadd, 1) := by decide +kernel
theorem dL_law_490 : decode cL_law 490 = .ok (.iaload, 1) := by decide +kernel
theorem dL_law_491 : decode cL_law 491 = .ok (.invokevirtual 77, 3) := by decide +kernel
theorem dL_law_494 : decode cL_law 494 = .ok (.if_icmp .eq 5, 3) := by decide +kernel
theorem dL_law_497 : decode cL_law 497 = .ok (.iconst 0, 1) := by decide +kernel
theorem dL_law_498 : decode cL_law 498 = .ok (.ireturn, 1) := by decide +kernel
theorem dL_law_499 : decode cL_law 499 = .ok (.iinc 3 7, 3) := by decide +kernel
theorem dL_law_502 : decode cL_law 502 = .ok (.goto (-474), 3) := by decide +kernel
theorem dL_law_505 : decode cL_law 505 = .ok (.iconst 1, 1) := by decide +kernel
theorem dL_law_506 : decode cL_law 506 = .ok (.ireturn, 1) := by decide +kernel
