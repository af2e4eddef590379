theorem dX6_suits_105 : decode cX6_suits 105 = .ok (.invokestatic 46, 3) := by decide +kernel
theorem dX6_suits_108 : decode cX6_suits 108 = .ok (.ifCond .eq 72, 3) := by decide +kernel
theorem dX6_suits_111 : decode cX6_suits 111 = .ok (.aload 4, 2) := by decide +kernel
theorem dX6_suits_113 : decode cX6_suits 113 = .ok (.getfield 42, 3) := by decide +kernel
theorem dX6_suits_116 : decode cX6_suits 116 = .ok (.iload 6, 2) := by decide +kernel
theorem dX6_suits_118 : decode cX6_suits 118 = .ok (.iaload, 1) := by decide +kernel
theorem dX6_suits_119 : decode cX6_suits 119 = .ok (.bipush 65, 2) := by decide +kernel
theorem dX6_suits_121 : decode cX6_suits 121 = .ok (.isub, 1) := by decide +kernel
theorem dX6_suits_122 : decode cX6_suits 122 = .ok (.istore 7, 2) := by decide +kernel
theorem dX6_suits_124 : decode cX6_suits 124 = .ok (.aload_n 0, 1) := by decide +kernel
theorem dX6_suits_125 : decode cX6_suits 125 = .ok (.getfield 20, 3) := by decide +kernel
theorem dX6_suits_128 : decode cX6_suits 128 = .ok (.iload 7, 2) := by decide +kernel
theorem dX6_suits_130 : decode cX6_suits 130 = .ok (.iaload, 1) := by decide +kernel
theorem dX6_suits_131 : decode cX6_suits 131 = .ok (.ifCond .ge 15, 3) := by decide +kernel
theorem dX6_suits_134 : decode cX6_suits 134 = .ok (.aload_n 0, 1) := by decide +kernel
theorem dX6_suits_135 : decode cX6_suits 135 = .ok (.getfield 20, 3) := by decide +kernel
theorem dX6_suits_138 : decode cX6_suits 138 = .ok (.iload 7, 2) := by decide +kernel
theorem dX6_suits_140 : decode cX6_suits 140 = .ok (.iload 5, 2) := by decide +kernel
theorem dX6_suits_142 : decode cX6_suits 142 = .ok (.iastore, 1) := by decide +kernel
theorem dX6_suits_143 : decode cX6_suits 143 = .ok (.goto 22, 3) := by decide +kernel
theorem dX6_suits_146 : decode cX6_suits 146 = .ok (.aload_n 2, 1) := by decide +kernel
theorem dX6_suits_147 : decode cX6_suits 147 = .ok (.aload_n 0, 1) := by decide +kernel
theorem dX6_suits_148 : decode cX6_suits 148 = .ok (.getfield 20, 3) := by decide +kernel
theorem dX6_suits_151 : decode cX6_suits 151 = .ok (.iload 7, 2) := by decide +kernel
theorem dX6_suits_153 : decode cX6_suits 153 = .ok (.iaload, 1) := by decide +kernel
theorem dX6_suits_154 : decode cX6_suits 154 = .ok (.aload_n 2, 1) := by decide +kernel
theorem dX6_suits_155 : decode cX6_suits 155 = .ok (.iload 5, 2) := by decide +kernel
theorem dX6_suits_157 : decode cX6_suits 157 = .ok (.invokevirtual 49, 3) := by decide +kernel
theorem dX6_suits_160 : decode cX6_suits 160 = .ok (.ifCond .ne 5, 3) := by decide +kernel
theorem dX6_suits_163 : decode cX6_suits 163 = .ok (.iconst 0, 1) := by decide +kernel
theorem dX6_suits_164 : decode cX6_suits 164 = .ok (.ireturn, 1) := by decide +kernel
theorem dX6_suits_165 : decode cX6_suits 165 = .ok (.iload 5, 2) := by decide +kernel
theorem dX6_suits_167 : decode cX6_suits 167 = .ok (.aload_n 2, 1) := by decide +kernel
theorem dX6_suits_168 : decode cX6_suits 168 = .ok (.getfield 53, 3) := by decide +kernel
theorem dX6_suits_171 : decode cX6_suits 171 = .ok (.iload 5, 2) := by decide +kernel
theorem dX6_suits_173 : decode cX6_suits 173 = .ok (.iaload, 1) := by decide +kernel
theorem dX6_suits_174 : decode cX6_suits 174 = .ok (.iadd, 1) := by decide +kernel
theorem dX6_suits_175 : decode cX6_suits 175 = .ok (.istore 5, 2) := by decide +kernel
theorem dX6_suits_177 : decode cX6_suits 177 = .ok (.goto 47, 3) := by decide +kernel
theorem dX6_suits_180 : decode cX6_suits 180 = .ok (.aload 4, 2) := by decide +kernel
theorem dX6_suits_182 : decode cX6_suits 182 = .ok (.getfield 42, 3) := by decide +kernel
theorem dX6_suits_185 : decode cX6_suits 185 = .ok (.iload 6, 2) := by decide +kernel
theorem dX6_suits_187 : decode cX6_suits 187 = .ok (.iaload, 1) := by decide +kernel
theorem dX6_suits_188 : decode cX6_suits 188 = .ok (.aload_n 2, 1) := by decide +kernel
theorem dX6_suits_189 : decode cX6_suits 189 = .ok (.getfield 42, 3) := by decide +kernel
theorem dX6_suits_192 : decode cX6_suits 192 = .ok (.iload 5, 2) := by decide +kernel
theorem dX6_suits_194 : decode cX6_suits 194 = .ok (.iaload, 1) := by decide +kernel
theorem dX6_suits_195 : decode cX6_suits 195 = .ok (.if_icmp .ne 27, 3) := by decide +kernel
theorem dX6_suits_198 : decode cX6_suits 198 = .ok (.aload 4, 2) := by decide +kernel
theorem dX6_suits_200 : decode cX6_suits 200 = .ok (.getfield 56, 3) := by decide +kernel
theorem dX6_suits_203 : decode cX6_suits 203 = .ok (.iload 6, 2) := by decide +kernel
theorem dX6_suits_205 : decode cX6_suits 205 = .ok (.iaload, 1) := by decide +kernel
theorem dX6_suits_206 : decode cX6_suits 206 = .ok (.aload_n 2, 1) := by decide +kernel
theorem dX6_suits_207 : decode cX6_suits 207 = .ok (.getfield 56, 3) := by decide +kernel
theorem dX6_suits_210 : decode cX6_suits 210 = .ok (.iload 5, 2) := by decide +kernel
theorem dX6_suits_212 : decode cX6_suits 212 = .ok (.iaload, 1) := by decide +kernel
theorem dX6_suits_213 : decode cX6_suits 213 = .ok (.if_icmp .ne 9, 3) := by decide +kernel
theorem dX6_suits_216 : decode cX6_suits 216 = .ok (.iinc 5 1, 3) := by decide +kernel
theorem dX6_suits_219 : decode cX6_suits 219 = .ok (.goto 5, 3) := by decide +kernel
theorem dX6_suits_222 : decode cX6_suits 222 = .ok (.iconst 0, 1) := by decide +kernel
theorem dX6_suits_223 : decode cX6_suits 223 = .ok (.ireturn, 1) := by decide +kernel
theorem dX6_suits_224 : decode cX6_suits 224 = .ok (.iinc 6 1, 3) := by decide +kernel
theorem dX6_suits_227 : decode cX6_suits 227 = .ok (.goto (-151), 3) := by decide +kernel
theorem dX6_suits_230 : decode cX6_suits 230 = .ok (.iconst 1, 1) := by decide +kernel
theorem dX6_suits_231 : decode cX6_suits 231 = .ok (.ireturn, 1) := by decide +kernel
theorem dX6_rewrite_0 : decode cX6_rewrite 0 = .ok (.aload_n 0, 1) := by decide +kernel
theorem dX6_rewrite_1 : decode cX6_rewrite 1 = .ok (.iload_n 1, 1) := by decide +kernel
theorem dX6_rewrite_2 : decode cX6_rewrite 2 = .ok (.aload_n 2, 1) := by decide +kernel
theorem dX6_rewrite_3 : decode cX6_rewrite 3 = .ok (.iload_n 3, 1) := by decide +kernel
theorem dX6_rewrite_4 : decode cX6_rewrite 4 = .ok (.invokevirtual 59, 3) := by decide +kernel
theorem dX6_rewrite_7 : decode cX6_rewrite 7 = .ok (.ifCond .ne 5, 3) := by decide +kernel
theorem dX6_rewrite_10 : decode cX6_rewrite 10 = .ok (.iconst (-1), 1) := by decide +kernel
theorem dX6_rewrite_11 : decode cX6_rewrite 11 = .ok (.ireturn, 1) := by decide +kernel
theorem dX6_rewrite_12 : decode cX6_rewrite 12 = .ok (.aload_n 0, 1) := by decide +kernel
theorem dX6_rewrite_13 : decode cX6_rewrite 13 = .ok (.aload_n 0, 1) := by decide +kernel
theorem dX6_rewrite_14 : decode cX6_rewrite 14 = .ok (.getfield 17, 3) := by decide +kernel
theorem dX6_rewrite_17 : decode cX6_rewrite 17 = .ok (.iload_n 1, 1) := by decide +kernel
theorem dX6_rewrite_18 : decode cX6_rewrite 18 = .ok (.aaload, 1) := by decide +kernel
theorem dX6_rewrite_19 : decode cX6_rewrite 19 = .ok (.aload_n 2, 1) := by decide +kernel
theorem dX6_rewrite_20 : decode cX6_rewrite 20 = .ok (.iload_n 3, 1) := by decide +kernel
theorem dX6_rewrite_21 : decode cX6_rewrite 21 = .ok (.invokevirtual 62, 3) := by decide +kernel
theorem dX6_rewrite_24 : decode cX6_rewrite 24 = .ok (.istore 4, 2) := by decide +kernel
theorem dX6_rewrite_26 : decode cX6_rewrite 26 = .ok (.iload 4, 2) := by decide +kernel
theorem dX6_rewrite_28 : decode cX6_rewrite 28 = .ok (.bipush 16, 2) := by decide +kernel
theorem dX6_rewrite_30 : decode cX6_rewrite 30 = .ok (.if_icmp .le 6, 3) := by decide +kernel
theorem dX6_rewrite_33 : decode cX6_rewrite 33 = .ok (.iload 4, 2) := by decide +kernel
theorem dX6_rewrite_35 : decode cX6_rewrite 35 = .ok (.ireturn, 1) := by decide +kernel
theorem dX6_rewrite_36 : decode cX6_rewrite 36 = .ok (.aload_n 0, 1) := by decide +kernel
theorem dX6_rewrite_37 : decode cX6_rewrite 37 = .ok (.getfield 25, 3) := by decide +kernel
theorem dX6_rewrite_40 : decode cX6_rewrite 40 = .ok (.iconst 0, 1) := by decide +kernel
theorem dX6_rewrite_41 : decode cX6_rewrite 41 = .ok (.putfield 45, 3) := by decide +kernel
theorem dX6_rewrite_44 : decode cX6_rewrite 44 = .ok (.iconst 0, 1) := by decide +kernel
theorem dX6_rewrite_45 : decode cX6_rewrite 45 = .ok (.istore 5, 2) := by decide +kernel
theorem dX6_rewrite_47 : decode cX6_rewrite 47 = .ok (.iload 5, 2) := by decide +kernel
theorem dX6_rewrite_49 : decode cX6_rewrite 49 = .ok (.iload_n 3, 1) := by decide +kernel
theorem dX6_rewrite_50 : decode cX6_rewrite 50 = .ok (.if_icmp .ge 30, 3) := by decide +kernel
theorem dX6_rewrite_53 : decode cX6_rewrite 53 = .ok (.aload_n 0, 1) := by decide +kernel
theorem dX6_rewrite_54 : decode cX6_rewrite 54 = .ok (.getfield 25, 3) := by decide +kernel
theorem dX6_rewrite_57 : decode cX6_rewrite 57 = .ok (.aload_n 2, 1) := by decide +kernel
theorem dX6_rewrite_58 : decode cX6_rewrite 58 = .ok (.getfield 42, 3) := by decide +kernel
theorem dX6_rewrite_61 : decode cX6_rewrite 61 = .ok (.iload 5, 2) := by decide +kernel
theorem dX6_rewrite_63 : decode cX6_rewrite 63 = .ok (.iaload, 1) := by decide +kernel
theorem dX6_rewrite_64 : decode cX6_rewrite 64 = .ok (.aload_n 2, 1) := by decide +kernel
theorem dX6_rewrite_65 : decode cX6_rewrite 65 = .ok (.getfield 56, 3) := by decide +kernel
theorem dX6_rewrite_68 : decode cX6_rewrite 68 = .ok (.iload 5, 2) := by decide +kernel
theorem dX6_rewrite_70 : decode cX6_rewrite 70 = .ok (.iaload, 1) := by decide +kernel
theorem dX6_rewrite_71 : decode cX6_rewrite 71 = .ok (.invokevirtual 66, 3) := by decide +kernel
theorem dX6_rewrite_74 : decode cX6_rewrite 74 = .ok (.iinc 5 1, 3) := by decide +kernel
theorem dX6_rewrite_77 : decode cX6_rewrite 77 = .ok (.goto (-30), 3) := by decide +kernel
theorem dX6_rewrite_80 : decode cX6_rewrite 80 = .ok (.iconst 0, 1) := by decide +kernel
theorem dX6_rewrite_81 : decode cX6_rewrite 81 = .ok (.istore 5, 2) := by decide +kernel
theorem dX6_rewrite_83 : decode cX6_rewrite 83 = .ok (.iload 5, 2) := by decide +kernel
theorem dX6_rewrite_85 : decode cX6_rewrite 85 = .ok (.aload_n 0, 1) := by decide +kernel
theorem dX6_rewrite_86 : decode cX6_rewrite 86 = .ok (.getfield 17, 3) := by decide +kernel
theorem dX6_rewrite_89 : decode cX6_rewrite 89 = .ok (.iload_n 1, 1) := by decide +kernel
theorem dX6_rewrite_90 : decode cX6_rewrite 90 = .ok (.aaload, 1) := by decide +kernel
theorem dX6_rewrite_91 : decode cX6_rewrite 91 = .ok (.getfield 45, 3) := by decide +kernel
theorem dX6_rewrite_94 : decode cX6_rewrite 94 = .ok (.if_icmp .ge 73, 3) := by decide +kernel
theorem dX6_rewrite_97 : decode cX6_rewrite 97 = .ok (.aload_n 0, 1) := by decide +kernel
theorem dX6_rewrite_98 : decode cX6_rewrite 98 = .ok (.getfield 17, 3) := by decide +kernel
theorem dX6_rewrite_101 : decode cX6_rewrite 101 = .ok (.iload_n 1, 1) := by decide +kernel
theorem dX6_rewrite_102 : decode cX6_rewrite 102 = .ok (.aaload, 1) := by decide +kernel
theorem dX6_rewrite_103 : decode cX6_rewrite 103 = .ok (.getfield 42, 3) := by decide +kernel
theorem dX6_rewrite_106 : decode cX6_rewrite 106 = .ok (.iload 5, 2) := by decide +kernel
theorem dX6_rewrite_108 : decode cX6_rewrite 108 = .ok (.iaload, 1) := by decide +kernel
theorem dX6_rewrite_109 : decode cX6_rewrite 109 = .ok (.istore 6, 2) := by decide +kernel
theorem dX6_rewrite_111 : decode cX6_rewrite 111 = .ok (.iload 6, 2) := by decide +kernel
theorem dX6_rewrite_113 : decode cX6_rewrite 113 = .ok (.invokestatic 46, 3) := by decide +kernel
theorem dX6_rewrite_116 : decode cX6_rewrite 116 = .ok (.ifCond .eq 24, 3) := by decide +kernel
theorem dX6_rewrite_119 : decode cX6_rewrite 119 = .ok (.aload_n 0, 1) := by decide +kernel
theorem dX6_rewrite_120 : decode cX6_rewrite 120 = .ok (.getfield 25, 3) := by decide +kernel
theorem dX6_rewrite_123 : decode cX6_rewrite 123 = .ok (.aload_n 2, 1) := by decide +kernel
theorem dX6_rewrite_124 : decode cX6_rewrite 124 = .ok (.aload_n 0, 1) := by decide +kernel
theorem dX6_rewrite_125 : decode cX6_rewrite 125 = .ok (.getfield 20, 3) := by decide +kernel
theorem dX6_rewrite_128 : decode cX6_rewrite 128 = .ok (.iload 6, 2) := by decide +kernel
theorem dX6_rewrite_130 : decode cX6_rewrite 130 = .ok (.bipush 65, 2) := by decide +kernel
theorem dX6_rewrite_132 : decode cX6_rewrite 132 = .ok (.isub, 1) := by decide +kernel
theorem dX6_rewrite_133 : decode cX6_rewrite 133 = .ok (.iaload, 1) := by decide +kernel
theorem dX6_rewrite_134 : decode cX6_rewrite 134 = .ok (.invokevirtual 70, 3) := by decide +kernel
theorem dX6_rewrite_137 : decode cX6_rewrite 137 = .ok (.goto 24, 3) := by decide +kernel
theorem dX6_rewrite_140 : decode cX6_rewrite 140 = .ok (.aload_n 0, 1) := by decide +kernel
theorem dX6_rewrite_141 : decode cX6_rewrite 141 = .ok (.getfield 25, 3) := by decide +kernel
theorem dX6_rewrite_144 : decode cX6_rewrite 144 = .ok (.iload 6, 2) := by decide +kernel
theorem dX6_rewrite_146 : decode cX6_rewrite 146 = .ok (.aload_n 0, 1) := by decide +kernel
theorem dX6_rewrite_147 : decode cX6_rewrite 147 = .ok (.getfield 17, 3) := by decide +kernel
theorem dX6_rewrite_150 : decode cX6_rewrite 150 = .ok (.iload_n 1, 1) := by decide +kernel
theorem dX6_rewrite_151 : decode cX6_rewrite 151 = .ok (.aaload, 1) := by decide +kernel
theorem dX6_rewrite_152 : decode cX6_rewrite 152 = .ok (.getfield 56, 3) := by decide +kernel
theorem dX6_rewrite_155 : decode cX6_rewrite 155 = .ok (.iload 5, 2) := by decide +kernel
theorem dX6_rewrite_157 : decode cX6_rewrite 157 = .ok (.iaload, 1) := by decide +kernel
theorem dX6_rewrite_158 : decode cX6_rewrite 158 = .ok (.invokevirtual 66, 3) := by decide +kernel
theorem dX6_rewrite_161 : decode cX6_rewrite 161 = .ok (.iinc 5 1, 3) := by decide +kernel
theorem dX6_rewrite_164 : decode cX6_rewrite 164 = .ok (.goto (-81), 3) := by decide +kernel
theorem dX6_rewrite_167 : decode cX6_rewrite 167 = .ok (.iload_n 3, 1) := by decide +kernel
theorem dX6_rewrite_168 : decode cX6_rewrite 168 = .ok (.aload_n 2, 1) := by decide +kernel
theorem dX6_rewrite_169 : decode cX6_rewrite 169 = .ok (.getfield 53, 3) := by decide +kernel
theorem dX6_rewrite_172 : decode cX6_rewrite 172 = .ok (.iload_n 3, 1) := by decide +kernel
theorem dX6_rewrite_173 : decode cX6_rewrite 173 = .ok (.iaload, 1) := by decide +kernel
theorem dX6_rewrite_174 : decode cX6_rewrite 174 = .ok (.iadd, 1) := by decide +kernel
theorem dX6_rewrite_175 : decode cX6_rewrite 175 = .ok (.istore 5, 2) := by decide +kernel
theorem dX6_rewrite_177 : decode cX6_rewrite 177 = .ok (.iload 5, 2) := by decide +kernel
theorem dX6_rewrite_179 : decode cX6_rewrite 179 = .ok (.aload_n 2, 1) := by decide +kernel
theorem dX6_rewrite_180 : decode cX6_rewrite 180 = .ok (.getfield 45, 3) := by decide +kernel
theorem dX6_rewrite_183 : decode cX6_rewrite 183 = .ok (.if_icmp .ge 30, 3) := by decide +kernel
theorem dX6_rewrite_186 : decode cX6_rewrite 186 = .ok (.aload_n 0, 1) := by decide +kernel
theorem dX6_rewrite_187 : decode cX6_rewrite 187 = .ok (.getfield 25, 3) := by decide +kernel
theorem dX6_rewrite_190 : decode cX6_rewrite 190 = .ok (.aload_n 2, 1) := by decide +kernel
theorem dX6_rewrite_191 : decode cX6_rewrite 191 = .ok (.getfield 42, 3) := by decide +kernel
theorem dX6_rewrite_194 : decode cX6_rewrite 194 = .ok (.iload 5, 2) := by decide +kernel
theorem dX6_rewrite_196 : decode cX6_rewrite 196 = .ok (.iaload, 1) := by decide +kernel
theorem dX6_rewrite_197 : decode cX6_rewrite 197 = .ok (.aload_n 2, 1) := by decide +kernel
theorem dX6_rewrite_198 : decode cX6_rewrite 198 = .ok (.getfield 56, 3) := by decide +kernel
theorem dX6_rewrite_201 : decode cX6_rewrite 201 = .ok (.iload 5, 2) := by decide +kernel
theorem dX6_rewrite_203 : decode cX6_rewrite 203 = .ok (.iaload, 1) := by decide +kernel
theorem dX6_rewrite_204 : decode cX6_rewrite 204 = .ok (.invokevirtual 66, 3) := by decide +kernel
theorem dX6_rewrite_207 : decode cX6_rewrite 207 = .ok (.iinc 5 1, 3) := by decide +kernel
theorem dX6_rewrite_210 : decode cX6_rewrite 210 = .ok (.goto (-33), 3) := by decide +kernel
theorem dX6_rewrite_213 : decode cX6_rewrite 213 = .ok (.aload_n 0, 1) := by decide +kernel
theorem dX6_rewrite_214 : decode cX6_rewrite 214 = .ok (.getfield 25, 3) := by decide +kernel
theorem dX6_rewrite_217 : decode cX6_rewrite 217 = .ok (.invokevirtual 74, 3) := by decide +kernel
theorem dX6_rewrite_220 : decode cX6_rewrite 220 = .ok (.aload_n 2, 1) := by decide +kernel
theorem dX6_rewrite_221 : decode cX6_rewrite 221 = .ok (.aload_n 0, 1) := by decide +kernel
theorem dX6_rewrite_222 : decode cX6_rewrite 222 = .ok (.getfield 25, 3) := by decide +kernel
theorem dX6_rewrite_225 : decode cX6_rewrite 225 = .ok (.invokevirtual 33, 3) := by decide +kernel
theorem dX6_rewrite_228 : decode cX6_rewrite 228 = .ok (.iload 4, 2) := by decide +kernel
theorem dX6_rewrite_230 : decode cX6_rewrite 230 = .ok (.ireturn, 1) := by decide +kernel
theorem dX6_nodesThen_0 : decode cX6_nodesThen 0 = .ok (.aload_n 2, 1) := by decide +kernel
theorem dX6_nodesThen_1 : decode cX6_nodesThen 1 = .ok (.getfield 45, 3) := by decide +kernel
theorem dX6_nodesThen_4 : decode cX6_nodesThen 4 = .ok (.aload_n 2, 1) := by decide +kernel
theorem dX6_nodesThen_5 : decode cX6_nodesThen 5 = .ok (.getfield 53, 3) := by decide +kernel
theorem dX6_nodesThen_8 : decode cX6_nodesThen 8 = .ok (.iload_n 3, 1) := by decide +kernel
theorem dX6_nodesThen_9 : decode cX6_nodesThen 9 = .ok (.iaload, 1) := by decide +kernel
theorem dX6_nodesThen_10 : decode cX6_nodesThen 10 = .ok (.isub, 1) := by decide +kernel
theorem dX6_nodesThen_11 : decode cX6_nodesThen 11 = .ok (.istore 4, 2) := by decide +kernel
theorem dX6_nodesThen_13 : decode cX6_nodesThen 13 = .ok (.iconst 0, 1) := by decide +kernel
theorem dX6_nodesThen_14 : decode cX6_nodesThen 14 = .ok (.istore 5, 2) := by decide +kernel
theorem dX6_nodesThen_16 : decode cX6_nodesThen 16 = .ok (.iload 5, 2) := by decide +kernel
theorem dX6_nodesThen_18 : decode cX6_nodesThen 18 = .ok (.aload_n 1, 1) := by decide +kernel
theorem dX6_nodesThen_19 : decode cX6_nodesThen 19 = .ok (.getfield 45, 3) := by decide +kernel
theorem dX6_nodesThen_22 : decode cX6_nodesThen 22 = .ok (.if_icmp .ge 67, 3) := by decide +kernel
theorem dX6_nodesThen_25 : decode cX6_nodesThen 25 = .ok (.aload_n 1, 1) := by decide +kernel
theorem dX6_nodesThen_26 : decode cX6_nodesThen 26 = .ok (.getfield 42, 3) := by decide +kernel
theorem dX6_nodesThen_29 : decode cX6_nodesThen 29 = .ok (.iload 5, 2) := by decide +kernel
theorem dX6_nodesThen_31 : decode cX6_nodesThen 31 = .ok (.iaload, 1) := by decide +kernel
theorem dX6_nodesThen_32 : decode cX6_nodesThen 32 = .ok (.istore 6, 2) := by decide +kernel
theorem dX6_nodesThen_34 : decode cX6_nodesThen 34 = .ok (.iload 6, 2) := by decide +kernel
theorem dX6_nodesThen_36 : decode cX6_nodesThen 36 = .ok (.invokestatic 46, 3) := by decide +kernel
theorem dX6_nodesThen_39 : decode cX6_nodesThen 39 = .ok (.ifCond .eq 16, 3) := by decide +kernel
theorem dX6_nodesThen_42 : decode cX6_nodesThen 42 = .ok (.aload_n 0, 1) := by decide +kernel
theorem dX6_nodesThen_43 : decode cX6_nodesThen 43 = .ok (.getfield 20, 3) := by decide +kernel
theorem dX6_nodesThen_46 : decode cX6_nodesThen 46 = .ok (.iload 6, 2) := by decide +kernel
theorem dX6_nodesThen_48 : decode cX6_nodesThen 48 = .ok (.bipush 65, 2) := by decide +kernel
theorem dX6_nodesThen_50 : decode cX6_nodesThen 50 = .ok (.isub, 1) := by decide +kernel
theorem dX6_nodesThen_51 : decode cX6_nodesThen 51 = .ok (.iaload, 1) := by decide +kernel
theorem dX6_nodesThen_52 : decode cX6_nodesThen 52 = .ok (.goto 4, 3) := by decide +kernel
theorem dX6_nodesThen_55 : decode cX6_nodesThen 55 = .ok (.iconst (-1), 1) := by decide +kernel
theorem dX6_nodesThen_56 : decode cX6_nodesThen 56 = .ok (.istore 7, 2) := by decide +kernel
theorem dX6_nodesThen_58 : decode cX6_nodesThen 58 = .ok (.iload 4, 2) := by decide +kernel
theorem dX6_nodesThen_60 : decode cX6_nodesThen 60 = .ok (.aload_n 2, 1) := by decide +kernel
theorem dX6_nodesThen_61 : decode cX6_nodesThen 61 = .ok (.iload 7, 2) := by decide +kernel
theorem dX6_nodesThen_63 : decode cX6_nodesThen 63 = .ok (.invokevirtual 41, 3) := by decide +kernel
theorem dX6_nodesThen_66 : decode cX6_nodesThen 66 = .ok (.ifCond .eq 13, 3) := by decide +kernel
theorem dX6_nodesThen_69 : decode cX6_nodesThen 69 = .ok (.aload_n 2, 1) := by decide +kernel
theorem dX6_nodesThen_70 : decode cX6_nodesThen 70 = .ok (.getfield 53, 3) := by decide +kernel
theorem dX6_nodesThen_73 : decode cX6_nodesThen 73 = .ok (.iload 7, 2) := by decide +kernel
theorem dX6_nodesThen_75 : decode cX6_nodesThen 75 = .ok (.iaload, 1) := by decide +kernel
theorem dX6_nodesThen_76 : decode cX6_nodesThen 76 = .ok (.goto 4, 3) := by decide +kernel
theorem dX6_nodesThen_79 : decode cX6_nodesThen 79 = .ok (.iconst 1, 1) := by decide +kernel
theorem dX6_nodesThen_80 : decode cX6_nodesThen 80 = .ok (.iadd, 1) := by decide +kernel
theorem dX6_nodesThen_81 : decode cX6_nodesThen 81 = .ok (.istore 4, 2) := by decide +kernel
theorem dX6_nodesThen_83 : decode cX6_nodesThen 83 = .ok (.iinc 5 1, 3) := by decide +kernel
theorem dX6_nodesThen_86 : decode cX6_nodesThen 86 = .ok (.goto (-70), 3) := by decide +kernel
theorem dX6_nodesThen_89 : decode cX6_nodesThen 89 = .ok (.iload 4, 2) := by decide +kernel
theorem dX6_nodesThen_91 : decode cX6_nodesThen 91 = .ok (.ireturn, 1) := by decide +kernel
theorem dX7_init_0 : decode cX7_init 0 = .ok (.aload_n 0, 1) := by decide +kernel
theorem dX7_init_1 : decode cX7_init 1 = .ok (.invokespecial 3, 3) := by decide +kernel
theorem dX7_init_4 : decode cX7_init 4 = .ok (.aload_n 0, 1) := by decide +kernel
theorem dX7_init_5 : decode cX7_init 5 = .ok (.bipush 16, 2) := by decide +kernel
theorem dX7_init_7 : decode cX7_init 7 = .ok (.newarray .int, 2) := by decide +kernel
theorem dX7_init_9 : decode cX7_init 9 = .ok (.putfield 9, 3) := by decide +kernel
theorem dX7_init_12 : decode cX7_init 12 = .ok (.aload_n 0, 1) := by decide +kernel
theorem dX7_init_13 : decode cX7_init 13 = .ok (.bipush 16, 2) := by decide +kernel
theorem dX7_init_15 : decode cX7_init 15 = .ok (.newarray .int, 2) := by decide +kernel
theorem dX7_init_17 : decode cX7_init 17 = .ok (.putfield 15, 3) := by decide +kernel
theorem dX7_init_20 : decode cX7_init 20 = .ok (.aload_n 0, 1) := by decide +kernel
theorem dX7_init_21 : decode cX7_init 21 = .ok (.bipush 16, 2) := by decide +kernel
theorem dX7_init_23 : decode cX7_init 23 = .ok (.newarray .int, 2) := by decide +kernel
theorem dX7_init_25 : decode cX7_init 25 = .ok (.putfield 18, 3) := by decide +kernel
theorem dX7_init_28 : decode cX7_init 28 = .ok (.aload_n 0, 1) := by decide +kernel
theorem dX7_init_29 : decode cX7_init 29 = .ok (.bipush 16, 2) := by decide +kernel
theorem dX7_init_31 : decode cX7_init 31 = .ok (.newarray .int, 2) := by decide +kernel
theorem dX7_init_33 : decode cX7_init 33 = .ok (.putfield 21, 3) := by decide +kernel
theorem dX7_init_36 : decode cX7_init 36 = .ok (.aload_n 0, 1) := by decide +kernel
theorem dX7_init_37 : decode cX7_init 37 = .ok (.bipush 16, 2) := by decide +kernel
theorem dX7_init_39 : decode cX7_init 39 = .ok (.newarray .int, 2) := by decide +kernel
theorem dX7_init_41 : decode cX7_init 41 = .ok (.putfield 24, 3) := by decide +kernel
theorem dX7_init_44 : decode cX7_init 44 = .ok (.aload_n 0, 1) := by decide +kernel
theorem dX7_init_45 : decode cX7_init 45 = .ok (.bipush 16, 2) := by decide +kernel
theorem dX7_init_47 : decode cX7_init 47 = .ok (.newarray .int, 2) := by decide +kernel
theorem dX7_init_49 : decode cX7_init 49 = .ok (.putfield 27, 3) := by decide +kernel
theorem dX7_init_52 : decode cX7_init 52 = .ok (.return_, 1) := by decide +kernel
theorem dX7_has_0 : decode cX7_has 0 = .ok (.iload_n 1, 1) := by decide +kernel
theorem dX7_has_1 : decode cX7_has 1 = .ok (.ifCond .lt 15, 3) := by decide +kernel
theorem dX7_has_4 : decode cX7_has 4 = .ok (.iload_n 1, 1) := by decide +kernel
theorem dX7_has_5 : decode cX7_has 5 = .ok (.aload_n 0, 1) := by decide +kernel
theorem dX7_has_6 : decode cX7_has 6 = .ok (.getfield 30, 3) := by decide +kernel
theorem dX7_has_9 : decode cX7_has 9 = .ok (.if_icmp .ge 7, 3) := by decide +kernel
theorem dX7_has_12 : decode cX7_has 12 = .ok (.iconst 1, 1) := by decide +kernel
theorem dX7_has_13 : decode cX7_has 13 = .ok (.goto 4, 3) := by decide +kernel
theorem dX7_has_16 : decode cX7_has 16 = .ok (.iconst 0, 1) := by decide +kernel
theorem dX7_has_17 : decode cX7_has 17 = .ok (.ireturn, 1) := by decide +kernel
theorem dX7_append_0 : decode cX7_append 0 = .ok (.aload_n 0, 1) := by decide +kernel
theorem dX7_append_1 : decode cX7_append 1 = .ok (.getfield 30, 3) := by decide +kernel
theorem dX7_append_4 : decode cX7_append 4 = .ok (.bipush 16, 2) := by decide +kernel
theorem dX7_append_6 : decode cX7_append 6 = .ok (.if_icmp .ge 33, 3) := by decide +kernel
theorem dX7_append_9 : decode cX7_append 9 = .ok (.aload_n 0, 1) := by decide +kernel
theorem dX7_append_10 : decode cX7_append 10 = .ok (.getfield 9, 3) := by decide +kernel
theorem dX7_append_13 : decode cX7_append 13 = .ok (.aload_n 0, 1) := by decide +kernel
theorem dX7_append_14 : decode cX7_append 14 = .ok (.getfield 30, 3) := by decide +kernel
theorem dX7_append_17 : decode cX7_append 17 = .ok (.iload_n 1, 1) := by decide +kernel
theorem dX7_append_18 : decode cX7_append 18 = .ok (.iastore, 1) := by decide +kernel
theorem dX7_append_19 : decode cX7_append 19 = .ok (.aload_n 0, 1) := by decide +kernel
theorem dX7_append_20 : decode cX7_append 20 = .ok (.getfield 15, 3) := by decide +kernel
theorem dX7_append_23 : decode cX7_append 23 = .ok (.aload_n 0, 1) := by decide +kernel
theorem dX7_append_24 : decode cX7_append 24 = .ok (.getfield 30, 3) := by decide +kernel
theorem dX7_append_27 : decode cX7_append 27 = .ok (.iload_n 2, 1) := by decide +kernel
theorem dX7_append_28 : decode cX7_append 28 = .ok (.iastore, 1) := by decide +kernel
theorem dX7_append_29 : decode cX7_append 29 = .ok (.aload_n 0, 1) := by decide +kernel
theorem dX7_append_30 : decode cX7_append 30 = .ok (.dup, 1) := by decide +kernel
theorem dX7_append_31 : decode cX7_append 31 = .ok (.getfield 30, 3) := by decide +kernel
theorem dX7_append_34 : decode cX7_append 34 = .ok (.iconst 1, 1) := by decide +kernel
theorem dX7_append_35 : decode cX7_append 35 = .ok (.iadd, 1) := by decide +kernel
theorem dX7_append_36 : decode cX7_append 36 = .ok (.putfield 30, 3) := by decide +kernel
theorem dX7_append_39 : decode cX7_append 39 = .ok (.return_, 1) := by decide +kernel
theorem dX7_settle_0 : decode cX7_settle 0 = .ok (.aload_n 0, 1) := by decide +kernel
theorem dX7_settle_1 : decode cX7_settle 1 = .ok (.getfield 30, 3) := by decide +kernel
theorem dX7_settle_4 : decode cX7_settle 4 = .ok (.iconst 1, 1) := by decide +kernel
theorem dX7_settle_5 : decode cX7_settle 5 = .ok (.isub, 1) := by decide +kernel
theorem dX7_settle_6 : decode cX7_settle 6 = .ok (.istore_n 1, 1) := by decide +kernel
theorem dX7_settle_7 : decode cX7_settle 7 = .ok (.iload_n 1, 1) := by decide +kernel
theorem dX7_settle_8 : decode cX7_settle 8 = .ok (.ifCond .lt 57, 3) := by decide +kernel
theorem dX7_settle_11 : decode cX7_settle 11 = .ok (.iload_n 1, 1) := by decide +kernel
theorem dX7_settle_12 : decode cX7_settle 12 = .ok (.iconst 1, 1) := by decide +kernel
theorem dX7_settle_13 : decode cX7_settle 13 = .ok (.iadd, 1) := by decide +kernel
theorem dX7_settle_14 : decode cX7_settle 14 = .ok (.istore_n 2, 1) := by decide +kernel
theorem dX7_settle_15 : decode cX7_settle 15 = .ok (.iconst 0, 1) := by decide +kernel
theorem dX7_settle_16 : decode cX7_settle 16 = .ok (.istore_n 3, 1) := by decide +kernel
theorem dX7_settle_17 : decode cX7_settle 17 = .ok (.iload_n 3, 1) := by decide +kernel
theorem dX7_settle_18 : decode cX7_settle 18 = .ok (.aload_n 0, 1) := by decide +kernel
theorem dX7_settle_19 : decode cX7_settle 19 = .ok (.getfield 15, 3) := by decide +kernel
theorem dX7_settle_22 : decode cX7_settle 22 = .ok (.iload_n 1, 1) := by decide +kernel
theorem dX7_settle_23 : decode cX7_settle 23 = .ok (.iaload, 1) := by decide +kernel
theorem dX7_settle_24 : decode cX7_settle 24 = .ok (.if_icmp .ge 26, 3) := by decide +kernel
theorem dX7_settle_27 : decode cX7_settle 27 = .ok (.iload_n 2, 1) := by decide +kernel
theorem dX7_settle_28 : decode cX7_settle 28 = .ok (.aload_n 0, 1) := by decide +kernel
theorem dX7_settle_29 : decode cX7_settle 29 = .ok (.getfield 30, 3) := by decide +kernel
theorem dX7_settle_32 : decode cX7_settle 32 = .ok (.if_icmp .ge 18, 3) := by decide +kernel
theorem dX7_settle_35 : decode cX7_settle 35 = .ok (.iload_n 2, 1) := by decide +kernel
theorem dX7_settle_36 : decode cX7_settle 36 = .ok (.aload_n 0, 1) := by decide +kernel
theorem dX7_settle_37 : decode cX7_settle 37 = .ok (.getfield 18, 3) := by decide +kernel
theorem dX7_settle_40 : decode cX7_settle 40 = .ok (.iload_n 2, 1) := by decide +kernel
theorem dX7_settle_41 : decode cX7_settle 41 = .ok (.iaload, 1) := by decide +kernel
theorem dX7_settle_42 : decode cX7_settle 42 = .ok (.iadd, 1) := by decide +kernel
theorem dX7_settle_43 : decode cX7_settle 43 = .ok (.istore_n 2, 1) := by decide +kernel
theorem dX7_settle_44 : decode cX7_settle 44 = .ok (.iinc 3 1, 3) := by decide +kernel
theorem dX7_settle_47 : decode cX7_settle 47 = .ok (.goto (-30), 3) := by decide +kernel
theorem dX7_settle_50 : decode cX7_settle 50 = .ok (.aload_n 0, 1) := by decide +kernel
theorem dX7_settle_51 : decode cX7_settle 51 = .ok (.getfield 18, 3) := by decide +kernel
theorem dX7_settle_54 : decode cX7_settle 54 = .ok (.iload_n 1, 1) := by decide +kernel
theorem dX7_settle_55 : decode cX7_settle 55 = .ok (.iload_n 2, 1) := by decide +kernel
theorem dX7_settle_56 : decode cX7_settle 56 = .ok (.iload_n 1, 1) := by decide +kernel
theorem dX7_settle_57 : decode cX7_settle 57 = .ok (.isub, 1) := by decide +kernel
theorem dX7_settle_58 : decode cX7_settle 58 = .ok (.iastore, 1) := by decide +kernel
theorem dX7_settle_59 : decode cX7_settle 59 = .ok (.iinc 1 (-1), 3) := by decide +kernel
theorem dX7_settle_62 : decode cX7_settle 62 = .ok (.goto (-55), 3) := by decide +kernel
theorem dX7_settle_65 : decode cX7_settle 65 = .ok (.aload_n 0, 1) := by decide +kernel
theorem dX7_settle_66 : decode cX7_settle 66 = .ok (.getfield 21, 3) := by decide +kernel
theorem dX7_settle_69 : decode cX7_settle 69 = .ok (.iconst 0, 1) := by decide +kernel
theorem dX7_settle_70 : decode cX7_settle 70 = .ok (.bipush (-6), 2) := by decide +kernel
theorem dX7_settle_72 : decode cX7_settle 72 = .ok (.iastore, 1) := by decide +kernel
theorem dX7_settle_73 : decode cX7_settle 73 = .ok (.aload_n 0, 1) := by decide +kernel
theorem dX7_settle_74 : decode cX7_settle 74 = .ok (.getfield 24, 3) := by decide +kernel
theorem dX7_settle_77 : decode cX7_settle 77 = .ok (.iconst 0, 1) := by decide +kernel
theorem dX7_settle_78 : decode cX7_settle 78 = .ok (.bipush (-6), 2) := by decide +kernel
theorem dX7_settle_80 : decode cX7_settle 80 = .ok (.iastore, 1) := by decide +kernel
theorem dX7_settle_81 : decode cX7_settle 81 = .ok (.aload_n 0, 1) := by decide +kernel
theorem dX7_settle_82 : decode cX7_settle 82 = .ok (.getfield 27, 3) := by decide +kernel
theorem dX7_settle_85 : decode cX7_settle 85 = .ok (.iconst 0, 1) := by decide +kernel
theorem dX7_settle_86 : decode cX7_settle 86 = .ok (.iconst 0, 1) := by decide +kernel
theorem dX7_settle_87 : decode cX7_settle 87 = .ok (.iastore, 1) := by decide +kernel
theorem dX7_settle_88 : decode cX7_settle 88 = .ok (.iconst 0, 1) := by decide +kernel
theorem dX7_settle_89 : decode cX7_settle 89 = .ok (.istore_n 1, 1) := by decide +kernel
theorem dX7_settle_90 : decode cX7_settle 90 = .ok (.iload_n 1, 1) := by decide +kernel
theorem dX7_settle_91 : decode cX7_settle 91 = .ok (.aload_n 0, 1) := by decide +kernel
theorem dX7_settle_92 : decode cX7_settle 92 = .ok (.getfield 30, 3) := by decide +kernel
theorem dX7_settle_95 : decode cX7_settle 95 = .ok (.if_icmp .ge 76, 3) := by decide +kernel
theorem dX7_settle_98 : decode cX7_settle 98 = .ok (.iload_n 1, 1) := by decide +kernel
theorem dX7_settle_99 : decode cX7_settle 99 = .ok (.iconst 1, 1) := by decide +kernel
theorem dX7_settle_100 : decode cX7_settle 100 = .ok (.iadd, 1) := by decide +kernel
theorem dX7_settle_101 : decode cX7_settle 101 = .ok (.istore_n 2, 1) := by decide +kernel
theorem dX7_settle_102 : decode cX7_settle 102 = .ok (.iconst 0, 1) := by decide +kernel
theorem dX7_settle_103 : decode cX7_settle 103 = .ok (.istore_n 3, 1) := by decide +kernel
theorem dX7_settle_104 : decode cX7_settle 104 = .ok (.iload_n 3, 1) := by decide +kernel
theorem dX7_settle_105 : decode cX7_settle 105 = .ok (.aload_n 0, 1) := by decide +kernel
theorem dX7_settle_106 : decode cX7_settle 106 = .ok (.getfield 15, 3) := by decide +kernel
theorem dX7_settle_109 : decode cX7_settle 109 = .ok (.iload_n 1, 1) := by decide +kernel
theorem dX7_settle_110 : decode cX7_settle 110 = .ok (.iaload, 1) := by decide +kernel
theorem dX7_settle_111 : decode cX7_settle 111 = .ok (.if_icmp .ge 54, 3) := by decide +kernel
theorem dX7_settle_114 : decode cX7_settle 114 = .ok (.iload_n 2, 1) := by decide +kernel
theorem dX7_settle_115 : decode cX7_settle 115 = .ok (.aload_n 0, 1) := by decide +kernel
theorem dX7_settle_116 : decode cX7_settle 116 = .ok (.getfield 30, 3) := by decide +kernel
theorem dX7_settle_119 : decode cX7_settle 119 = .ok (.if_icmp .ge 46, 3) := by decide +kernel
theorem dX7_settle_122 : decode cX7_settle 122 = .ok (.aload_n 0, 1) := by decide +kernel
theorem dX7_settle_123 : decode cX7_settle 123 = .ok (.getfield 21, 3) := by decide +kernel
theorem dX7_settle_126 : decode cX7_settle 126 = .ok (.iload_n 2, 1) := by decide +kernel
theorem dX7_settle_127 : decode cX7_settle 127 = .ok (.iload_n 1, 1) := by decide +kernel
theorem dX7_settle_128 : decode cX7_settle 128 = .ok (.iastore, 1) := by decide +kernel
theorem dX7_settle_129 : decode cX7_settle 129 = .ok (.aload_n 0, 1) := by decide +kernel
theorem dX7_settle_130 : decode cX7_settle 130 = .ok (.getfield 24, 3) := by decide +kernel
theorem dX7_settle_133 : decode cX7_settle 133 = .ok (.iload_n 2, 1) := by decide +kernel
theorem dX7_settle_134 : decode cX7_settle 134 = .ok (.iload_n 3, 1) := by decide +kernel
theorem dX7_settle_135 : decode cX7_settle 135 = .ok (.iastore, 1) := by decide +kernel
theorem dX7_settle_136 : decode cX7_settle 136 = .ok (.aload_n 0, 1) := by decide +kernel
theorem dX7_settle_137 : decode cX7_settle 137 = .ok (.getfield 27, 3) := by decide +kernel
theorem dX7_settle_140 : decode cX7_settle 140 = .ok (.iload_n 2, 1) := by decide +kernel
theorem dX7_settle_141 : decode cX7_settle 141 = .ok (.aload_n 0, 1) := by decide +kernel
theorem dX7_settle_142 : decode cX7_settle 142 = .ok (.getfield 27, 3) := by decide +kernel
theorem dX7_settle_145 : decode cX7_settle 145 = .ok (.iload_n 1, 1) := by decide +kernel
theorem dX7_settle_146 : decode cX7_settle 146 = .ok (.iaload, 1) := by decide +kernel
theorem dX7_settle_147 : decode cX7_settle 147 = .ok (.iconst 1, 1) := by decide +kernel
theorem dX7_settle_148 : decode cX7_settle 148 = .ok (.iadd, 1) := by decide +kernel
theorem dX7_settle_149 : decode cX7_settle 149 = .ok (.iastore, 1) := by decide +kernel
theorem dX7_settle_150 : decode cX7_settle 150 = .ok (.iload_n 2, 1) := by decide +kernel
theorem dX7_settle_151 : decode cX7_settle 151 = .ok (.aload_n 0, 1) := by decide +kernel
theorem dX7_settle_152 : decode cX7_settle 152 = .ok (.getfield 18, 3) := by decide +kernel
theorem dX7_settle_155 : decode cX7_settle 155 = .ok (.iload_n 2, 1) := by decide +kernel
theorem dX7_settle_156 : decode cX7_settle 156 = .ok (.iaload, 1) := by decide +kernel
theorem dX7_settle_157 : decode cX7_settle 157 = .ok (.iadd, 1) := by decide +kernel
theorem dX7_settle_158 : decode cX7_settle 158 = .ok (.istore_n 2, 1) := by decide +kernel
theorem dX7_settle_159 : decode cX7_settle 159 = .ok (.iinc 3 1, 3) := by decide +kernel
theorem dX7_settle_162 : decode cX7_settle 162 = .ok (.goto (-58), 3) := by decide +kernel
theorem dX7_settle_165 : decode cX7_settle 165 = .ok (.iinc 1 1, 3) := by decide +kernel
theorem dX7_settle_168 : decode cX7_settle 168 = .ok (.goto (-78), 3) := by decide +kernel
theorem dX7_settle_171 : decode cX7_settle 171 = .ok (.return_, 1) := by decide +kernel
theorem dX7_appendPart_0 : decode cX7_appendPart 0 = .ok (.aload_n 1, 1) := by decide +kernel
theorem dX7_appendPart_1 : decode cX7_appendPart 1 = .ok (.iload_n 2, 1) := by decide +kernel
theorem dX7_appendPart_2 : decode cX7_appendPart 2 = .ok (.invokevirtual 34, 3) := by decide +kernel
theorem dX7_appendPart_5 : decode cX7_appendPart 5 = .ok (.ifCond .ne 4, 3) := by decide +kernel
theorem dX7_appendPart_8 : decode cX7_appendPart 8 = .ok (.return_, 1) := by decide +kernel
theorem dX7_appendPart_9 : decode cX7_appendPart 9 = .ok (.iconst 0, 1) := by decide +kernel
theorem dX7_appendPart_10 : decode cX7_appendPart 10 = .ok (.istore_n 3, 1) := by decide +kernel
theorem dX7_appendPart_11 : decode cX7_appendPart 11 = .ok (.iload_n 3, 1) := by decide +kernel
theorem dX7_appendPart_12 : decode cX7_appendPart 12 = .ok (.aload_n 1, 1) := by decide +kernel
theorem dX7_appendPart_13 : decode cX7_appendPart 13 = .ok (.getfield 18, 3) := by decide +kernel
theorem dX7_appendPart_16 : decode cX7_appendPart 16 = .ok (.iload_n 2, 1) := by decide +kernel
theorem dX7_appendPart_17 : decode cX7_appendPart 17 = .ok (.iaload, 1) := by decide +kernel
theorem dX7_appendPart_18 : decode cX7_appendPart 18 = .ok (.if_icmp .ge 39, 3) := by decide +kernel
theorem dX7_appendPart_21 : decode cX7_appendPart 21 = .ok (.iload_n 2, 1) := by decide +kernel
theorem dX7_appendPart_22 : decode cX7_appendPart 22 = .ok (.iload_n 3, 1) := by decide +kernel
theorem dX7_appendPart_23 : decode cX7_appendPart 23 = .ok (.iadd, 1) := by decide +kernel
theorem dX7_appendPart_24 : decode cX7_appendPart 24 = .ok (.aload_n 1, 1) := by decide +kernel
theorem dX7_appendPart_25 : decode cX7_appendPart 25 = .ok (.getfield 30, 3) := by decide +kernel
theorem dX7_appendPart_28 : decode cX7_appendPart 28 = .ok (.if_icmp .ge 29, 3) := by decide +kernel
theorem dX7_appendPart_31 : decode cX7_appendPart 31 = .ok (.aload_n 0, 1) := by decide +kernel
theorem dX7_appendPart_32 : decode cX7_appendPart 32 = .ok (.aload_n 1, 1) := by decide +kernel
theorem dX7_appendPart_33 : decode cX7_appendPart 33 = .ok (.getfield 9, 3) := by decide +kernel
theorem dX7_appendPart_36 : decode cX7_appendPart 36 = .ok (.iload_n 2, 1) := by decide +kernel
theorem dX7_appendPart_37 : decode cX7_appendPart 37 = .ok (.iload_n 3, 1) := by decide +kernel
theorem dX7_appendPart_38 : decode cX7_appendPart 38 = .ok (.iadd, 1) := by decide +kernel
theorem dX7_appendPart_39 : decode cX7_appendPart 39 = .ok (.iaload, 1) := by decide +kernel
theorem dX7_appendPart_40 : decode cX7_appendPart 40 = .ok (.aload_n 1, 1) := by decide +kernel
theorem dX7_appendPart_41 : decode cX7_appendPart 41 = .ok (.getfield 15, 3) := by decide +kernel
theorem dX7_appendPart_44 : decode cX7_appendPart 44 = .ok (.iload_n 2, 1) := by decide +kernel
theorem dX7_appendPart_45 : decode cX7_appendPart 45 = .ok (.iload_n 3, 1) := by decide +kernel
theorem dX7_appendPart_46 : decode cX7_appendPart 46 = .ok (.iadd, 1) := by decide +kernel
theorem dX7_appendPart_47 : decode cX7_appendPart 47 = .ok (.iaload, 1) := by decide +kernel
theorem dX7_appendPart_48 : decode cX7_appendPart 48 = .ok (.invokevirtual 38, 3) := by decide +kernel
theorem dX7_appendPart_51 : decode cX7_appendPart 51 = .ok (.iinc 3 1, 3) := by decide +kernel
theorem dX7_appendPart_54 : decode cX7_appendPart 54 = .ok (.goto (-43), 3) := by decide +kernel
theorem dX7_appendPart_57 : decode cX7_appendPart 57 = .ok (.return_, 1) := by decide +kernel
theorem dX7_copyPart_0 : decode cX7_copyPart 0 = .ok (.aload_n 0, 1) := by decide +kernel
theorem dX7_copyPart_1 : decode cX7_copyPart 1 = .ok (.iconst 0, 1) := by decide +kernel
theorem dX7_copyPart_2 : decode cX7_copyPart 2 = .ok (.putfield 30, 3) := by decide +kernel
theorem dX7_copyPart_5 : decode cX7_copyPart 5 = .ok (.aload_n 0, 1) := by decide +kernel
theorem dX7_copyPart_6 : decode cX7_copyPart 6 = .ok (.aload_n 1, 1) := by decide +kernel
theorem dX7_copyPart_7 : decode cX7_copyPart 7 = .ok (.iload_n 2, 1) := by decide +kernel
theorem dX7_copyPart_8 : decode cX7_copyPart 8 = .ok (.invokevirtual 42, 3) := by decide +kernel
theorem dX7_copyPart_11 : decode cX7_copyPart 11 = .ok (.aload_n 0, 1) := by decide +kernel
theorem dX7_copyPart_12 : decode cX7_copyPart 12 = .ok (.invokevirtual 46, 3) := by decide +kernel
theorem dX7_copyPart_15 : decode cX7_copyPart 15 = .ok (.return_, 1) := by decide +kernel
theorem dX7_copyAll_0 : decode cX7_copyAll 0 = .ok (.aload_n 0, 1) := by decide +kernel
theorem dX7_copyAll_1 : decode cX7_copyAll 1 = .ok (.aload_n 1, 1) := by decide +kernel
theorem dX7_copyAll_2 : decode cX7_copyAll 2 = .ok (.getfield 30, 3) := by decide +kernel
theorem dX7_copyAll_5 : decode cX7_copyAll 5 = .ok (.putfield 30, 3) := by decide +kernel
theorem dX7_copyAll_8 : decode cX7_copyAll 8 = .ok (.iconst 0, 1) := by decide +kernel
theorem dX7_copyAll_9 : decode cX7_copyAll 9 = .ok (.istore_n 2, 1) := by decide +kernel
theorem dX7_copyAll_10 : decode cX7_copyAll 10 = .ok (.iload_n 2, 1) := by decide +kernel
theorem dX7_copyAll_11 : decode cX7_copyAll 11 = .ok (.bipush 16, 2) := by decide +kernel
theorem dX7_copyAll_13 : decode cX7_copyAll 13 = .ok (.if_icmp .ge 81, 3) := by decide +kernel
theorem dX7_copyAll_16 : decode cX7_copyAll 16 = .ok (.aload_n 0, 1) := by decide +kernel
theorem dX7_copyAll_17 : decode cX7_copyAll 17 = .ok (.getfield 9, 3) := by decide +kernel
theorem dX7_copyAll_20 : decode cX7_copyAll 20 = .ok (.iload_n 2, 1) := by decide +kernel
theorem dX7_copyAll_21 : decode cX7_copyAll 21 = .ok (.aload_n 1, 1) := by decide +kernel
theorem dX7_copyAll_22 : decode cX7_copyAll 22 = .ok (.getfield 9, 3) := by decide +kernel
theorem dX7_copyAll_25 : decode cX7_copyAll 25 = .ok (.iload_n 2, 1) := by decide +kernel
theorem dX7_copyAll_26 : decode cX7_copyAll 26 = .ok (.iaload, 1) := by decide +kernel
theorem dX7_copyAll_27 : decode cX7_copyAll 27 = .ok (.iastore, 1) := by decide +kernel
theorem dX7_copyAll_28 : decode cX7_copyAll 28 = .ok (.aload_n 0, 1) := by decide +kernel
theorem dX7_copyAll_29 : decode cX7_copyAll 29 = .ok (.getfield 15, 3) := by decide +kernel
theorem dX7_copyAll_32 : decode cX7_copyAll 32 = .ok (.iload_n 2, 1) := by decide +kernel
theorem dX7_copyAll_33 : decode cX7_copyAll 33 = .ok (.aload_n 1, 1) := by decide +kernel
theorem dX7_copyAll_34 : decode cX7_copyAll 34 = .ok (.getfield 15, 3) := by decide +kernel
theorem dX7_copyAll_37 : decode cX7_copyAll 37 = .ok (.iload_n 2, 1) := by decide +kernel
theorem dX7_copyAll_38 : decode cX7_copyAll 38 = .ok (.iaload, 1) := by decide +kernel
theorem dX7_copyAll_39 : decode cX7_copyAll 39 = .ok (.iastore, 1) := by decide +kernel
theorem dX7_copyAll_40 : decode cX7_copyAll 40 = .ok (.aload_n 0, 1) := by decide +kernel
theorem dX7_copyAll_41 : decode cX7_copyAll 41 = .ok (.getfield 18, 3) := by decide +kernel
theorem dX7_copyAll_44 : decode cX7_copyAll 44 = .ok (.iload_n 2, 1) := by decide +kernel
theorem dX7_copyAll_45 : decode cX7_copyAll 45 = .ok (.aload_n 1, 1) := by decide +kernel
theorem dX7_copyAll_46 : decode cX7_copyAll 46 = .ok (.getfield 18, 3) := by decide +kernel
theorem dX7_copyAll_49 : decode cX7_copyAll 49 = .ok (.iload_n 2, 1) := by decide +kernel
theorem dX7_copyAll_50 : decode cX7_copyAll 50 = .ok (.iaload, 1) := by decide +kernel
theorem dX7_copyAll_51 : decode cX7_copyAll 51 = .ok (.iastore, 1) := by decide +kernel
theorem dX7_copyAll_52 : decode cX7_copyAll 52 = .ok (.aload_n 0, 1) := by decide +kernel
theorem dX7_copyAll_53 : decode cX7_copyAll 53 = .ok (.getfield 21, 3) := by decide +kernel
theorem dX7_copyAll_56 : decode cX7_copyAll 56 = .ok (.iload_n 2, 1) := by decide +kernel
theorem dX7_copyAll_57 : decode cX7_copyAll 57 = .ok (.aload_n 1, 1) := by decide +kernel
theorem dX7_copyAll_58 : decode cX7_copyAll 58 = .ok (.getfield 21, 3) := by decide +kernel
theorem dX7_copyAll_61 : decode cX7_copyAll 61 = .ok (.iload_n 2, 1) := by decide +kernel
theorem dX7_copyAll_62 : decode cX7_copyAll 62 = .ok (.iaload, 1) := by decide +kernel
theorem dX7_copyAll_63 : decode cX7_copyAll 63 = .ok (.iastore, 1) := by decide +kernel
theorem dX7_copyAll_64 : decode cX7_copyAll 64 = .ok (.aload_n 0, 1) := by decide +kernel
theorem dX7_copyAll_65 : decode cX7_copyAll 65 = .ok (.getfield 24, 3) := by decide +kernel
theorem dX7_copyAll_68 : decode cX7_copyAll 68 = .ok (.iload_n 2, 1) := by decide +kernel
theorem dX7_copyAll_69 : decode cX7_copyAll 69 = .ok (.aload_n 1, 1) := by decide +kernel
theorem dX7_copyAll_70 : decode cX7_copyAll 70 = .ok (.getfield 24, 3) := by decide +kernel
theorem dX7_copyAll_73 : decode cX7_copyAll 73 = .ok (.iload_n 2, 1) := by decide +kernel
theorem dX7_copyAll_74 : decode cX7_copyAll 74 = .ok (.iaload, 1) := by decide +kernel
theorem dX7_copyAll_75 : decode cX7_copyAll 75 = .ok (.iastore, 1) := by decide +kernel
theorem dX7_copyAll_76 : decode cX7_copyAll 76 = .ok (.aload_n 0, 1) := by decide +kernel
theorem dX7_copyAll_77 : decode cX7_copyAll 77 = .ok (.getfield 27, 3) := by decide +kernel
theorem dX7_copyAll_80 : decode cX7_copyAll 80 = .ok (.iload_n 2, 1) := by decide +kernel
theorem dX7_copyAll_81 : decode cX7_copyAll 81 = .ok (.aload_n 1, 1) := by decide +kernel
theorem dX7_copyAll_82 : decode cX7_copyAll 82 = .ok (.getfield 27, 3) := by decide +kernel
theorem dX7_copyAll_85 : decode cX7_copyAll 85 = .ok (.iload_n 2, 1) := by decide +kernel
theorem dX7_copyAll_86 : decode cX7_copyAll 86 = .ok (.iaload, 1) := by decide +kernel
theorem dX7_copyAll_87 : decode cX7_copyAll 87 = .ok (.iastore, 1) := by decide +kernel
theorem dX7_copyAll_88 : decode cX7_copyAll 88 = .ok (.iinc 2 1, 3) := by decide +kernel
theorem dX7_copyAll_91 : decode cX7_copyAll 91 = .ok (.goto (-81), 3) := by decide +kernel
theorem dX7_copyAll_94 : decode cX7_copyAll 94 = .ok (.return_, 1) := by decide +kernel
theorem dX7_isAs_0 : decode cX7_isAs 0 = .ok (.aload_n 0, 1) := by decide +kernel
theorem dX7_isAs_1 : decode cX7_isAs 1 = .ok (.iload_n 1, 1) := by decide +kernel
theorem dX7_isAs_2 : decode cX7_isAs 2 = .ok (.invokevirtual 34, 3) := by decide +kernel
theorem dX7_isAs_5 : decode cX7_isAs 5 = .ok (.ifCond .eq 26, 3) := by decide +kernel
theorem dX7_isAs_8 : decode cX7_isAs 8 = .ok (.aload_n 2, 1) := by decide +kernel
theorem dX7_isAs_9 : decode cX7_isAs 9 = .ok (.iload_n 3, 1) := by decide +kernel
theorem dX7_isAs_10 : decode cX7_isAs 10 = .ok (.invokevirtual 34, 3) := by decide +kernel
theorem dX7_isAs_13 : decode cX7_isAs 13 = .ok (.ifCond .eq 18, 3) := by decide +kernel
theorem dX7_isAs_16 : decode cX7_isAs 16 = .ok (.aload_n 0, 1) := by decide +kernel
theorem dX7_isAs_17 : decode cX7_isAs 17 = .ok (.getfield 18, 3) := by decide +kernel
theorem dX7_isAs_20 : decode cX7_isAs 20 = .ok (.iload_n 1, 1) := by decide +kernel
theorem dX7_isAs_21 : decode cX7_isAs 21 = .ok (.iaload, 1) := by decide +kernel
theorem dX7_isAs_22 : decode cX7_isAs 22 = .ok (.aload_n 2, 1) := by decide +kernel
theorem dX7_isAs_23 : decode cX7_isAs 23 = .ok (.getfield 18, 3) := by decide +kernel
theorem dX7_isAs_26 : decode cX7_isAs 26 = .ok (.iload_n 3, 1) := by decide +kernel
theorem dX7_isAs_27 : decode cX7_isAs 27 = .ok (.iaload, 1) := by decide +kernel
theorem dX7_isAs_28 : decode cX7_isAs 28 = .ok (.if_icmp .eq 5, 3) := by decide +kernel
theorem dX7_isAs_31 : decode cX7_isAs 31 = .ok (.iconst 0, 1) := by decide +kernel
theorem dX7_isAs_32 : decode cX7_isAs 32 = .ok (.ireturn, 1) := by decide +kernel
theorem dX7_isAs_33 : decode cX7_isAs 33 = .ok (.iconst 0, 1) := by decide +kernel
theorem dX7_isAs_34 : decode cX7_isAs 34 = .ok (.istore 4, 2) := by decide +kernel
theorem dX7_isAs_36 : decode cX7_isAs 36 = .ok (.iload 4, 2) := by decide +kernel
theorem dX7_isAs_38 : decode cX7_isAs 38 = .ok (.aload_n 0, 1) := by decide +kernel
theorem dX7_isAs_39 : decode cX7_isAs 39 = .ok (.getfield 18, 3) := by decide +kernel
theorem dX7_isAs_42 : decode cX7_isAs 42 = .ok (.iload_n 1, 1) := by decide +kernel
theorem dX7_isAs_43 : decode cX7_isAs 43 = .ok (.iaload, 1) := by decide +kernel
theorem dX7_isAs_44 : decode cX7_isAs 44 = .ok (.if_icmp .ge 75, 3) := by decide +kernel
theorem dX7_isAs_47 : decode cX7_isAs 47 = .ok (.iload_n 1, 1) := by decide +kernel
theorem dX7_isAs_48 : decode cX7_isAs 48 = .ok (.iload 4, 2) := by decide +kernel
theorem dX7_isAs_50 : decode cX7_isAs 50 = .ok (.iadd, 1) := by decide +kernel
theorem dX7_isAs_51 : decode cX7_isAs 51 = .ok (.aload_n 0, 1) := by decide +kernel
theorem dX7_isAs_52 : decode cX7_isAs 52 = .ok (.getfield 30, 3) := by decide +kernel
theorem dX7_isAs_55 : decode cX7_isAs 55 = .ok (.if_icmp .ge 64, 3) := by decide +kernel
theorem dX7_isAs_58 : decode cX7_isAs 58 = .ok (.iload_n 3, 1) := by decide +kernel
theorem dX7_isAs_59 : decode cX7_isAs 59 = .ok (.iload 4, 2) := by decide +kernel
theorem dX7_isAs_61 : decode cX7_isAs 61 = .ok (.iadd, 1) := by decide +kernel
theorem dX7_isAs_62 : decode cX7_isAs 62 = .ok (.aload_n 2, 1) := by decide +kernel
theorem dX7_isAs_63 : decode cX7_isAs 63 = .ok (.getfield 30, 3) := by decide +kernel
theorem dX7_isAs_66 : decode cX7_isAs 66 = .ok (.if_icmp .ge 53, 3) := by decide +kernel
theorem dX7_isAs_69 : decode cX7_isAs 69 = .ok (.aload_n 0, 1) := by decide +kernel
theorem dX7_isAs_70 : decode cX7_isAs 70 = .ok (.getfield 9, 3) := by decide +kernel
theorem dX7_isAs_73 : decode cX7_isAs 73 = .ok (.iload_n 1, 1) := by decide +kernel
theorem dX7_isAs_74 : decode cX7_isAs 74 = .ok (.iload 4, 2) := by decide +kernel
theorem dX7_isAs_76 : decode cX7_isAs 76 = .ok (.iadd, 1) := by decide +kernel
theorem dX7_isAs_77 : decode cX7_isAs 77 = .ok (.iaload, 1) := by decide +kernel
theorem dX7_isAs_78 : decode cX7_isAs 78 = .ok (.aload_n 2, 1) := by decide +kernel
theorem dX7_isAs_79 : decode cX7_isAs 79 = .ok (.getfield 9, 3) := by decide +kernel
theorem dX7_isAs_82 : decode cX7_isAs 82 = .ok (.iload_n 3, 1) := by decide +kernel
theorem dX7_isAs_83 : decode cX7_isAs 83 = .ok (.iload 4, 2) := by decide +kernel
theorem dX7_isAs_85 : decode cX7_isAs 85 = .ok (.iadd, 1) := by decide +kernel
theorem dX7_isAs_86 : decode cX7_isAs 86 = .ok (.iaload, 1) := by decide +kernel
theorem dX7_isAs_87 : decode cX7_isAs 87 = .ok (.if_icmp .ne 24, 3) := by decide +kernel
theorem dX7_isAs_90 : decode cX7_isAs 90 = .ok (.aload_n 0, 1) := by decide +kernel
theorem dX7_isAs_91 : decode cX7_isAs 91 = .ok (.getfield 15, 3) := by decide +kernel
theorem dX7_isAs_94 : decode cX7_isAs 94 = .ok (.iload_n 1, 1) := by decide +kernel
theorem dX7_isAs_95 : decode cX7_isAs 95 = .ok (.iload 4, 2) := by decide +kernel
theorem dX7_isAs_97 : decode cX7_isAs 97 = .ok (.iadd, 1) := by decide +kernel
theorem dX7_isAs_98 : decode cX7_isAs 98 = .ok (.iaload, 1) := by decide +kernel
theorem dX7_isAs_99 : decode cX7_isAs 99 = .ok (.aload_n 2, 1) := by decide +kernel
theorem dX7_isAs_100 : decode cX7_isAs 100 = .ok (.getfield 15, 3) := by decide +kernel
theorem dX7_isAs_103 : decode cX7_isAs 103 = .ok (.iload_n 3, 1) := by decide +kernel
theorem dX7_isAs_104 : decode cX7_isAs 104 = .ok (.iload 4, 2) := by decide +kernel
theorem dX7_isAs_106 : decode cX7_isAs 106 = .ok (.iadd, 1) := by decide +kernel
theorem dX7_isAs_107 : decode cX7_isAs 107 = .ok (.iaload, 1) := by decide +kernel
theorem dX7_isAs_108 : decode cX7_isAs 108 = .ok (.if_icmp .eq 5, 3) := by decide +kernel
theorem dX7_isAs_111 : decode cX7_isAs 111 = .ok (.iconst 0, 1) := by decide +kernel
theorem dX7_isAs_112 : decode cX7_isAs 112 = .ok (.ireturn, 1) := by decide +kernel
theorem dX7_isAs_113 : decode cX7_isAs 113 = .ok (.iinc 4 1, 3) := by decide +kernel
theorem dX7_isAs_116 : decode cX7_isAs 116 = .ok (.goto (-80), 3) := by decide +kernel
theorem dX7_isAs_119 : decode cX7_isAs 119 = .ok (.iconst 1, 1) := by decide +kernel
theorem dX7_isAs_120 : decode cX7_isAs 120 = .ok (.ireturn, 1) := by decide +kernel
theorem dX7_holeBits_0 : decode cX7_holeBits 0 = .ok (.iconst 0, 1) := by decide +kernel
theorem dX7_holeBits_1 : decode cX7_holeBits 1 = .ok (.istore_n 1, 1) := by decide +kernel
theorem dX7_holeBits_2 : decode cX7_holeBits 2 = .ok (.iconst 0, 1) := by decide +kernel
theorem dX7_holeBits_3 : decode cX7_holeBits 3 = .ok (.istore_n 2, 1) := by decide +kernel
theorem dX7_holeBits_4 : decode cX7_holeBits 4 = .ok (.iload_n 2, 1) := by decide +kernel
theorem dX7_holeBits_5 : decode cX7_holeBits 5 = .ok (.aload_n 0, 1) := by decide +kernel
theorem dX7_holeBits_6 : decode cX7_holeBits 6 = .ok (.getfield 30, 3) := by decide +kernel
theorem dX7_holeBits_9 : decode cX7_holeBits 9 = .ok (.if_icmp .ge 35, 3) := by decide +kernel
theorem dX7_holeBits_12 : decode cX7_holeBits 12 = .ok (.aload_n 0, 1) := by decide +kernel
theorem dX7_holeBits_13 : decode cX7_holeBits 13 = .ok (.getfield 9, 3) := by decide +kernel
theorem dX7_holeBits_16 : decode cX7_holeBits 16 = .ok (.iload_n 2, 1) := by decide +kernel
theorem dX7_holeBits_17 : decode cX7_holeBits 17 = .ok (.iaload, 1) := by decide +kernel
theorem dX7_holeBits_18 : decode cX7_holeBits 18 = .ok (.invokestatic 49, 3) := by decide +kernel
theorem dX7_holeBits_21 : decode cX7_holeBits 21 = .ok (.ifCond .eq 17, 3) := by decide +kernel
theorem dX7_holeBits_24 : decode cX7_holeBits 24 = .ok (.iload_n 1, 1) := by decide +kernel
theorem dX7_holeBits_25 : decode cX7_holeBits 25 = .ok (.iconst 1, 1) := by decide +kernel
theorem dX7_holeBits_26 : decode cX7_holeBits 26 = .ok (.aload_n 0, 1) := by decide +kernel
theorem dX7_holeBits_27 : decode cX7_holeBits 27 = .ok (.getfield 9, 3) := by decide +kernel
theorem dX7_holeBits_30 : decode cX7_holeBits 30 = .ok (.iload_n 2, 1) := by decide +kernel
theorem dX7_holeBits_31 : decode cX7_holeBits 31 = .ok (.iaload, 1) := by decide +kernel
theorem dX7_holeBits_32 : decode cX7_holeBits 32 = .ok (.bipush 65, 2) := by decide +kernel
theorem dX7_holeBits_34 : decode cX7_holeBits 34 = .ok (.isub, 1) := by decide +kernel
theorem dX7_holeBits_35 : decode cX7_holeBits 35 = .ok (.ishl, 1) := by decide +kernel
theorem dX7_holeBits_36 : decode cX7_holeBits 36 = .ok (.ior, 1) := by decide +kernel
theorem dX7_holeBits_37 : decode cX7_holeBits 37 = .ok (.istore_n 1, 1) := by decide +kernel
theorem dX7_holeBits_38 : decode cX7_holeBits 38 = .ok (.iinc 2 1, 3) := by decide +kernel
theorem dX7_holeBits_41 : decode cX7_holeBits 41 = .ok (.goto (-37), 3) := by decide +kernel
theorem dX7_holeBits_44 : decode cX7_holeBits 44 = .ok (.iload_n 1, 1) := by decide +kernel
theorem dX7_holeBits_45 : decode cX7_holeBits 45 = .ok (.ireturn, 1) := by decide +kernel
theorem dX7_holeCount_0 : decode cX7_holeCount 0 = .ok (.aload_n 0, 1) := by decide +kernel
theorem dX7_holeCount_1 : decode cX7_holeCount 1 = .ok (.invokevirtual 52, 3) := by decide +kernel
theorem dX7_holeCount_4 : decode cX7_holeCount 4 = .ok (.invokestatic 56, 3) := by decide +kernel
theorem dX7_holeCount_7 : decode cX7_holeCount 7 = .ok (.ireturn, 1) := by decide +kernel
theorem dX7_write_0 : decode cX7_write 0 = .ok (.iconst 0, 1) := by decide +kernel
theorem dX7_write_1 : decode cX7_write 1 = .ok (.istore_n 2, 1) := by decide +kernel
theorem dX7_write_2 : decode cX7_write 2 = .ok (.iconst 0, 1) := by decide +kernel
theorem dX7_write_3 : decode cX7_write 3 = .ok (.istore_n 3, 1) := by decide +kernel
theorem dX7_write_4 : decode cX7_write 4 = .ok (.iload_n 3, 1) := by decide +kernel
theorem dX7_write_5 : decode cX7_write 5 = .ok (.aload_n 0, 1) := by decide +kernel
theorem dX7_write_6 : decode cX7_write 6 = .ok (.getfield 30, 3) := by decide +kernel
theorem dX7_write_9 : decode cX7_write 9 = .ok (.if_icmp .ge 94, 3) := by decide +kernel
theorem dX7_write_12 : decode cX7_write 12 = .ok (.aload_n 1, 1) := by decide +kernel
theorem dX7_write_13 : decode cX7_write 13 = .ok (.iload_n 2, 1) := by decide +kernel
theorem dX7_write_14 : decode cX7_write 14 = .ok (.aload_n 0, 1) := by decide +kernel
theorem dX7_write_15 : decode cX7_write 15 = .ok (.getfield 9, 3) := by decide +kernel
theorem dX7_write_18 : decode cX7_write 18 = .ok (.iload_n 3, 1) := by decide +kernel
theorem dX7_write_19 : decode cX7_write 19 = .ok (.iaload, 1) := by decide +kernel
theorem dX7_write_20 : decode cX7_write 20 = .ok (.invokestatic 62, 3) := by decide +kernel
theorem dX7_write_23 : decode cX7_write 23 = .ok (.istore_n 2, 1) := by decide +kernel
theorem dX7_write_24 : decode cX7_write 24 = .ok (.aload_n 0, 1) := by decide +kernel
theorem dX7_write_25 : decode cX7_write 25 = .ok (.getfield 15, 3) := by decide +kernel
theorem dX7_write_28 : decode cX7_write 28 = .ok (.iload_n 3, 1) := by decide +kernel
theorem dX7_write_29 : decode cX7_write 29 = .ok (.iaload, 1) := by decide +kernel
theorem dX7_write_30 : decode cX7_write 30 = .ok (.ifCond .le 14, 3) := by decide +kernel
theorem dX7_write_33 : decode cX7_write 33 = .ok (.aload_n 1, 1) := by decide +kernel
theorem dX7_write_34 : decode cX7_write 34 = .ok (.iload_n 2, 1) := by decide +kernel
theorem dX7_write_35 : decode cX7_write 35 = .ok (.bipush 40, 2) := by decide +kernel
theorem dX7_write_37 : decode cX7_write 37 = .ok (.invokestatic 62, 3) := by decide +kernel
theorem dX7_write_40 : decode cX7_write 40 = .ok (.istore_n 2, 1) := by decide +kernel
theorem dX7_write_41 : decode cX7_write 41 = .ok (.goto 56, 3) := by decide +kernel
theorem dX7_write_44 : decode cX7_write 44 = .ok (.iload_n 3, 1) := by decide +kernel
theorem dX7_write_45 : decode cX7_write 45 = .ok (.iconst 1, 1) := by decide +kernel
theorem dX7_write_46 : decode cX7_write 46 = .ok (.iadd, 1) := by decide +kernel
theorem dX7_write_47 : decode cX7_write 47 = .ok (.aload_n 0, 1) := by decide +kernel
theorem dX7_write_48 : decode cX7_write 48 = .ok (.getfield 30, 3) := by decide +kernel
theorem dX7_write_51 : decode cX7_write 51 = .ok (.if_icmp .ge 14, 3) := by decide +kernel
theorem dX7_write_54 : decode cX7_write 54 = .ok (.aload_n 0, 1) := by decide +kernel
theorem dX7_write_55 : decode cX7_write 55 = .ok (.getfield 27, 3) := by decide +kernel
theorem dX7_write_58 : decode cX7_write 58 = .ok (.iload_n 3, 1) := by decide +kernel
theorem dX7_write_59 : decode cX7_write 59 = .ok (.iconst 1, 1) := by decide +kernel
theorem dX7_write_60 : decode cX7_write 60 = .ok (.iadd, 1) := by decide +kernel
theorem dX7_write_61 : decode cX7_write 61 = .ok (.iaload, 1) := by decide +kernel
theorem dX7_write_62 : decode cX7_write 62 = .ok (.goto 4, 3) := by decide +kernel
theorem dX7_write_65 : decode cX7_write 65 = .ok (.iconst 0, 1) := by decide +kernel
theorem dX7_write_66 : decode cX7_write 66 = .ok (.istore 4, 2) := by decide +kernel
theorem dX7_write_68 : decode cX7_write 68 = .ok (.iload 4, 2) := by decide +kernel
theorem dX7_write_70 : decode cX7_write 70 = .ok (.istore 5, 2) := by decide +kernel
theorem dX7_write_72 : decode cX7_write 72 = .ok (.iload 5, 2) := by decide +kernel
theorem dX7_write_74 : decode cX7_write 74 = .ok (.aload_n 0, 1) := by decide +kernel
theorem dX7_write_75 : decode cX7_write 75 = .ok (.getfield 27, 3) := by decide +kernel
theorem dX7_write_78 : decode cX7_write 78 = .ok (.iload_n 3, 1) := by decide +kernel
theorem dX7_write_79 : decode cX7_write 79 = .ok (.iaload, 1) := by decide +kernel
theorem dX7_write_80 : decode cX7_write 80 = .ok (.if_icmp .ge 17, 3) := by decide +kernel
theorem dX7_write_83 : decode cX7_write 83 = .ok (.aload_n 1, 1) := by decide +kernel
theorem dX7_write_84 : decode cX7_write 84 = .ok (.iload_n 2, 1) := by decide +kernel
theorem dX7_write_85 : decode cX7_write 85 = .ok (.bipush 41, 2) := by decide +kernel
theorem dX7_write_87 : decode cX7_write 87 = .ok (.invokestatic 62, 3) := by decide +kernel
theorem dX7_write_90 : decode cX7_write 90 = .ok (.istore_n 2, 1) := by decide +kernel
theorem dX7_write_91 : decode cX7_write 91 = .ok (.iinc 5 1, 3) := by decide +kernel
theorem dX7_write_94 : decode cX7_write 94 = .ok (.goto (-22), 3) := by decide +kernel
theorem dX7_write_97 : decode cX7_write 97 = .ok (.iinc 3 1, 3) := by decide +kernel
theorem dX7_write_100 : decode cX7_write 100 = .ok (.goto (-96), 3) := by decide +kernel
theorem dX7_write_103 : decode cX7_write 103 = .ok (.iload_n 2, 1) := by decide +kernel
theorem dX7_write_104 : decode cX7_write 104 = .ok (.ireturn, 1) := by decide +kernel
theorem dX7_put_0 : decode cX7_put 0 = .ok (.iload_n 1, 1) := by decide +kernel
theorem dX7_put_1 : decode cX7_put 1 = .ok (.ifCond .lt 9, 3) := by decide +kernel
theorem dX7_put_4 : decode cX7_put 4 = .ok (.iload_n 1, 1) := by decide +kernel
theorem dX7_put_5 : decode cX7_put 5 = .ok (.aload_n 0, 1) := by decide +kernel
theorem dX7_put_6 : decode cX7_put 6 = .ok (.arraylength, 1) := by decide +kernel
theorem dX7_put_7 : decode cX7_put 7 = .ok (.if_icmp .lt 5, 3) := by decide +kernel
theorem dX7_put_10 : decode cX7_put 10 = .ok (.iload_n 1, 1) := by decide +kernel
theorem dX7_put_11 : decode cX7_put 11 = .ok (.ireturn, 1) := by decide +kernel
theorem dX7_put_12 : decode cX7_put 12 = .ok (.aload_n 0, 1) := by decide +kernel
theorem dX7_put_13 : decode cX7_put 13 = .ok (.iload_n 1, 1) := by decide +kernel
theorem dX7_put_14 : decode cX7_put 14 = .ok (.iload_n 2, 1) := by decide +kernel
theorem dX7_put_15 : decode cX7_put 15 = .ok (.iastore, 1) := by decide +kernel
theorem dX7_put_16 : decode cX7_put 16 = .ok (.iload_n 1, 1) := by decide +kernel
theorem dX7_put_17 : decode cX7_put 17 = .ok (.iconst 1, 1) := by decide +kernel
theorem dX7_put_18 : decode cX7_put 18 = .ok (.iadd, 1) := by decide +kernel
theorem dX7_put_19 : decode cX7_put 19 = .ok (.ireturn, 1) := by decide +kernel
theorem dX8_init_0 : decode cX8_init 0 = .ok (.aload_n 0, 1) := by decide +kernel
theorem dX8_init_1 : decode cX8_init 1 = .ok (.invokespecial 3, 3) := by decide +kernel
theorem dX8_init_4 : decode cX8_init 4 = .ok (.aload_n 0, 1) := by decide +kernel
theorem dX8_init_5 : decode cX8_init 5 = .ok (.bipush 16, 2) := by decide +kernel
theorem dX8_init_7 : decode cX8_init 7 = .ok (.newarray .int, 2) := by decide +kernel
theorem dX8_init_9 : decode cX8_init 9 = .ok (.putfield 9, 3) := by decide +kernel
theorem dX8_init_12 : decode cX8_init 12 = .ok (.aload_n 0, 1) := by decide +kernel
theorem dX8_init_13 : decode cX8_init 13 = .ok (.bipush 101, 2) := by decide +kernel
theorem dX8_init_15 : decode cX8_init 15 = .ok (.newarray .int, 2) := by decide +kernel
theorem dX8_init_17 : decode cX8_init 17 = .ok (.putfield 15, 3) := by decide +kernel
theorem dX8_init_20 : decode cX8_init 20 = .ok (.aload_n 0, 1) := by decide +kernel
theorem dX8_init_21 : decode cX8_init 21 = .ok (.sipush 1616, 3) := by decide +kernel
theorem dX8_init_24 : decode cX8_init 24 = .ok (.newarray .int, 2) := by decide +kernel
theorem dX8_init_26 : decode cX8_init 26 = .ok (.putfield 18, 3) := by decide +kernel
theorem dX8_init_29 : decode cX8_init 29 = .ok (.aload_n 0, 1) := by decide +kernel
theorem dX8_init_30 : decode cX8_init 30 = .ok (.aload_n 1, 1) := by decide +kernel
theorem dX8_init_31 : decode cX8_init 31 = .ok (.putfield 21, 3) := by decide +kernel
theorem dX8_init_34 : decode cX8_init 34 = .ok (.return_, 1) := by decide +kernel
theorem dX8_run_0 : decode cX8_run 0 = .ok (.iconst 0, 1) := by decide +kernel
theorem dX8_run_1 : decode cX8_run 1 = .ok (.istore_n 3, 1) := by decide +kernel
theorem dX8_run_2 : decode cX8_run 2 = .ok (.iload_n 3, 1) := by decide +kernel
theorem dX8_run_3 : decode cX8_run 3 = .ok (.bipush 100, 2) := by decide +kernel
theorem dX8_run_5 : decode cX8_run 5 = .ok (.if_icmp .gt 72, 3) := by decide +kernel
theorem dX8_run_8 : decode cX8_run 8 = .ok (.aload_n 0, 1) := by decide +kernel
theorem dX8_run_9 : decode cX8_run 9 = .ok (.iload_n 3, 1) := by decide +kernel
theorem dX8_run_10 : decode cX8_run 10 = .ok (.putfield 25, 3) := by decide +kernel
theorem dX8_run_13 : decode cX8_run 13 = .ok (.aload_n 0, 1) := by decide +kernel
theorem dX8_run_14 : decode cX8_run 14 = .ok (.aload_n 1, 1) := by decide +kernel
theorem dX8_run_15 : decode cX8_run 15 = .ok (.iload_n 3, 1) := by decide +kernel
theorem dX8_run_16 : decode cX8_run 16 = .ok (.invokevirtual 29, 3) := by decide +kernel
theorem dX8_run_19 : decode cX8_run 19 = .ok (.aload_n 0, 1) := by decide +kernel
theorem dX8_run_20 : decode cX8_run 20 = .ok (.iload_n 3, 1) := by decide +kernel
theorem dX8_run_21 : decode cX8_run 21 = .ok (.invokevirtual 33, 3) := by decide +kernel
theorem dX8_run_24 : decode cX8_run 24 = .ok (.ifCond .eq 5, 3) := by decide +kernel
theorem dX8_run_27 : decode cX8_run 27 = .ok (.iconst 1, 1) := by decide +kernel
theorem dX8_run_28 : decode cX8_run 28 = .ok (.ireturn, 1) := by decide +kernel
theorem dX8_run_29 : decode cX8_run 29 = .ok (.aload_n 0, 1) := by decide +kernel
theorem dX8_run_30 : decode cX8_run 30 = .ok (.aload_n 1, 1) := by decide +kernel
theorem dX8_run_31 : decode cX8_run 31 = .ok (.iload_n 2, 1) := by decide +kernel
theorem dX8_run_32 : decode cX8_run 32 = .ok (.invokevirtual 37, 3) := by decide +kernel
theorem dX8_run_35 : decode cX8_run 35 = .ok (.ifCond .ne 5, 3) := by decide +kernel
theorem dX8_run_38 : decode cX8_run 38 = .ok (.iconst 0, 1) := by decide +kernel
theorem dX8_run_39 : decode cX8_run 39 = .ok (.ireturn, 1) := by decide +kernel
theorem dX8_run_40 : decode cX8_run 40 = .ok (.iload_n 3, 1) := by decide +kernel
theorem dX8_run_41 : decode cX8_run 41 = .ok (.bipush 100, 2) := by decide +kernel
theorem dX8_run_43 : decode cX8_run 43 = .ok (.if_icmp .ne 5, 3) := by decide +kernel
theorem dX8_run_46 : decode cX8_run 46 = .ok (.iconst 3, 1) := by decide +kernel
theorem dX8_run_47 : decode cX8_run 47 = .ok (.ireturn, 1) := by decide +kernel
theorem dX8_run_48 : decode cX8_run 48 = .ok (.aload_n 0, 1) := by decide +kernel
theorem dX8_run_49 : decode cX8_run 49 = .ok (.getfield 21, 3) := by decide +kernel
theorem dX8_run_52 : decode cX8_run 52 = .ok (.aload_n 0, 1) := by decide +kernel
theorem dX8_run_53 : decode cX8_run 53 = .ok (.getfield 41, 3) := by decide +kernel
theorem dX8_run_56 : decode cX8_run 56 = .ok (.aload_n 1, 1) := by decide +kernel
theorem dX8_run_57 : decode cX8_run 57 = .ok (.aload_n 0, 1) := by decide +kernel
theorem dX8_run_58 : decode cX8_run 58 = .ok (.getfield 44, 3) := by decide +kernel
theorem dX8_run_61 : decode cX8_run 61 = .ok (.invokevirtual 47, 3) := by decide +kernel
theorem dX8_run_64 : decode cX8_run 64 = .ok (.bipush 16, 2) := by decide +kernel
theorem dX8_run_66 : decode cX8_run 66 = .ok (.if_icmp .le 5, 3) := by decide +kernel
theorem dX8_run_69 : decode cX8_run 69 = .ok (.iconst 2, 1) := by decide +kernel
theorem dX8_run_70 : decode cX8_run 70 = .ok (.ireturn, 1) := by decide +kernel
theorem dX8_run_71 : decode cX8_run 71 = .ok (.iinc 3 1, 3) := by decide +kernel
theorem dX8_run_74 : decode cX8_run 74 = .ok (.goto (-72), 3) := by decide +kernel
theorem dX8_run_77 : decode cX8_run 77 = .ok (.iconst 3, 1) := by decide +kernel
theorem dX8_run_78 : decode cX8_run 78 = .ok (.ireturn, 1) := by decide +kernel
theorem dX8_remember_0 : decode cX8_remember 0 = .ok (.aload_n 0, 1) := by decide +kernel
theorem dX8_remember_1 : decode cX8_remember 1 = .ok (.getfield 15, 3) := by decide +kernel
theorem dX8_remember_4 : decode cX8_remember 4 = .ok (.iload_n 2, 1) := by decide +kernel
theorem dX8_remember_5 : decode cX8_remember 5 = .ok (.aload_n 1, 1) := by decide +kernel
theorem dX8_remember_6 : decode cX8_remember 6 = .ok (.getfield 53, 3) := by decide +kernel
theorem dX8_remember_9 : decode cX8_remember 9 = .ok (.iastore, 1) := by decide +kernel
theorem dX8_remember_10 : decode cX8_remember 10 = .ok (.iconst 0, 1) := by decide +kernel
theorem dX8_remember_11 : decode cX8_remember 11 = .ok (.istore_n 3, 1) := by decide +kernel
theorem dX8_remember_12 : decode cX8_remember 12 = .ok (.iload_n 3, 1) := by decide +kernel
theorem dX8_remember_13 : decode cX8_remember 13 = .ok (.aload_n 1, 1) := by decide +kernel
theorem dX8_remember_14 : decode cX8_remember 14 = .ok (.getfield 53, 3) := by decide +kernel
theorem dX8_remember_17 : decode cX8_remember 17 = .ok (.if_icmp .ge 36, 3) := by decide +kernel
theorem dX8_remember_20 : decode cX8_remember 20 = .ok (.aload_n 0, 1) := by decide +kernel
theorem dX8_remember_21 : decode cX8_remember 21 = .ok (.getfield 18, 3) := by decide +kernel
theorem dX8_remember_24 : decode cX8_remember 24 = .ok (.iload_n 2, 1) := by decide +kernel
theorem dX8_remember_25 : decode cX8_remember 25 = .ok (.bipush 16, 2) := by decide +kernel
theorem dX8_remember_27 : decode cX8_remember 27 = .ok (.imul, 1) := by decide +kernel
theorem dX8_remember_28 : decode cX8_remember 28 = .ok (.iload_n 3, 1) := by decide +kernel
theorem dX8_remember_29 : decode cX8_remember 29 = .ok (.iadd, 1) := by decide +kernel
theorem dX8_remember_30 : decode cX8_remember 30 = .ok (.aload_n 1, 1) := by decide +kernel
theorem dX8_remember_31 : decode cX8_remember 31 = .ok (.getfield 58, 3) := by decide +kernel
theorem dX8_remember_34 : decode cX8_remember 34 = .ok (.iload_n 3, 1) := by decide +kernel
theorem dX8_remember_35 : decode cX8_remember 35 = .ok (.iaload, 1) := by decide +kernel
theorem dX8_remember_36 : decode cX8_remember 36 = .ok (.bipush 16, 2) := by decide +kernel
theorem dX8_remember_38 : decode cX8_remember 38 = .ok (.imul, 1) := by decide +kernel
theorem dX8_remember_39 : decode cX8_remember 39 = .ok (.aload_n 1, 1) := by decide +kernel
theorem dX8_remember_40 : decode cX8_remember 40 = .ok (.getfield 61, 3) := by decide +kernel
theorem dX8_remember_43 : decode cX8_remember 43 = .ok (.iload_n 3, 1) := by decide +kernel
theorem dX8_remember_44 : decode cX8_remember 44 = .ok (.iaload, 1) := by decide +kernel
theorem dX8_remember_45 : decode cX8_remember 45 = .ok (.iadd, 1) := by decide +kernel
theorem dX8_remember_46 : decode cX8_remember 46 = .ok (.iastore, 1) := by decide +kernel
theorem dX8_remember_47 : decode cX8_remember 47 = .ok (.iinc 3 1, 3) := by decide +kernel
theorem dX8_remember_50 : decode cX8_remember 50 = .ok (.goto (-38), 3) := by decide +kernel
theorem dX8_remember_53 : decode cX8_remember 53 = .ok (.return_, 1) := by decide +kernel
theorem dX8_wasBefore_0 : decode cX8_wasBefore 0 = .ok (.iconst 0, 1) := by decide +kernel
theorem dX8_wasBefore_1 : decode cX8_wasBefore 1 = .ok (.istore_n 2, 1) := by decide +kernel
theorem dX8_wasBefore_2 : decode cX8_wasBefore 2 = .ok (.iload_n 2, 1) := by decide +kernel
theorem dX8_wasBefore_3 : decode cX8_wasBefore 3 = .ok (.iload_n 1, 1) := by decide +kernel
theorem dX8_wasBefore_4 : decode cX8_wasBefore 4 = .ok (.if_icmp .ge 35, 3) := by decide +kernel
theorem dX8_wasBefore_7 : decode cX8_wasBefore 7 = .ok (.aload_n 0, 1) := by decide +kernel
theorem dX8_wasBefore_8 : decode cX8_wasBefore 8 = .ok (.getfield 15, 3) := by decide +kernel
theorem dX8_wasBefore_11 : decode cX8_wasBefore 11 = .ok (.iload_n 2, 1) := by decide +kernel
theorem dX8_wasBefore_12 : decode cX8_wasBefore 12 = .ok (.iaload, 1) := by decide +kernel
theorem dX8_wasBefore_13 : decode cX8_wasBefore 13 = .ok (.aload_n 0, 1) := by decide +kernel
theorem dX8_wasBefore_14 : decode cX8_wasBefore 14 = .ok (.getfield 15, 3) := by decide +kernel
theorem dX8_wasBefore_17 : decode cX8_wasBefore 17 = .ok (.iload_n 1, 1) := by decide +kernel
theorem dX8_wasBefore_18 : decode cX8_wasBefore 18 = .ok (.iaload, 1) := by decide +kernel
theorem dX8_wasBefore_19 : decode cX8_wasBefore 19 = .ok (.if_icmp .ne 14, 3) := by decide +kernel
theorem dX8_wasBefore_22 : decode cX8_wasBefore 22 = .ok (.aload_n 0, 1) := by decide +kernel
theorem dX8_wasBefore_23 : decode cX8_wasBefore 23 = .ok (.iload_n 2, 1) := by decide +kernel
theorem dX8_wasBefore_24 : decode cX8_wasBefore 24 = .ok (.iload_n 1, 1) := by decide +kernel
theorem dX8_wasBefore_25 : decode cX8_wasBefore 25 = .ok (.invokevirtual 64, 3) := by decide +kernel
theorem dX8_wasBefore_28 : decode cX8_wasBefore 28 = .ok (.ifCond .eq 5, 3) := by decide +kernel
theorem dX8_wasBefore_31 : decode cX8_wasBefore 31 = .ok (.iconst 1, 1) := by decide +kernel
theorem dX8_wasBefore_32 : decode cX8_wasBefore 32 = .ok (.ireturn, 1) := by decide +kernel
theorem dX8_wasBefore_33 : decode cX8_wasBefore 33 = .ok (.iinc 2 1, 3) := by decide +kernel
theorem dX8_wasBefore_36 : decode cX8_wasBefore 36 = .ok (.goto (-34), 3) := by decide +kernel
theorem dX8_wasBefore_39 : decode cX8_wasBefore 39 = .ok (.iconst 0, 1) := by decide +kernel
theorem dX8_wasBefore_40 : decode cX8_wasBefore 40 = .ok (.ireturn, 1) := by decide +kernel
theorem dX8_isSamePast_0 : decode cX8_isSamePast 0 = .ok (.iconst 0, 1) := by decide +kernel
theorem dX8_isSamePast_1 : decode cX8_isSamePast 1 = .ok (.istore_n 3, 1) := by decide +kernel
theorem dX8_isSamePast_2 : decode cX8_isSamePast 2 = .ok (.iload_n 3, 1) := by decide +kernel
theorem dX8_isSamePast_3 : decode cX8_isSamePast 3 = .ok (.aload_n 0, 1) := by decide +kernel
theorem dX8_isSamePast_4 : decode cX8_isSamePast 4 = .ok (.getfield 15, 3) := by decide +kernel
theorem dX8_isSamePast_7 : decode cX8_isSamePast 7 = .ok (.iload_n 1, 1) := by decide +kernel
theorem dX8_isSamePast_8 : decode cX8_isSamePast 8 = .ok (.iaload, 1) := by decide +kernel
theorem dX8_isSamePast_9 : decode cX8_isSamePast 9 = .ok (.if_icmp .ge 36, 3) := by decide +kernel
theorem dX8_isSamePast_12 : decode cX8_isSamePast 12 = .ok (.aload_n 0, 1) := by decide +kernel
theorem dX8_isSamePast_13 : decode cX8_isSamePast 13 = .ok (.getfield 18, 3) := by decide +kernel
theorem dX8_isSamePast_16 : decode cX8_isSamePast 16 = .ok (.iload_n 1, 1) := by decide +kernel
theorem dX8_isSamePast_17 : decode cX8_isSamePast 17 = .ok (.bipush 16, 2) := by decide +kernel
theorem dX8_isSamePast_19 : decode cX8_isSamePast 19 = .ok (.imul, 1) := by decide +kernel
theorem dX8_isSamePast_20 : decode cX8_isSamePast 20 = .ok (.iload_n 3, 1) := by decide +kernel
theorem dX8_isSamePast_21 : decode cX8_isSamePast 21 = .ok (.iadd, 1) := by decide +kernel
theorem dX8_isSamePast_22 : decode cX8_isSamePast 22 = .ok (.iaload, 1) := by decide +kernel
theorem dX8_isSamePast_23 : decode cX8_isSamePast 23 = .ok (.aload_n 0, 1) := by decide +kernel
theorem dX8_isSamePast_24 : decode cX8_isSamePast 24 = .ok (.getfield 18, 3) := by decide +kernel
theorem dX8_isSamePast_27 : decode cX8_isSamePast 27 = .ok (.iload_n 2, 1) := by decide +kernel
theorem dX8_isSamePast_28 : decode cX8_isSamePast 28 = .ok (.bipush 16, 2) := by decide +kernel
theorem dX8_isSamePast_30 : decode cX8_isSamePast 30 = .ok (.imul, 1) := by decide +kernel
theorem dX8_isSamePast_31 : decode cX8_isSamePast 31 = .ok (.iload_n 3, 1) := by decide +kernel
theorem dX8_isSamePast_32 : decode cX8_isSamePast 32 = .ok (.iadd, 1) := by decide +kernel
theorem dX8_isSamePast_33 : decode cX8_isSamePast 33 = .ok (.iaload, 1) := by decide +kernel
theorem dX8_isSamePast_34 : decode cX8_isSamePast 34 = .ok (.if_icmp .eq 5, 3) := by decide +kernel
theorem dX8_isSamePast_37 : decode cX8_isSamePast 37 = .ok (.iconst 0, 1) := by decide +kernel
theorem dX8_isSamePast_38 : decode cX8_isSamePast 38 = .ok (.ireturn, 1) := by decide +kernel
theorem dX8_isSamePast_39 : decode cX8_isSamePast 39 = .ok (.iinc 3 1, 3) := by decide +kernel
theorem dX8_isSamePast_42 : decode cX8_isSamePast 42 = .ok (.goto (-40), 3) := by decide +kernel
theorem dX8_isSamePast_45 : decode cX8_isSamePast 45 = .ok (.iconst 1, 1) := by decide +kernel
theorem dX8_isSamePast_46 : decode cX8_isSamePast 46 = .ok (.ireturn, 1) := by decide +kernel
theorem dX8_findFirst_0 : decode cX8_findFirst 0 = .ok (.iconst 0, 1) := by decide +kernel
theorem dX8_findFirst_1 : decode cX8_findFirst 1 = .ok (.istore_n 3, 1) := by decide +kernel
theorem dX8_findFirst_2 : decode cX8_findFirst 2 = .ok (.iload_n 3, 1) := by decide +kernel
theorem dX8_findFirst_3 : decode cX8_findFirst 3 = .ok (.aload_n 1, 1) := by decide +kernel
theorem dX8_findFirst_4 : decode cX8_findFirst 4 = .ok (.getfield 53, 3) := by decide +kernel
theorem dX8_findFirst_7 : decode cX8_findFirst 7 = .ok (.if_icmp .ge 56, 3) := by decide +kernel
theorem dX8_findFirst_10 : decode cX8_findFirst 10 = .ok (.iload_n 2, 1) := by decide +kernel
theorem dX8_findFirst_11 : decode cX8_findFirst 11 = .ok (.ifCond .eq 23, 3) := by decide +kernel
theorem dX8_findFirst_14 : decode cX8_findFirst 14 = .ok (.iload_n 3, 1) := by decide +kernel
theorem dX8_findFirst_15 : decode cX8_findFirst 15 = .ok (.aload_n 1, 1) := by decide +kernel
theorem dX8_findFirst_16 : decode cX8_findFirst 16 = .ok (.getfield 68, 3) := by decide +kernel
theorem dX8_findFirst_19 : decode cX8_findFirst 19 = .ok (.iload_n 3, 1) := by decide +kernel
theorem dX8_findFirst_20 : decode cX8_findFirst 20 = .ok (.iaload, 1) := by decide +kernel
theorem dX8_findFirst_21 : decode cX8_findFirst 21 = .ok (.isub, 1) := by decide +kernel
theorem dX8_findFirst_22 : decode cX8_findFirst 22 = .ok (.aload_n 1, 1) := by decide +kernel
theorem dX8_findFirst_23 : decode cX8_findFirst 23 = .ok (.getfield 71, 3) := by decide +kernel
theorem dX8_findFirst_26 : decode cX8_findFirst 26 = .ok (.iload_n 3, 1) := by decide +kernel
theorem dX8_findFirst_27 : decode cX8_findFirst 27 = .ok (.iaload, 1) := by decide +kernel
theorem dX8_findFirst_28 : decode cX8_findFirst 28 = .ok (.iadd, 1) := by decide +kernel
theorem dX8_findFirst_29 : decode cX8_findFirst 29 = .ok (.iconst 1, 1) := by decide +kernel
theorem dX8_findFirst_30 : decode cX8_findFirst 30 = .ok (.isub, 1) := by decide +kernel
theorem dX8_findFirst_31 : decode cX8_findFirst 31 = .ok (.goto 4, 3) := by decide +kernel
theorem dX8_findFirst_34 : decode cX8_findFirst 34 = .ok (.iload_n 3, 1) := by decide +kernel
theorem dX8_findFirst_35 : decode cX8_findFirst 35 = .ok (.istore 4, 2) := by decide +kernel
theorem dX8_findFirst_37 : decode cX8_findFirst 37 = .ok (.iload 4, 2) := by decide +kernel
theorem dX8_findFirst_39 : decode cX8_findFirst 39 = .ok (.ifCond .lt 18, 3) := by decide +kernel
theorem dX8_findFirst_42 : decode cX8_findFirst 42 = .ok (.iload 4, 2) := by decide +kernel
theorem dX8_findFirst_44 : decode cX8_findFirst 44 = .ok (.bipush 16, 2) := by decide +kernel
theorem dX8_findFirst_46 : decode cX8_findFirst 46 = .ok (.if_icmp .ge 11, 3) := by decide +kernel
theorem dX8_findFirst_49 : decode cX8_findFirst 49 = .ok (.aload_n 0, 1) := by decide +kernel
theorem dX8_findFirst_50 : decode cX8_findFirst 50 = .ok (.getfield 9, 3) := by decide +kernel
theorem dX8_findFirst_53 : decode cX8_findFirst 53 = .ok (.iload 4, 2) := by decide +kernel
theorem dX8_findFirst_55 : decode cX8_findFirst 55 = .ok (.iload_n 3, 1) := by decide +kernel
theorem dX8_findFirst_56 : decode cX8_findFirst 56 = .ok (.iastore, 1) := by decide +kernel
theorem dX8_findFirst_57 : decode cX8_findFirst 57 = .ok (.iinc 3 1, 3) := by decide +kernel
theorem dX8_findFirst_60 : decode cX8_findFirst 60 = .ok (.goto (-58), 3) := by decide +kernel
theorem dX8_findFirst_63 : decode cX8_findFirst 63 = .ok (.iconst 0, 1) := by decide +kernel
theorem dX8_findFirst_64 : decode cX8_findFirst 64 = .ok (.istore_n 3, 1) := by decide +kernel
theorem dX8_findFirst_65 : decode cX8_findFirst 65 = .ok (.iload_n 3, 1) := by decide +kernel
theorem dX8_findFirst_66 : decode cX8_findFirst 66 = .ok (.aload_n 1, 1) := by decide +kernel
theorem dX8_findFirst_67 : decode cX8_findFirst 67 = .ok (.getfield 53, 3) := by decide +kernel
theorem dX8_findFirst_70 : decode cX8_findFirst 70 = .ok (.if_icmp .ge 67, 3) := by decide +kernel
theorem dX8_findFirst_73 : decode cX8_findFirst 73 = .ok (.iconst 0, 1) := by decide +kernel
theorem dX8_findFirst_74 : decode cX8_findFirst 74 = .ok (.istore 4, 2) := by decide +kernel
theorem dX8_findFirst_76 : decode cX8_findFirst 76 = .ok (.iload 4, 2) := by decide +kernel
theorem dX8_findFirst_78 : decode cX8_findFirst 78 = .ok (.aload_n 0, 1) := by decide +kernel
theorem dX8_findFirst_79 : decode cX8_findFirst 79 = .ok (.getfield 21, 3) := by decide +kernel
theorem dX8_findFirst_82 : decode cX8_findFirst 82 = .ok (.getfield 74, 3) := by decide +kernel
theorem dX8_findFirst_85 : decode cX8_findFirst 85 = .ok (.if_icmp .ge 46, 3) := by decide +kernel
theorem dX8_findFirst_88 : decode cX8_findFirst 88 = .ok (.aload_n 0, 1) := by decide +kernel
theorem dX8_findFirst_89 : decode cX8_findFirst 89 = .ok (.getfield 21, 3) := by decide +kernel
theorem dX8_findFirst_92 : decode cX8_findFirst 92 = .ok (.iload 4, 2) := by decide +kernel
theorem dX8_findFirst_94 : decode cX8_findFirst 94 = .ok (.aload_n 1, 1) := by decide +kernel
theorem dX8_findFirst_95 : decode cX8_findFirst 95 = .ok (.aload_n 0, 1) := by decide +kernel
theorem dX8_findFirst_96 : decode cX8_findFirst 96 = .ok (.getfield 9, 3) := by decide +kernel
theorem dX8_findFirst_99 : decode cX8_findFirst 99 = .ok (.iload_n 3, 1) := by decide +kernel
theorem dX8_findFirst_100 : decode cX8_findFirst 100 = .ok (.iaload, 1) := by decide +kernel
theorem dX8_findFirst_101 : decode cX8_findFirst 101 = .ok (.invokevirtual 75, 3) := by decide +kernel
theorem dX8_findFirst_104 : decode cX8_findFirst 104 = .ok (.ifCond .eq 21, 3) := by decide +kernel
theorem dX8_findFirst_107 : decode cX8_findFirst 107 = .ok (.aload_n 0, 1) := by decide +kernel
theorem dX8_findFirst_108 : decode cX8_findFirst 108 = .ok (.aload_n 0, 1) := by decide +kernel
theorem dX8_findFirst_109 : decode cX8_findFirst 109 = .ok (.getfield 9, 3) := by decide +kernel
theorem dX8_findFirst_112 : decode cX8_findFirst 112 = .ok (.iload_n 3, 1) := by decide +kernel
theorem dX8_findFirst_113 : decode cX8_findFirst 113 = .ok (.iaload, 1) := by decide +kernel
theorem dX8_findFirst_114 : decode cX8_findFirst 114 = .ok (.putfield 44, 3) := by decide +kernel
theorem dX8_findFirst_117 : decode cX8_findFirst 117 = .ok (.aload_n 0, 1) := by decide +kernel
theorem dX8_findFirst_118 : decode cX8_findFirst 118 = .ok (.iload 4, 2) := by decide +kernel
theorem dX8_findFirst_120 : decode cX8_findFirst 120 = .ok (.putfield 41, 3) := by decide +kernel
theorem dX8_findFirst_123 : decode cX8_findFirst 123 = .ok (.iconst 1, 1) := by decide +kernel
theorem dX8_findFirst_124 : decode cX8_findFirst 124 = .ok (.ireturn, 1) := by decide +kernel
theorem dX8_findFirst_125 : decode cX8_findFirst 125 = .ok (.iinc 4 1, 3) := by decide +kernel
theorem dX8_findFirst_128 : decode cX8_findFirst 128 = .ok (.goto (-52), 3) := by decide +kernel
theorem dX8_findFirst_131 : decode cX8_findFirst 131 = .ok (.iinc 3 1, 3) := by decide +kernel
theorem dX8_findFirst_134 : decode cX8_findFirst 134 = .ok (.goto (-69), 3) := by decide +kernel
theorem dX8_findFirst_137 : decode cX8_findFirst 137 = .ok (.iconst 0, 1) := by decide +kernel
theorem dX8_findFirst_138 : decode cX8_findFirst 138 = .ok (.ireturn, 1) := by decide +kernel
theorem dX9_init_0 : decode cX9_init 0 = .ok (.aload_n 0, 1) := by decide +kernel
theorem dX9_init_1 : decode cX9_init 1 = .ok (.invokespecial 1, 3) := by decide +kernel
theorem dX9_init_4 : decode cX9_init 4 = .ok (.aload_n 0, 1) := by decide +kernel
theorem dX9_init_5 : decode cX9_init 5 = .ok (.new 7, 3) := by decide +kernel
theorem dX9_init_8 : decode cX9_init 8 = .ok (.dup, 1) := by decide +kernel
theorem dX9_init_9 : decode cX9_init 9 = .ok (.invokespecial 9, 3) := by decide +kernel
theorem dX9_init_12 : decode cX9_init 12 = .ok (.putfield 10, 3) := by decide +kernel
theorem dX9_init_15 : decode cX9_init 15 = .ok (.aload_n 0, 1) := by decide +kernel
theorem dX9_init_16 : decode cX9_init 16 = .ok (.bipush 6, 2) := by decide +kernel
theorem dX9_init_18 : decode cX9_init 18 = .ok (.anewarray 16, 3) := by decide +kernel
theorem dX9_init_21 : decode cX9_init 21 = .ok (.putfield 18, 3) := by decide +kernel
theorem dX9_init_24 : decode cX9_init 24 = .ok (.aload_n 0, 1) := by decide +kernel
theorem dX9_init_25 : decode cX9_init 25 = .ok (.new 16, 3) := by decide +kernel
theorem dX9_init_28 : decode cX9_init 28 = .ok (.dup, 1) := by decide +kernel
theorem dX9_init_29 : decode cX9_init 29 = .ok (.invokespecial 22, 3) := by decide +kernel
theorem dX9_init_32 : decode cX9_init 32 = .ok (.putfield 23, 3) := by decide +kernel
theorem dX9_init_35 : decode cX9_init 35 = .ok (.aload_n 0, 1) := by decide +kernel
theorem dX9_init_36 : decode cX9_init 36 = .ok (.bipush 60, 2) := by decide +kernel
theorem dX9_init_38 : decode cX9_init 38 = .ok (.newarray .int, 2) := by decide +kernel
theorem dX9_init_40 : decode cX9_init 40 = .ok (.putfield 27, 3) := by decide +kernel
theorem dX9_init_43 : decode cX9_init 43 = .ok (.aload_n 0, 1) := by decide +kernel
theorem dX9_init_44 : decode cX9_init 44 = .ok (.new 31, 3) := by decide +kernel
theorem dX9_init_47 : decode cX9_init 47 = .ok (.dup, 1) := by decide +kernel
theorem dX9_init_48 : decode cX9_init 48 = .ok (.invokespecial 33, 3) := by decide +kernel
theorem dX9_init_51 : decode cX9_init 51 = .ok (.putfield 34, 3) := by decide +kernel
theorem dX9_init_54 : decode cX9_init 54 = .ok (.aload_n 0, 1) := by decide +kernel
theorem dX9_init_55 : decode cX9_init 55 = .ok (.new 38, 3) := by decide +kernel
theorem dX9_init_58 : decode cX9_init 58 = .ok (.dup, 1) := by decide +kernel
theorem dX9_init_59 : decode cX9_init 59 = .ok (.invokespecial 40, 3) := by decide +kernel
theorem dX9_init_62 : decode cX9_init 62 = .ok (.putfield 41, 3) := by decide +kernel
theorem dX9_init_65 : decode cX9_init 65 = .ok (.aload_n 0, 1) := by decide +kernel
theorem dX9_init_66 : decode cX9_init 66 = .ok (.new 45, 3) := by decide +kernel
theorem dX9_init_69 : decode cX9_init 69 = .ok (.dup, 1) := by decide +kernel
theorem dX9_init_70 : decode cX9_init 70 = .ok (.invokespecial 47, 3) := by decide +kernel
theorem dX9_init_73 : decode cX9_init 73 = .ok (.putfield 48, 3) := by decide +kernel
theorem dX9_init_76 : decode cX9_init 76 = .ok (.aload_n 0, 1) := by decide +kernel
theorem dX9_init_77 : decode cX9_init 77 = .ok (.new 52, 3) := by decide +kernel
theorem dX9_init_80 : decode cX9_init 80 = .ok (.dup, 1) := by decide +kernel
theorem dX9_init_81 : decode cX9_init 81 = .ok (.invokespecial 54, 3) := by decide +kernel
theorem dX9_init_84 : decode cX9_init 84 = .ok (.putfield 55, 3) := by decide +kernel
theorem dX9_init_87 : decode cX9_init 87 = .ok (.aload_n 0, 1) := by decide +kernel
theorem dX9_init_88 : decode cX9_init 88 = .ok (.new 59, 3) := by decide +kernel
theorem dX9_init_91 : decode cX9_init 91 = .ok (.dup, 1) := by decide +kernel
theorem dX9_init_92 : decode cX9_init 92 = .ok (.aload_n 0, 1) := by decide +kernel
theorem dX9_init_93 : decode cX9_init 93 = .ok (.getfield 55, 3) := by decide +kernel
theorem dX9_init_96 : decode cX9_init 96 = .ok (.invokespecial 61, 3) := by decide +kernel
theorem dX9_init_99 : decode cX9_init 99 = .ok (.putfield 64, 3) := by decide +kernel
theorem dX9_init_102 : decode cX9_init 102 = .ok (.aload_n 0, 1) := by decide +kernel
theorem dX9_init_103 : decode cX9_init 103 = .ok (.new 68, 3) := by decide +kernel
theorem dX9_init_106 : decode cX9_init 106 = .ok (.dup, 1) := by decide +kernel
theorem dX9_init_107 : decode cX9_init 107 = .ok (.aload_n 0, 1) := by decide +kernel
theorem dX9_init_108 : decode cX9_init 108 = .ok (.getfield 55, 3) := by decide +kernel
theorem dX9_init_111 : decode cX9_init 111 = .ok (.aload_n 0, 1) := by decide +kernel
theorem dX9_init_112 : decode cX9_init 112 = .ok (.getfield 64, 3) := by decide +kernel
theorem dX9_init_115 : decode cX9_init 115 = .ok (.invokespecial 70, 3) := by decide +kernel
theorem dX9_init_118 : decode cX9_init 118 = .ok (.putfield 73, 3) := by decide +kernel
theorem dX9_init_121 : decode cX9_init 121 = .ok (.aload_n 0, 1) := by decide +kernel
theorem dX9_init_122 : decode cX9_init 122 = .ok (.bipush (-6), 2) := by decide +kernel
theorem dX9_init_124 : decode cX9_init 124 = .ok (.putfield 77, 3) := by decide +kernel
theorem dX9_init_127 : decode cX9_init 127 = .ok (.aload_n 0, 1) := by decide +kernel
theorem dX9_init_128 : decode cX9_init 128 = .ok (.iconst (-1), 1) := by decide +kernel
theorem dX9_init_129 : decode cX9_init 129 = .ok (.putfield 81, 3) := by decide +kernel
theorem dX9_init_132 : decode cX9_init 132 = .ok (.aload_n 0, 1) := by decide +kernel
theorem dX9_init_133 : decode cX9_init 133 = .ok (.iconst (-1), 1) := by decide +kernel
theorem dX9_init_134 : decode cX9_init 134 = .ok (.putfield 84, 3) := by decide +kernel
theorem dX9_init_137 : decode cX9_init 137 = .ok (.iconst 0, 1) := by decide +kernel
theorem dX9_init_138 : decode cX9_init 138 = .ok (.istore_n 1, 1) := by decide +kernel
theorem dX9_init_139 : decode cX9_init 139 = .ok (.iload_n 1, 1) := by decide +kernel
theorem dX9_init_140 : decode cX9_init 140 = .ok (.bipush 6, 2) := by decide +kernel
theorem dX9_init_142 : decode cX9_init 142 = .ok (.if_icmp .ge 22, 3) := by decide +kernel
theorem dX9_init_145 : decode cX9_init 145 = .ok (.aload_n 0, 1) := by decide +kernel
theorem dX9_init_146 : decode cX9_init 146 = .ok (.getfield 18, 3) := by decide +kernel
theorem dX9_init_149 : decode cX9_init 149 = .ok (.iload_n 1, 1) := by decide +kernel
theorem dX9_init_150 : decode cX9_init 150 = .ok (.new 16, 3) := by decide +kernel
theorem dX9_init_153 : decode cX9_init 153 = .ok (.dup, 1) := by decide +kernel
theorem dX9_init_154 : decode cX9_init 154 = .ok (.invokespecial 22, 3) := by decide +kernel
theorem dX9_init_157 : decode cX9_init 157 = .ok (.aastore, 1) := by decide +kernel
theorem dX9_init_158 : decode cX9_init 158 = .ok (.iinc 1 1, 3) := by decide +kernel
theorem dX9_init_161 : decode cX9_init 161 = .ok (.goto (-22), 3) := by decide +kernel
theorem dX9_init_164 : decode cX9_init 164 = .ok (.return_, 1) := by decide +kernel
theorem dX9_say_0 : decode cX9_say 0 = .ok (.iload_n 1, 1) := by decide +kernel
theorem dX9_say_1 : decode cX9_say 1 = .ok (.bipush 33, 2) := by decide +kernel
theorem dX9_say_3 : decode cX9_say 3 = .ok (.if_icmp .lt 9, 3) := by decide +kernel
theorem dX9_say_6 : decode cX9_say 6 = .ok (.iload_n 1, 1) := by decide +kernel
theorem dX9_say_7 : decode cX9_say 7 = .ok (.bipush 126, 2) := by decide +kernel
theorem dX9_say_9 : decode cX9_say 9 = .ok (.if_icmp .le 6, 3) := by decide +kernel
theorem dX9_say_12 : decode cX9_say 12 = .ok (.bipush (-2), 2) := by decide +kernel
theorem dX9_say_14 : decode cX9_say 14 = .ok (.ireturn, 1) := by decide +kernel
theorem dX9_say_15 : decode cX9_say 15 = .ok (.aload_n 0, 1) := by decide +kernel
theorem dX9_say_16 : decode cX9_say 16 = .ok (.getfield 10, 3) := by decide +kernel
theorem dX9_say_19 : decode cX9_say 19 = .ok (.iload_n 1, 1) := by decide +kernel
theorem dX9_say_20 : decode cX9_say 20 = .ok (.invokevirtual 87, 3) := by decide +kernel
theorem dX9_say_23 : decode cX9_say 23 = .ok (.ifCond .eq 13, 3) := by decide +kernel
theorem dX9_say_26 : decode cX9_say 26 = .ok (.aload_n 0, 1) := by decide +kernel
theorem dX9_say_27 : decode cX9_say 27 = .ok (.getfield 10, 3) := by decide +kernel
theorem dX9_say_30 : decode cX9_say 30 = .ok (.getfield 91, 3) := by decide +kernel
theorem dX9_say_33 : decode cX9_say 33 = .ok (.goto 5, 3) := by decide +kernel
theorem dX9_say_36 : decode cX9_say 36 = .ok (.bipush (-4), 2) := by decide +kernel
theorem dX9_say_38 : decode cX9_say 38 = .ok (.ireturn, 1) := by decide +kernel
theorem dX9_wipe_0 : decode cX9_wipe 0 = .ok (.aload_n 0, 1) := by decide +kernel
theorem dX9_wipe_1 : decode cX9_wipe 1 = .ok (.getfield 10, 3) := by decide +kernel
theorem dX9_wipe_4 : decode cX9_wipe 4 = .ok (.getfield 91, 3) := by decide +kernel
theorem dX9_wipe_7 : decode cX9_wipe 7 = .ok (.istore_n 1, 1) := by decide +kernel
theorem dX9_wipe_8 : decode cX9_wipe 8 = .ok (.aload_n 0, 1) := by decide +kernel
theorem dX9_wipe_9 : decode cX9_wipe 9 = .ok (.getfield 10, 3) := by decide +kernel
theorem dX9_wipe_12 : decode cX9_wipe 12 = .ok (.iconst 0, 1) := by decide +kernel
theorem dX9_wipe_13 : decode cX9_wipe 13 = .ok (.putfield 91, 3) := by decide +kernel
theorem dX9_wipe_16 : decode cX9_wipe 16 = .ok (.iload_n 1, 1) := by decide +kernel
theorem dX9_wipe_17 : decode cX9_wipe 17 = .ok (.ireturn, 1) := by decide +kernel
theorem dX9_fault_0 : decode cX9_fault 0 = .ok (.aload_n 0, 1) := by decide +kernel
theorem dX9_fault_1 : decode cX9_fault 1 = .ok (.getfield 10, 3) := by decide +kernel
theorem dX9_fault_4 : decode cX9_fault 4 = .ok (.invokevirtual 94, 3) := by decide +kernel
theorem dX9_fault_7 : decode cX9_fault 7 = .ok (.istore_n 1, 1) := by decide +kernel
theorem dX9_fault_8 : decode cX9_fault 8 = .ok (.iload_n 1, 1) := by decide +kernel
theorem dX9_fault_9 : decode cX9_fault 9 = .ok (.ifCond .ge 8, 3) := by decide +kernel
theorem dX9_fault_12 : decode cX9_fault 12 = .ok (.bipush (-6), 2) := by decide +kernel
theorem dX9_fault_14 : decode cX9_fault 14 = .ok (.goto 4, 3) := by decide +kernel
theorem dX9_fault_17 : decode cX9_fault 17 = .ok (.iload_n 1, 1) := by decide +kernel
theorem dX9_fault_18 : decode cX9_fault 18 = .ok (.ireturn, 1) := by decide +kernel
theorem dX9_read_0 : decode cX9_read 0 = .ok (.aload_n 0, 1) := by decide +kernel
theorem dX9_read_1 : decode cX9_read 1 = .ok (.iload_n 1, 1) := by decide +kernel
theorem dX9_read_2 : decode cX9_read 2 = .ok (.invokevirtual 98, 3) := by decide +kernel
theorem dX9_read_5 : decode cX9_read 5 = .ok (.ifnonnull 5, 3) := by decide +kernel
theorem dX9_read_8 : decode cX9_read 8 = .ok (.iconst (-1), 1) := by decide +kernel
theorem dX9_read_9 : decode cX9_read 9 = .ok (.ireturn, 1) := by decide +kernel
theorem dX9_read_10 : decode cX9_read 10 = .ok (.aload_n 0, 1) := by decide +kernel
theorem dX9_read_11 : decode cX9_read 11 = .ok (.getfield 10, 3) := by decide +kernel
theorem dX9_read_14 : decode cX9_read 14 = .ok (.invokevirtual 94, 3) := by decide +kernel
theorem dX9_read_17 : decode cX9_read 17 = .ok (.ifCond .lt 6, 3) := by decide +kernel
theorem dX9_read_20 : decode cX9_read 20 = .ok (.bipush (-5), 2) := by decide +kernel
theorem dX9_read_22 : decode cX9_read 22 = .ok (.ireturn, 1) := by decide +kernel
theorem dX9_read_23 : decode cX9_read 23 = .ok (.aload_n 0, 1) := by decide +kernel
theorem dX9_read_24 : decode cX9_read 24 = .ok (.getfield 10, 3) := by decide +kernel
theorem dX9_read_27 : decode cX9_read 27 = .ok (.invokevirtual 102, 3) := by decide +kernel
theorem dX9_read_30 : decode cX9_read 30 = .ok (.bipush 16, 2) := by decide +kernel
theorem dX9_read_32 : decode cX9_read 32 = .ok (.if_icmp .le 6, 3) := by decide +kernel
theorem dX9_read_35 : decode cX9_read 35 = .ok (.bipush (-4), 2) := by decide +kernel
theorem dX9_read_37 : decode cX9_read 37 = .ok (.ireturn, 1) := by decide +kernel
theorem dX9_read_38 : decode cX9_read 38 = .ok (.aload_n 0, 1) := by decide +kernel
theorem dX9_read_39 : decode cX9_read 39 = .ok (.getfield 10, 3) := by decide +kernel
theorem dX9_read_42 : decode cX9_read 42 = .ok (.aload_n 0, 1) := by decide +kernel
theorem dX9_read_43 : decode cX9_read 43 = .ok (.getfield 23, 3) := by decide +kernel
theorem dX9_read_46 : decode cX9_read 46 = .ok (.invokevirtual 105, 3) := by decide +kernel
theorem dX9_read_49 : decode cX9_read 49 = .ok (.aload_n 0, 1) := by decide +kernel
theorem dX9_read_50 : decode cX9_read 50 = .ok (.getfield 10, 3) := by decide +kernel
theorem dX9_read_53 : decode cX9_read 53 = .ok (.iconst 0, 1) := by decide +kernel
theorem dX9_read_54 : decode cX9_read 54 = .ok (.putfield 91, 3) := by decide +kernel
theorem dX9_read_57 : decode cX9_read 57 = .ok (.aload_n 0, 1) := by decide +kernel
theorem dX9_read_58 : decode cX9_read 58 = .ok (.iload_n 1, 1) := by decide +kernel
theorem dX9_read_59 : decode cX9_read 59 = .ok (.aload_n 0, 1) := by decide +kernel
theorem dX9_read_60 : decode cX9_read 60 = .ok (.getfield 23, 3) := by decide +kernel
theorem dX9_read_63 : decode cX9_read 63 = .ok (.invokevirtual 109, 3) := by decide +kernel
theorem dX9_read_66 : decode cX9_read 66 = .ok (.ireturn, 1) := by decide +kernel
theorem dX9_node_0 : decode cX9_node 0 = .ok (.aload_n 0, 1) := by decide +kernel
theorem dX9_node_1 : decode cX9_node 1 = .ok (.iload_n 1, 1) := by decide +kernel
theorem dX9_node_2 : decode cX9_node 2 = .ok (.invokevirtual 98, 3) := by decide +kernel
theorem dX9_node_5 : decode cX9_node 5 = .ok (.astore 4, 2) := by decide +kernel
theorem dX9_node_7 : decode cX9_node 7 = .ok (.aload 4, 2) := by decide +kernel
theorem dX9_node_9 : decode cX9_node 9 = .ok (.ifnull 12, 3) := by decide +kernel
theorem dX9_node_12 : decode cX9_node 12 = .ok (.aload 4, 2) := by decide +kernel
theorem dX9_node_14 : decode cX9_node 14 = .ok (.iload_n 2, 1) := by decide +kernel
theorem dX9_node_15 : decode cX9_node 15 = .ok (.invokevirtual 113, 3) := by decide +kernel
theorem dX9_node_18 : decode cX9_node 18 = .ok (.ifCond .ne 5, 3) := by decide +kernel
theorem dX9_node_21 : decode cX9_node 21 = .ok (.iconst (-1), 1) := by decide +kernel
theorem dX9_node_22 : decode cX9_node 22 = .ok (.ireturn, 1) := by decide +kernel
theorem dX9_node_23 : decode cX9_node 23 = .ok (.iload_n 3, 1) := by decide +kernel
theorem dX9_node_24 : decode cX9_node 24 = .ok (.tableswitch 88 0 5 #[40, 48, 56, 64, 72, 80], 40) := by decide +kernel
theorem dX9_node_64 : decode cX9_node 64 = .ok (.aload 4, 2) := by decide +kernel
theorem dX9_node_66 : decode cX9_node 66 = .ok (.getfield 116, 3) := by decide +kernel
theorem dX9_node_69 : decode cX9_node 69 = .ok (.iload_n 2, 1) := by decide +kernel
theorem dX9_node_70 : decode cX9_node 70 = .ok (.iaload, 1) := by decide +kernel
theorem dX9_node_71 : decode cX9_node 71 = .ok (.ireturn, 1) := by decide +kernel
theorem dX9_node_72 : decode cX9_node 72 = .ok (.aload 4, 2) := by decide +kernel
theorem dX9_node_74 : decode cX9_node 74 = .ok (.getfield 119, 3) := by decide +kernel
theorem dX9_node_77 : decode cX9_node 77 = .ok (.iload_n 2, 1) := by decide +kernel
theorem dX9_node_78 : decode cX9_node 78 = .ok (.iaload, 1) := by decide +kernel
theorem dX9_node_79 : decode cX9_node 79 = .ok (.ireturn, 1) := by decide +kernel
theorem dX9_node_80 : decode cX9_node 80 = .ok (.aload 4, 2) := by decide +kernel
theorem dX9_node_82 : decode cX9_node 82 = .ok (.getfield 122, 3) := by decide +kernel
theorem dX9_node_85 : decode cX9_node 85 = .ok (.iload_n 2, 1) := by decide +kernel
theorem dX9_node_86 : decode cX9_node 86 = .ok (.iaload, 1) := by decide +kernel
theorem dX9_node_87 : decode cX9_node 87 = .ok (.ireturn, 1) := by decide +kernel
theorem dX9_node_88 : decode cX9_node 88 = .ok (.aload 4, 2) := by decide +kernel
theorem dX9_node_90 : decode cX9_node 90 = .ok (.getfield 125, 3) := by decide +kernel
theorem dX9_node_93 : decode cX9_node 93 = .ok (.iload_n 2, 1) := by decide +kernel
theorem dX9_node_94 : decode cX9_node 94 = .ok (.iaload, 1) := by decide +kernel
theorem dX9_node_95 : decode cX9_node 95 = .ok (.ireturn, 1) := by decide +kernel
theorem dX9_node_96 : decode cX9_node 96 = .ok (.aload 4, 2) := by decide +kernel
theorem dX9_node_98 : decode cX9_node 98 = .ok (.getfield 128, 3) := by decide +kernel
theorem dX9_node_101 : decode cX9_node 101 = .ok (.iload_n 2, 1) := by decide +kernel
theorem dX9_node_102 : decode cX9_node 102 = .ok (.iaload, 1) := by decide +kernel
theorem dX9_node_103 : decode cX9_node 103 = .ok (.ireturn, 1) := by decide +kernel
theorem dX9_node_104 : decode cX9_node 104 = .ok (.aload 4, 2) := by decide +kernel
theorem dX9_node_106 : decode cX9_node 106 = .ok (.getfield 131, 3) := by decide +kernel
theorem dX9_node_109 : decode cX9_node 109 = .ok (.iload_n 2, 1) := by decide +kernel
theorem dX9_node_110 : decode cX9_node 110 = .ok (.iaload, 1) := by decide +kernel
theorem dX9_node_111 : decode cX9_node 111 = .ok (.ireturn, 1) := by decide +kernel
theorem dX9_node_112 : decode cX9_node 112 = .ok (.bipush (-2), 2) := by decide +kernel
theorem dX9_node_114 : decode cX9_node 114 = .ok (.ireturn, 1) := by decide +kernel
theorem dX9_sign_0 : decode cX9_sign 0 = .ok (.aload_n 0, 1) := by decide +kernel
theorem dX9_sign_1 : decode cX9_sign 1 = .ok (.iload_n 1, 1) := by decide +kernel
theorem dX9_sign_2 : decode cX9_sign 2 = .ok (.invokevirtual 134, 3) := by decide +kernel
theorem dX9_sign_5 : decode cX9_sign 5 = .ok (.astore_n 3, 1) := by decide +kernel
theorem dX9_sign_6 : decode cX9_sign 6 = .ok (.aload_n 3, 1) := by decide +kernel
theorem dX9_sign_7 : decode cX9_sign 7 = .ok (.ifnonnull 5, 3) := by decide +kernel
theorem dX9_sign_10 : decode cX9_sign 10 = .ok (.iconst (-1), 1) := by decide +kernel
theorem dX9_sign_11 : decode cX9_sign 11 = .ok (.ireturn, 1) := by decide +kernel
theorem dX9_sign_12 : decode cX9_sign 12 = .ok (.aload_n 3, 1) := by decide +kernel
theorem dX9_sign_13 : decode cX9_sign 13 = .ok (.aload_n 0, 1) := by decide +kernel
theorem dX9_sign_14 : decode cX9_sign 14 = .ok (.getfield 27, 3) := by decide +kernel
theorem dX9_sign_17 : decode cX9_sign 17 = .ok (.invokevirtual 137, 3) := by decide +kernel
theorem dX9_sign_20 : decode cX9_sign 20 = .ok (.istore 4, 2) := by decide +kernel
theorem dX9_sign_22 : decode cX9_sign 22 = .ok (.iload_n 2, 1) := by decide +kernel
theorem dX9_sign_23 : decode cX9_sign 23 = .ok (.iconst (-1), 1) := by decide +kernel
theorem dX9_sign_24 : decode cX9_sign 24 = .ok (.if_icmp .ne 6, 3) := by decide +kernel
theorem dX9_sign_27 : decode cX9_sign 27 = .ok (.iload 4, 2) := by decide +kernel
theorem dX9_sign_29 : decode cX9_sign 29 = .ok (.ireturn, 1) := by decide +kernel
theorem dX9_sign_30 : decode cX9_sign 30 = .ok (.iload_n 2, 1) := by decide +kernel
theorem dX9_sign_31 : decode cX9_sign 31 = .ok (.ifCond .lt 27, 3) := by decide +kernel
theorem dX9_sign_34 : decode cX9_sign 34 = .ok (.iload_n 2, 1) := by decide +kernel
theorem dX9_sign_35 : decode cX9_sign 35 = .ok (.iload 4, 2) := by decide +kernel
theorem dX9_sign_37 : decode cX9_sign 37 = .ok (.if_icmp .ge 21, 3) := by decide +kernel
theorem dX9_sign_40 : decode cX9_sign 40 = .ok (.iload_n 2, 1) := by decide +kernel
theorem dX9_sign_41 : decode cX9_sign 41 = .ok (.aload_n 0, 1) := by decide +kernel
theorem dX9_sign_42 : decode cX9_sign 42 = .ok (.getfield 27, 3) := by decide +kernel
theorem dX9_sign_45 : decode cX9_sign 45 = .ok (.arraylength, 1) := by decide +kernel
theorem dX9_sign_46 : decode cX9_sign 46 = .ok (.if_icmp .ge 12, 3) := by decide +kernel
theorem dX9_sign_49 : decode cX9_sign 49 = .ok (.aload_n 0, 1) := by decide +kernel
theorem dX9_sign_50 : decode cX9_sign 50 = .ok (.getfield 27, 3) := by decide +kernel
theorem dX9_sign_53 : decode cX9_sign 53 = .ok (.iload_n 2, 1) := by decide +kernel
theorem dX9_sign_54 : decode cX9_sign 54 = .ok (.iaload, 1) := by decide +kernel
theorem dX9_sign_55 : decode cX9_sign 55 = .ok (.goto 5, 3) := by decide +kernel
theorem dX9_sign_58 : decode cX9_sign 58 = .ok (.bipush (-6), 2) := by decide +kernel
theorem dX9_sign_60 : decode cX9_sign 60 = .ok (.ireturn, 1) := by decide +kernel
theorem dX9_take_0 : decode cX9_take 0 = .ok (.aload_n 0, 1) := by decide +kernel
theorem dX9_take_1 : decode cX9_take 1 = .ok (.iload_n 1, 1) := by decide +kernel
theorem dX9_take_2 : decode cX9_take 2 = .ok (.invokevirtual 98, 3) := by decide +kernel
theorem dX9_take_5 : decode cX9_take 5 = .ok (.astore 4, 2) := by decide +kernel
theorem dX9_take_7 : decode cX9_take 7 = .ok (.aload 4, 2) := by decide +kernel
theorem dX9_take_9 : decode cX9_take 9 = .ok (.ifnull 20, 3) := by decide +kernel
theorem dX9_take_12 : decode cX9_take 12 = .ok (.aload 4, 2) := by decide +kernel
theorem dX9_take_14 : decode cX9_take 14 = .ok (.iload_n 2, 1) := by decide +kernel
theorem dX9_take_15 : decode cX9_take 15 = .ok (.invokevirtual 113, 3) := by decide +kernel
theorem dX9_take_18 : decode cX9_take 18 = .ok (.ifCond .eq 11, 3) := by decide +kernel
theorem dX9_take_21 : decode cX9_take 21 = .ok (.aload_n 0, 1) := by decide +kernel
theorem dX9_take_22 : decode cX9_take 22 = .ok (.iload_n 3, 1) := by decide +kernel
theorem dX9_take_23 : decode cX9_take 23 = .ok (.invokevirtual 98, 3) := by decide +kernel
theorem dX9_take_26 : decode cX9_take 26 = .ok (.ifnonnull 5, 3) := by decide +kernel
theorem dX9_take_29 : decode cX9_take 29 = .ok (.iconst (-1), 1) := by decide +kernel
theorem dX9_take_30 : decode cX9_take 30 = .ok (.ireturn, 1) := by decide +kernel
theorem dX9_take_31 : decode cX9_take 31 = .ok (.aload_n 0, 1) := by decide +kernel
theorem dX9_take_32 : decode cX9_take 32 = .ok (.getfield 23, 3) := by decide +kernel
theorem dX9_take_35 : decode cX9_take 35 = .ok (.aload 4, 2) := by decide +kernel
theorem dX9_take_37 : decode cX9_take 37 = .ok (.iload_n 2, 1) := by decide +kernel
theorem dX9_take_38 : decode cX9_take 38 = .ok (.invokevirtual 141, 3) := by decide +kernel
theorem dX9_take_41 : decode cX9_take 41 = .ok (.aload_n 0, 1) := by decide +kernel
theorem dX9_take_42 : decode cX9_take 42 = .ok (.iload_n 3, 1) := by decide +kernel
theorem dX9_take_43 : decode cX9_take 43 = .ok (.aload_n 0, 1) := by decide +kernel
theorem dX9_take_44 : decode cX9_take 44 = .ok (.getfield 23, 3) := by decide +kernel
theorem dX9_take_47 : decode cX9_take 47 = .ok (.invokevirtual 109, 3) := by decide +kernel
theorem dX9_take_50 : decode cX9_take 50 = .ok (.ireturn, 1) := by decide +kernel
theorem dX9_alike_0 : decode cX9_alike 0 = .ok (.aload_n 0, 1) := by decide +kernel
theorem dX9_alike_1 : decode cX9_alike 1 = .ok (.iload_n 1, 1) := by decide +kernel
theorem dX9_alike_2 : decode cX9_alike 2 = .ok (.invokevirtual 98, 3) := by decide +kernel
theorem dX9_alike_5 : decode cX9_alike 5 = .ok (.astore 5, 2) := by decide +kernel
theorem dX9_alike_7 : decode cX9_alike 7 = .ok (.aload_n 0, 1) := by decide +kernel
theorem dX9_alike_8 : decode cX9_alike 8 = .ok (.iload_n 3, 1) := by decide +kernel
theorem dX9_alike_9 : decode cX9_alike 9 = .ok (.invokevirtual 98, 3) := by decide +kernel
theorem dX9_alike_12 : decode cX9_alike 12 = .ok (.astore 6, 2) := by decide +kernel
theorem dX9_alike_14 : decode cX9_alike 14 = .ok (.aload 5, 2) := by decide +kernel
theorem dX9_alike_16 : decode cX9_alike 16 = .ok (.ifnull 27, 3) := by decide +kernel
theorem dX9_alike_19 : decode cX9_alike 19 = .ok (.aload 6, 2) := by decide +kernel
theorem dX9_alike_21 : decode cX9_alike 21 = .ok (.ifnull 22, 3) := by decide +kernel
theorem dX9_alike_24 : decode cX9_alike 24 = .ok (.aload 5, 2) := by decide +kernel
theorem dX9_alike_26 : decode cX9_alike 26 = .ok (.iload_n 2, 1) := by decide +kernel
theorem dX9_alike_27 : decode cX9_alike 27 = .ok (.invokevirtual 113, 3) := by decide +kernel
theorem dX9_alike_30 : decode cX9_alike 30 = .ok (.ifCond .eq 13, 3) := by decide +kernel
theorem dX9_alike_33 : decode cX9_alike 33 = .ok (.aload 6, 2) := by decide +kernel
theorem dX9_alike_35 : decode cX9_alike 35 = .ok (.iload 4, 2) := by decide +kernel
theorem dX9_alike_37 : decode cX9_alike 37 = .ok (.invokevirtual 113, 3) := by decide +kernel
theorem dX9_alike_40 : decode cX9_alike 40 = .ok (.ifCond .ne 5, 3) := by decide +kernel
theorem dX9_alike_43 : decode cX9_alike 43 = .ok (.iconst (-1), 1) := by decide +kernel
theorem dX9_alike_44 : decode cX9_alike 44 = .ok (.ireturn, 1) := by decide +kernel
theorem dX9_alike_45 : decode cX9_alike 45 = .ok (.aload 5, 2) := by decide +kernel
theorem dX9_alike_47 : decode cX9_alike 47 = .ok (.iload_n 2, 1) := by decide +kernel
theorem dX9_alike_48 : decode cX9_alike 48 = .ok (.aload 6, 2) := by decide +kernel
theorem dX9_alike_50 : decode cX9_alike 50 = .ok (.iload 4, 2) := by decide +kernel
theorem dX9_alike_52 : decode cX9_alike 52 = .ok (.invokevirtual 145, 3) := by decide +kernel
theorem dX9_alike_55 : decode cX9_alike 55 = .ok (.ifCond .eq 7, 3) := by decide +kernel
theorem dX9_alike_58 : decode cX9_alike 58 = .ok (.iconst 1, 1) := by decide +kernel
theorem dX9_alike_59 : decode cX9_alike 59 = .ok (.goto 4, 3) := by decide +kernel
theorem dX9_alike_62 : decode cX9_alike 62 = .ok (.iconst 0, 1) := by decide +kernel
theorem dX9_alike_63 : decode cX9_alike 63 = .ok (.ireturn, 1) := by decide +kernel
theorem dX9_price_0 : decode cX9_price 0 = .ok (.iload_n 1, 1) := by decide +kernel
theorem dX9_price_1 : decode cX9_price 1 = .ok (.ifCond .lt 25, 3) := by decide +kernel
theorem dX9_price_4 : decode cX9_price 4 = .ok (.iload_n 1, 1) := by decide +kernel
theorem dX9_price_5 : decode cX9_price 5 = .ok (.aload_n 0, 1) := by decide +kernel
theorem dX9_price_6 : decode cX9_price 6 = .ok (.getfield 34, 3) := by decide +kernel
theorem dX9_price_9 : decode cX9_price 9 = .ok (.getfield 149, 3) := by decide +kernel
theorem dX9_price_12 : decode cX9_price 12 = .ok (.arraylength, 1) := by decide +kernel
theorem dX9_price_13 : decode cX9_price 13 = .ok (.if_icmp .ge 13, 3) := by decide +kernel
theorem dX9_price_16 : decode cX9_price 16 = .ok (.iload_n 2, 1) := by decide +kernel
theorem dX9_price_17 : decode cX9_price 17 = .ok (.ifCond .lt 9, 3) := by decide +kernel
theorem dX9_price_20 : decode cX9_price 20 = .ok (.iload_n 2, 1) := by decide +kernel
theorem dX9_price_21 : decode cX9_price 21 = .ok (.bipush 9, 2) := by decide +kernel
theorem dX9_price_23 : decode cX9_price 23 = .ok (.if_icmp .le 6, 3) := by decide +kernel
theorem dX9_price_26 : decode cX9_price 26 = .ok (.bipush (-2), 2) := by decide +kernel
theorem dX9_price_28 : decode cX9_price 28 = .ok (.ireturn, 1) := by decide +kernel
theorem dX9_price_29 : decode cX9_price 29 = .ok (.aload_n 0, 1) := by decide +kernel
theorem dX9_price_30 : decode cX9_price 30 = .ok (.getfield 34, 3) := by decide +kernel
theorem dX9_price_33 : decode cX9_price 33 = .ok (.getfield 149, 3) := by decide +kernel
theorem dX9_price_36 : decode cX9_price 36 = .ok (.iload_n 1, 1) := by decide +kernel
theorem dX9_price_37 : decode cX9_price 37 = .ok (.iaload, 1) := by decide +kernel
theorem dX9_price_38 : decode cX9_price 38 = .ok (.istore_n 3, 1) := by decide +kernel
theorem dX9_price_39 : decode cX9_price 39 = .ok (.aload_n 0, 1) := by decide +kernel
theorem dX9_price_40 : decode cX9_price 40 = .ok (.getfield 34, 3) := by decide +kernel
theorem dX9_price_43 : decode cX9_price 43 = .ok (.getfield 149, 3) := by decide +kernel
theorem dX9_price_46 : decode cX9_price 46 = .ok (.iload_n 1, 1) := by decide +kernel
theorem dX9_price_47 : decode cX9_price 47 = .ok (.iload_n 2, 1) := by decide +kernel
theorem dX9_price_48 : decode cX9_price 48 = .ok (.iastore, 1) := by decide +kernel
theorem dX9_price_49 : decode cX9_price 49 = .ok (.aload_n 0, 1) := by decide +kernel
theorem dX9_price_50 : decode cX9_price 50 = .ok (.invokevirtual 152, 3) := by decide +kernel
theorem dX9_price_53 : decode cX9_price 53 = .ok (.iload_n 3, 1) := by decide +kernel
theorem dX9_price_54 : decode cX9_price 54 = .ok (.ireturn, 1) := by decide +kernel
theorem dX9_least_0 : decode cX9_least 0 = .ok (.aload_n 0, 1) := by decide +kernel
theorem dX9_least_1 : decode cX9_least 1 = .ok (.iload_n 1, 1) := by decide +kernel
theorem dX9_least_2 : decode cX9_least 2 = .ok (.iload_n 2, 1) := by decide +kernel
theorem dX9_least_3 : decode cX9_least 3 = .ok (.invokevirtual 155, 3) := by decide +kernel
theorem dX9_least_6 : decode cX9_least 6 = .ok (.ifCond .eq 13, 3) := by decide +kernel
theorem dX9_least_9 : decode cX9_least 9 = .ok (.aload_n 0, 1) := by decide +kernel
theorem dX9_least_10 : decode cX9_least 10 = .ok (.getfield 34, 3) := by decide +kernel
theorem dX9_least_13 : decode cX9_least 13 = .ok (.getfield 159, 3) := by decide +kernel
theorem dX9_least_16 : decode cX9_least 16 = .ok (.goto 4, 3) := by decide +kernel
theorem dX9_least_19 : decode cX9_least 19 = .ok (.iconst (-1), 1) := by decide +kernel
theorem dX9_least_20 : decode cX9_least 20 = .ok (.ireturn, 1) := by decide +kernel
theorem dX9_led_0 : decode cX9_led 0 = .ok (.aload_n 0, 1) := by decide +kernel
theorem dX9_led_1 : decode cX9_led 1 = .ok (.iload_n 1, 1) := by decide +kernel
theorem dX9_led_2 : decode cX9_led 2 = .ok (.invokevirtual 134, 3) := by decide +kernel
theorem dX9_led_5 : decode cX9_led 5 = .ok (.astore 4, 2) := by decide +kernel
theorem dX9_led_7 : decode cX9_led 7 = .ok (.aload 4, 2) := by decide +kernel
theorem dX9_led_9 : decode cX9_led 9 = .ok (.ifnull 21, 3) := by decide +kernel
theorem dX9_led_12 : decode cX9_led 12 = .ok (.aload 4, 2) := by decide +kernel
theorem dX9_led_14 : decode cX9_led 14 = .ok (.iload_n 3, 1) := by decide +kernel
theorem dX9_led_15 : decode cX9_led 15 = .ok (.invokevirtual 113, 3) := by decide +kernel
theorem dX9_led_18 : decode cX9_led 18 = .ok (.ifCond .eq 12, 3) := by decide +kernel
theorem dX9_led_21 : decode cX9_led 21 = .ok (.aload_n 0, 1) := by decide +kernel
theorem dX9_led_22 : decode cX9_led 22 = .ok (.iload_n 1, 1) := by decide +kernel
theorem dX9_led_23 : decode cX9_led 23 = .ok (.iload_n 2, 1) := by decide +kernel
theorem dX9_led_24 : decode cX9_led 24 = .ok (.invokevirtual 155, 3) := by decide +kernel
theorem dX9_led_27 : decode cX9_led 27 = .ok (.ifCond .ne 5, 3) := by decide +kernel
theorem dX9_led_30 : decode cX9_led 30 = .ok (.iconst (-1), 1) := by decide +kernel
theorem dX9_led_31 : decode cX9_led 31 = .ok (.ireturn, 1) := by decide +kernel
theorem dX9_led_32 : decode cX9_led 32 = .ok (.aload_n 0, 1) := by decide +kernel
theorem dX9_led_33 : decode cX9_led 33 = .ok (.getfield 34, 3) := by decide +kernel
theorem dX9_led_36 : decode cX9_led 36 = .ok (.getfield 162, 3) := by decide +kernel
theorem dX9_led_39 : decode cX9_led 39 = .ok (.iload_n 3, 1) := by decide +kernel
theorem dX9_led_40 : decode cX9_led 40 = .ok (.iaload, 1) := by decide +kernel
theorem dX9_led_41 : decode cX9_led 41 = .ok (.ireturn, 1) := by decide +kernel
theorem dX9_edits_0 : decode cX9_edits 0 = .ok (.aload_n 0, 1) := by decide +kernel
theorem dX9_edits_1 : decode cX9_edits 1 = .ok (.iload_n 1, 1) := by decide +kernel
theorem dX9_edits_2 : decode cX9_edits 2 = .ok (.invokevirtual 134, 3) := by decide +kernel
theorem dX9_edits_5 : decode cX9_edits 5 = .ok (.astore 4, 2) := by decide +kernel
theorem dX9_edits_7 : decode cX9_edits 7 = .ok (.aload_n 0, 1) := by decide +kernel
theorem dX9_edits_8 : decode cX9_edits 8 = .ok (.iload_n 2, 1) := by decide +kernel
theorem dX9_edits_9 : decode cX9_edits 9 = .ok (.invokevirtual 134, 3) := by decide +kernel
theorem dX9_edits_12 : decode cX9_edits 12 = .ok (.astore 5, 2) := by decide +kernel
theorem dX9_edits_14 : decode cX9_edits 14 = .ok (.aload 4, 2) := by decide +kernel
theorem dX9_edits_16 : decode cX9_edits 16 = .ok (.ifnull 17, 3) := by decide +kernel
theorem dX9_edits_19 : decode cX9_edits 19 = .ok (.aload 5, 2) := by decide +kernel
theorem dX9_edits_21 : decode cX9_edits 21 = .ok (.ifnull 12, 3) := by decide +kernel
theorem dX9_edits_24 : decode cX9_edits 24 = .ok (.aload_n 0, 1) := by decide +kernel
theorem dX9_edits_25 : decode cX9_edits 25 = .ok (.iload_n 1, 1) := by decide +kernel
theorem dX9_edits_26 : decode cX9_edits 26 = .ok (.iload_n 2, 1) := by decide +kernel
theorem dX9_edits_27 : decode cX9_edits 27 = .ok (.invokevirtual 155, 3) := by decide +kernel
theorem dX9_edits_30 : decode cX9_edits 30 = .ok (.ifCond .ne 5, 3) := by decide +kernel
theorem dX9_edits_33 : decode cX9_edits 33 = .ok (.iconst (-1), 1) := by decide +kernel
theorem dX9_edits_34 : decode cX9_edits 34 = .ok (.ireturn, 1) := by decide +kernel
theorem dX9_edits_35 : decode cX9_edits 35 = .ok (.iload_n 3, 1) := by decide +kernel
theorem dX9_edits_36 : decode cX9_edits 36 = .ok (.tableswitch 100 0 5 #[40, 48, 56, 70, 84, 92], 40) := by decide +kernel
theorem dX9_edits_76 : decode cX9_edits 76 = .ok (.aload_n 0, 1) := by decide +kernel
theorem dX9_edits_77 : decode cX9_edits 77 = .ok (.getfield 34, 3) := by decide +kernel
theorem dX9_edits_80 : decode cX9_edits 80 = .ok (.getfield 165, 3) := by decide +kernel
theorem dX9_edits_83 : decode cX9_edits 83 = .ok (.ireturn, 1) := by decide +kernel
theorem dX9_edits_84 : decode cX9_edits 84 = .ok (.aload_n 0, 1) := by decide +kernel
theorem dX9_edits_85 : decode cX9_edits 85 = .ok (.getfield 34, 3) := by decide +kernel
theorem dX9_edits_88 : decode cX9_edits 88 = .ok (.getfield 168, 3) := by decide +kernel
theorem dX9_edits_91 : decode cX9_edits 91 = .ok (.ireturn, 1) := by decide +kernel
theorem dX9_edits_92 : decode cX9_edits 92 = .ok (.aload 4, 2) := by decide +kernel
theorem dX9_edits_94 : decode cX9_edits 94 = .ok (.getfield 171, 3) := by decide +kernel
theorem dX9_edits_97 : decode cX9_edits 97 = .ok (.aload_n 0, 1) := by decide +kernel
theorem dX9_edits_98 : decode cX9_edits 98 = .ok (.getfield 34, 3) := by decide +kernel
theorem dX9_edits_101 : decode cX9_edits 101 = .ok (.getfield 165, 3) := by decide +kernel
theorem dX9_edits_104 : decode cX9_edits 104 = .ok (.isub, 1) := by decide +kernel
theorem dX9_edits_105 : decode cX9_edits 105 = .ok (.ireturn, 1) := by decide +kernel
theorem dX9_edits_106 : decode cX9_edits 106 = .ok (.aload 5, 2) := by decide +kernel
theorem dX9_edits_108 : decode cX9_edits 108 = .ok (.getfield 171, 3) := by decide +kernel
theorem dX9_edits_111 : decode cX9_edits 111 = .ok (.aload_n 0, 1) := by decide +kernel
theorem dX9_edits_112 : decode cX9_edits 112 = .ok (.getfield 34, 3) := by decide +kernel
theorem dX9_edits_115 : decode cX9_edits 115 = .ok (.getfield 165, 3) := by decide +kernel
theorem dX9_edits_118 : decode cX9_edits 118 = .ok (.isub, 1) := by decide +kernel
theorem dX9_edits_119 : decode cX9_edits 119 = .ok (.ireturn, 1) := by decide +kernel
theorem dX9_edits_120 : decode cX9_edits 120 = .ok (.aload_n 0, 1) := by decide +kernel
theorem dX9_edits_121 : decode cX9_edits 121 = .ok (.getfield 41, 3) := by decide +kernel
theorem dX9_edits_124 : decode cX9_edits 124 = .ok (.getfield 172, 3) := by decide +kernel
theorem dX9_edits_127 : decode cX9_edits 127 = .ok (.ireturn, 1) := by decide +kernel
theorem dX9_edits_128 : decode cX9_edits 128 = .ok (.aload_n 0, 1) := by decide +kernel
theorem dX9_edits_129 : decode cX9_edits 129 = .ok (.getfield 41, 3) := by decide +kernel
theorem dX9_edits_132 : decode cX9_edits 132 = .ok (.getfield 175, 3) := by decide +kernel
theorem dX9_edits_135 : decode cX9_edits 135 = .ok (.ireturn, 1) := by decide +kernel
theorem dX9_edits_136 : decode cX9_edits 136 = .ok (.bipush (-2), 2) := by decide +kernel
theorem dX9_edits_138 : decode cX9_edits 138 = .ok (.ireturn, 1) := by decide +kernel
theorem dX9_moved_0 : decode cX9_moved 0 = .ok (.aload_n 0, 1) := by decide +kernel
theorem dX9_moved_1 : decode cX9_moved 1 = .ok (.iload_n 1, 1) := by decide +kernel
theorem dX9_moved_2 : decode cX9_moved 2 = .ok (.iload_n 2, 1) := by decide +kernel
theorem dX9_moved_3 : decode cX9_moved 3 = .ok (.invokevirtual 155, 3) := by decide +kernel
theorem dX9_moved_6 : decode cX9_moved 6 = .ok (.ifCond .ne 5, 3) := by decide +kernel
theorem dX9_moved_9 : decode cX9_moved 9 = .ok (.iconst (-1), 1) := by decide +kernel
theorem dX9_moved_10 : decode cX9_moved 10 = .ok (.ireturn, 1) := by decide +kernel
theorem dX9_moved_11 : decode cX9_moved 11 = .ok (.aload_n 0, 1) := by decide +kernel
theorem dX9_moved_12 : decode cX9_moved 12 = .ok (.getfield 41, 3) := by decide +kernel
theorem dX9_moved_15 : decode cX9_moved 15 = .ok (.iload_n 3, 1) := by decide +kernel
theorem dX9_moved_16 : decode cX9_moved 16 = .ok (.invokevirtual 178, 3) := by decide +kernel
theorem dX9_moved_19 : decode cX9_moved 19 = .ok (.ireturn, 1) := by decide +kernel
theorem dX9_common_0 : decode cX9_common 0 = .ok (.aload_n 0, 1) := by decide +kernel
theorem dX9_common_1 : decode cX9_common 1 = .ok (.iload_n 1, 1) := by decide +kernel
theorem dX9_common_2 : decode cX9_common 2 = .ok (.invokevirtual 98, 3) := by decide +kernel
theorem dX9_common_5 : decode cX9_common 5 = .ok (.astore 6, 2) := by decide +kernel
theorem dX9_common_7 : decode cX9_common 7 = .ok (.aload_n 0, 1) := by decide +kernel
theorem dX9_common_8 : decode cX9_common 8 = .ok (.iload_n 3, 1) := by decide +kernel
theorem dX9_common_9 : decode cX9_common 9 = .ok (.invokevirtual 98, 3) := by decide +kernel
theorem dX9_common_12 : decode cX9_common 12 = .ok (.astore 7, 2) := by decide +kernel
theorem dX9_common_14 : decode cX9_common 14 = .ok (.aload 6, 2) := by decide +kernel
theorem dX9_common_16 : decode cX9_common 16 = .ok (.ifnull 36, 3) := by decide +kernel
theorem dX9_common_19 : decode cX9_common 19 = .ok (.aload 7, 2) := by decide +kernel
theorem dX9_common_21 : decode cX9_common 21 = .ok (.ifnull 31, 3) := by decide +kernel
theorem dX9_common_24 : decode cX9_common 24 = .ok (.aload_n 0, 1) := by decide +kernel
theorem dX9_common_25 : decode cX9_common 25 = .ok (.iload 5, 2) := by decide +kernel
theorem dX9_common_27 : decode cX9_common 27 = .ok (.invokevirtual 98, 3) := by decide +kernel
theorem dX9_common_30 : decode cX9_common 30 = .ok (.ifnull 22, 3) := by decide +kernel
theorem dX9_common_33 : decode cX9_common 33 = .ok (.aload 6, 2) := by decide +kernel
theorem dX9_common_35 : decode cX9_common 35 = .ok (.iload_n 2, 1) := by decide +kernel
theorem dX9_common_36 : decode cX9_common 36 = .ok (.invokevirtual 113, 3) := by decide +kernel
theorem dX9_common_39 : decode cX9_common 39 = .ok (.ifCond .eq 13, 3) := by decide +kernel
theorem dX9_common_42 : decode cX9_common 42 = .ok (.aload 7, 2) := by decide +kernel
theorem dX9_common_44 : decode cX9_common 44 = .ok (.iload 4, 2) := by decide +kernel
theorem dX9_common_46 : decode cX9_common 46 = .ok (.invokevirtual 113, 3) := by decide +kernel
theorem dX9_common_49 : decode cX9_common 49 = .ok (.ifCond .ne 5, 3) := by decide +kernel
theorem dX9_common_52 : decode cX9_common 52 = .ok (.iconst (-1), 1) := by decide +kernel
theorem dX9_common_53 : decode cX9_common 53 = .ok (.ireturn, 1) := by decide +kernel
theorem dX9_common_54 : decode cX9_common 54 = .ok (.aload 6, 2) := by decide +kernel
theorem dX9_common_56 : decode cX9_common 56 = .ok (.invokevirtual 182, 3) := by decide +kernel
theorem dX9_common_59 : decode cX9_common 59 = .ok (.ifCond .gt 11, 3) := by decide +kernel
theorem dX9_common_62 : decode cX9_common 62 = .ok (.aload 7, 2) := by decide +kernel
theorem dX9_common_64 : decode cX9_common 64 = .ok (.invokevirtual 182, 3) := by decide +kernel
theorem dX9_common_67 : decode cX9_common 67 = .ok (.ifCond .le 6, 3) := by decide +kernel
theorem dX9_common_70 : decode cX9_common 70 = .ok (.bipush (-3), 2) := by decide +kernel
theorem dX9_common_72 : decode cX9_common 72 = .ok (.ireturn, 1) := by decide +kernel
theorem dX9_common_73 : decode cX9_common 73 = .ok (.aload_n 0, 1) := by decide +kernel
theorem dX9_common_74 : decode cX9_common 74 = .ok (.getfield 48, 3) := by decide +kernel
theorem dX9_common_77 : decode cX9_common 77 = .ok (.aload 6, 2) := by decide +kernel
theorem dX9_common_79 : decode cX9_common 79 = .ok (.iload_n 2, 1) := by decide +kernel
theorem dX9_common_80 : decode cX9_common 80 = .ok (.aload 7, 2) := by decide +kernel
theorem dX9_common_82 : decode cX9_common 82 = .ok (.iload 4, 2) := by decide +kernel
theorem dX9_common_84 : decode cX9_common 84 = .ok (.aload_n 0, 1) := by decide +kernel
theorem dX9_common_85 : decode cX9_common 85 = .ok (.getfield 23, 3) := by decide +kernel
theorem dX9_common_88 : decode cX9_common 88 = .ok (.invokevirtual 185, 3) := by decide +kernel
theorem dX9_common_91 : decode cX9_common 91 = .ok (.ifCond .ne 6, 3) := by decide +kernel
theorem dX9_common_94 : decode cX9_common 94 = .ok (.bipush (-5), 2) := by decide +kernel
theorem dX9_common_96 : decode cX9_common 96 = .ok (.ireturn, 1) := by decide +kernel
theorem dX9_common_97 : decode cX9_common 97 = .ok (.aload_n 0, 1) := by decide +kernel
theorem dX9_common_98 : decode cX9_common 98 = .ok (.iload 5, 2) := by decide +kernel
theorem dX9_common_100 : decode cX9_common 100 = .ok (.aload_n 0, 1) := by decide +kernel
theorem dX9_common_101 : decode cX9_common 101 = .ok (.getfield 23, 3) := by decide +kernel
theorem dX9_common_104 : decode cX9_common 104 = .ok (.invokevirtual 109, 3) := by decide +kernel
theorem dX9_common_107 : decode cX9_common 107 = .ok (.pop, 1) := by decide +kernel
theorem dX9_common_108 : decode cX9_common 108 = .ok (.aload_n 0, 1) := by decide +kernel
theorem dX9_common_109 : decode cX9_common 109 = .ok (.getfield 48, 3) := by decide +kernel
theorem dX9_common_112 : decode cX9_common 112 = .ok (.getfield 189, 3) := by decide +kernel
theorem dX9_common_115 : decode cX9_common 115 = .ok (.ireturn, 1) := by decide +kernel
theorem dX9_twice_0 : decode cX9_twice 0 = .ok (.aload_n 0, 1) := by decide +kernel
theorem dX9_twice_1 : decode cX9_twice 1 = .ok (.iload_n 1, 1) := by decide +kernel
theorem dX9_twice_2 : decode cX9_twice 2 = .ok (.invokevirtual 134, 3) := by decide +kernel
theorem dX9_twice_5 : decode cX9_twice 5 = .ok (.astore_n 3, 1) := by decide +kernel
theorem dX9_twice_6 : decode cX9_twice 6 = .ok (.aload_n 3, 1) := by decide +kernel
theorem dX9_twice_7 : decode cX9_twice 7 = .ok (.ifnonnull 5, 3) := by decide +kernel
theorem dX9_twice_10 : decode cX9_twice 10 = .ok (.iconst (-1), 1) := by decide +kernel
theorem dX9_twice_11 : decode cX9_twice 11 = .ok (.ireturn, 1) := by decide +kernel
theorem dX9_twice_12 : decode cX9_twice 12 = .ok (.iload_n 2, 1) := by decide +kernel
theorem dX9_twice_13 : decode cX9_twice 13 = .ok (.ifCond .lt 8, 3) := by decide +kernel
theorem dX9_twice_16 : decode cX9_twice 16 = .ok (.iload_n 2, 1) := by decide +kernel
theorem dX9_twice_17 : decode cX9_twice 17 = .ok (.iconst 2, 1) := by decide +kernel
theorem dX9_twice_18 : decode cX9_twice 18 = .ok (.if_icmp .le 6, 3) := by decide +kernel
theorem dX9_twice_21 : decode cX9_twice 21 = .ok (.bipush (-2), 2) := by decide +kernel
theorem dX9_twice_23 : decode cX9_twice 23 = .ok (.ireturn, 1) := by decide +kernel
theorem dX9_twice_24 : decode cX9_twice 24 = .ok (.bipush (-6), 2) := by decide +kernel
theorem dX9_twice_26 : decode cX9_twice 26 = .ok (.istore 4, 2) := by decide +kernel
theorem dX9_twice_28 : decode cX9_twice 28 = .ok (.bipush (-6), 2) := by decide +kernel
theorem dX9_twice_30 : decode cX9_twice 30 = .ok (.istore 5, 2) := by decide +kernel
theorem dX9_twice_32 : decode cX9_twice 32 = .ok (.bipush (-6), 2) := by decide +kernel
theorem dX9_twice_34 : decode cX9_twice 34 = .ok (.istore 6, 2) := by decide +kernel
theorem dX9_twice_36 : decode cX9_twice 36 = .ok (.iconst 0, 1) := by decide +kernel
theorem dX9_twice_37 : decode cX9_twice 37 = .ok (.istore 7, 2) := by decide +kernel
theorem dX9_twice_39 : decode cX9_twice 39 = .ok (.iload 7, 2) := by decide +kernel
theorem dX9_twice_41 : decode cX9_twice 41 = .ok (.aload_n 3, 1) := by decide +kernel
theorem dX9_twice_42 : decode cX9_twice 42 = .ok (.getfield 171, 3) := by decide +kernel
theorem dX9_twice_45 : decode cX9_twice 45 = .ok (.if_icmp .ge 71, 3) := by decide +kernel
theorem dX9_twice_48 : decode cX9_twice 48 = .ok (.iload 7, 2) := by decide +kernel
theorem dX9_twice_50 : decode cX9_twice 50 = .ok (.iconst 1, 1) := by decide +kernel
theorem dX9_twice_51 : decode cX9_twice 51 = .ok (.iadd, 1) := by decide +kernel
theorem dX9_twice_52 : decode cX9_twice 52 = .ok (.istore 8, 2) := by decide +kernel
theorem dX9_twice_54 : decode cX9_twice 54 = .ok (.iload 8, 2) := by decide +kernel
theorem dX9_twice_56 : decode cX9_twice 56 = .ok (.aload_n 3, 1) := by decide +kernel
theorem dX9_twice_57 : decode cX9_twice 57 = .ok (.getfield 171, 3) := by decide +kernel
theorem dX9_twice_60 : decode cX9_twice 60 = .ok (.if_icmp .ge 50, 3) := by decide +kernel
theorem dX9_twice_63 : decode cX9_twice 63 = .ok (.aload_n 3, 1) := by decide +kernel
theorem dX9_twice_64 : decode cX9_twice 64 = .ok (.getfield 128, 3) := by decide +kernel
theorem dX9_twice_67 : decode cX9_twice 67 = .ok (.iload 7, 2) := by decide +kernel
theorem dX9_twice_69 : decode cX9_twice 69 = .ok (.iaload, 1) := by decide +kernel
theorem dX9_twice_70 : decode cX9_twice 70 = .ok (.iload 6, 2) := by decide +kernel
theorem dX9_twice_72 : decode cX9_twice 72 = .ok (.if_icmp .le 32, 3) := by decide +kernel
theorem dX9_twice_75 : decode cX9_twice 75 = .ok (.aload_n 3, 1) := by decide +kernel
theorem dX9_twice_76 : decode cX9_twice 76 = .ok (.iload 7, 2) := by decide +kernel
theorem dX9_twice_78 : decode cX9_twice 78 = .ok (.aload_n 3, 1) := by decide +kernel
theorem dX9_twice_79 : decode cX9_twice 79 = .ok (.iload 8, 2) := by decide +kernel
theorem dX9_twice_81 : decode cX9_twice 81 = .ok (.invokevirtual 145, 3) := by decide +kernel
theorem dX9_twice_84 : decode cX9_twice 84 = .ok (.ifCond .eq 20, 3) := by decide +kernel
theorem dX9_twice_87 : decode cX9_twice 87 = .ok (.aload_n 3, 1) := by decide +kernel
theorem dX9_twice_88 : decode cX9_twice 88 = .ok (.getfield 128, 3) := by decide +kernel
theorem dX9_twice_91 : decode cX9_twice 91 = .ok (.iload 7, 2) := by decide +kernel
theorem dX9_twice_93 : decode cX9_twice 93 = .ok (.iaload, 1) := by decide +kernel
theorem dX9_twice_94 : decode cX9_twice 94 = .ok (.istore 6, 2) := by decide +kernel
theorem dX9_twice_96 : decode cX9_twice 96 = .ok (.iload 7, 2) := by decide +kernel
theorem dX9_twice_98 : decode cX9_twice 98 = .ok (.istore 4, 2) := by decide +kernel
theorem dX9_twice_100 : decode cX9_twice 100 = .ok (.iload 8, 2) := by decide +kernel
theorem dX9_twice_102 : decode cX9_twice 102 = .ok (.istore 5, 2) := by decide +kernel
theorem dX9_twice_104 : decode cX9_twice 104 = .ok (.iinc 8 1, 3) := by decide +kernel
theorem dX9_twice_107 : decode cX9_twice 107 = .ok (.goto (-53), 3) := by decide +kernel
theorem dX9_twice_110 : decode cX9_twice 110 = .ok (.iinc 7 1, 3) := by decide +kernel
theorem dX9_twice_113 : decode cX9_twice 113 = .ok (.goto (-74), 3) := by decide +kernel
theorem dX9_twice_116 : decode cX9_twice 116 = .ok (.iload_n 2, 1) := by decide +kernel
theorem dX9_twice_117 : decode cX9_twice 117 = .ok (.ifCond .ne 8, 3) := by decide +kernel
theorem dX9_twice_120 : decode cX9_twice 120 = .ok (.iload 6, 2) := by decide +kernel
theorem dX9_twice_122 : decode cX9_twice 122 = .ok (.goto 15, 3) := by decide +kernel
theorem dX9_twice_125 : decode cX9_twice 125 = .ok (.iload_n 2, 1) := by decide +kernel
theorem dX9_twice_126 : decode cX9_twice 126 = .ok (.iconst 1, 1) := by decide +kernel
theorem dX9_twice_127 : decode cX9_twice 127 = .ok (.if_icmp .ne 8, 3) := by decide +kernel
theorem dX9_twice_130 : decode cX9_twice 130 = .ok (.iload 4, 2) := by decide +kernel
theorem dX9_twice_132 : decode cX9_twice 132 = .ok (.goto 5, 3) := by decide +kernel
theorem dX9_twice_135 : decode cX9_twice 135 = .ok (.iload 5, 2) := by decide +kernel
theorem dX9_twice_137 : decode cX9_twice 137 = .ok (.ireturn, 1) := by decide +kernel
theorem dX9_rule_0 : decode cX9_rule 0 = .ok (.aload_n 0, 1) := by decide +kernel
theorem dX9_rule_1 : decode cX9_rule 1 = .ok (.iload_n 1, 1) := by decide +kernel
theorem dX9_rule_2 : decode cX9_rule 2 = .ok (.invokevirtual 134, 3) := by decide +kernel
theorem dX9_rule_5 : decode cX9_rule 5 = .ok (.astore_n 3, 1) := by decide +kernel
theorem dX9_rule_6 : decode cX9_rule 6 = .ok (.aload_n 0, 1) := by decide +kernel
theorem dX9_rule_7 : decode cX9_rule 7 = .ok (.iload_n 2, 1) := by decide +kernel
theorem dX9_rule_8 : decode cX9_rule 8 = .ok (.invokevirtual 134, 3) := by decide +kernel
theorem dX9_rule_11 : decode cX9_rule 11 = .ok (.astore 4, 2) := by decide +kernel
theorem dX9_rule_13 : decode cX9_rule 13 = .ok (.aload_n 3, 1) := by decide +kernel
theorem dX9_rule_14 : decode cX9_rule 14 = .ok (.ifnull 8, 3) := by decide +kernel
theorem dX9_rule_17 : decode cX9_rule 17 = .ok (.aload 4, 2) := by decide +kernel
theorem dX9_rule_19 : decode cX9_rule 19 = .ok (.ifnonnull 5, 3) := by decide +kernel
theorem dX9_rule_22 : decode cX9_rule 22 = .ok (.iconst (-1), 1) := by decide +kernel
theorem dX9_rule_23 : decode cX9_rule 23 = .ok (.ireturn, 1) := by decide +kernel
theorem dX9_rule_24 : decode cX9_rule 24 = .ok (.aload_n 0, 1) := by decide +kernel
theorem dX9_rule_25 : decode cX9_rule 25 = .ok (.getfield 55, 3) := by decide +kernel
theorem dX9_rule_28 : decode cX9_rule 28 = .ok (.getfield 192, 3) := by decide +kernel
theorem dX9_rule_31 : decode cX9_rule 31 = .ok (.bipush 6, 2) := by decide +kernel
theorem dX9_rule_33 : decode cX9_rule 33 = .ok (.if_icmp .lt 6, 3) := by decide +kernel
theorem dX9_rule_36 : decode cX9_rule 36 = .ok (.bipush (-4), 2) := by decide +kernel
theorem dX9_rule_38 : decode cX9_rule 38 = .ok (.ireturn, 1) := by decide +kernel
theorem dX9_rule_39 : decode cX9_rule 39 = .ok (.aload_n 3, 1) := by decide +kernel
theorem dX9_rule_40 : decode cX9_rule 40 = .ok (.getfield 116, 3) := by decide +kernel
theorem dX9_rule_43 : decode cX9_rule 43 = .ok (.iconst 0, 1) := by decide +kernel
theorem dX9_rule_44 : decode cX9_rule 44 = .ok (.iaload, 1) := by decide +kernel
theorem dX9_rule_45 : decode cX9_rule 45 = .ok (.invokestatic 193, 3) := by decide +kernel
theorem dX9_rule_48 : decode cX9_rule 48 = .ok (.ifCond .ne 18, 3) := by decide +kernel
theorem dX9_rule_51 : decode cX9_rule 51 = .ok (.aload 4, 2) := by decide +kernel
theorem dX9_rule_53 : decode cX9_rule 53 = .ok (.invokevirtual 196, 3) := by decide +kernel
theorem dX9_rule_56 : decode cX9_rule 56 = .ok (.aload_n 3, 1) := by decide +kernel
theorem dX9_rule_57 : decode cX9_rule 57 = .ok (.invokevirtual 196, 3) := by decide +kernel
theorem dX9_rule_60 : decode cX9_rule 60 = .ok (.iconst (-1), 1) := by decide +kernel
theorem dX9_rule_61 : decode cX9_rule 61 = .ok (.ixor, 1) := by decide +kernel
theorem dX9_rule_62 : decode cX9_rule 62 = .ok (.iand, 1) := by decide +kernel
theorem dX9_rule_63 : decode cX9_rule 63 = .ok (.ifCond .eq 6, 3) := by decide +kernel
theorem dX9_rule_66 : decode cX9_rule 66 = .ok (.bipush (-5), 2) := by decide +kernel
theorem dX9_rule_68 : decode cX9_rule 68 = .ok (.ireturn, 1) := by decide +kernel
theorem dX9_rule_69 : decode cX9_rule 69 = .ok (.aload_n 0, 1) := by decide +kernel
theorem dX9_rule_70 : decode cX9_rule 70 = .ok (.getfield 73, 3) := by decide +kernel
theorem dX9_rule_73 : decode cX9_rule 73 = .ok (.iconst 0, 1) := by decide +kernel
theorem dX9_rule_74 : decode cX9_rule 74 = .ok (.putfield 199, 3) := by decide +kernel
theorem dX9_rule_77 : decode cX9_rule 77 = .ok (.aload_n 0, 1) := by decide +kernel
theorem dX9_rule_78 : decode cX9_rule 78 = .ok (.getfield 55, 3) := by decide +kernel
theorem dX9_rule_81 : decode cX9_rule 81 = .ok (.aload_n 3, 1) := by decide +kernel
theorem dX9_rule_82 : decode cX9_rule 82 = .ok (.aload 4, 2) := by decide +kernel
theorem dX9_rule_84 : decode cX9_rule 84 = .ok (.invokevirtual 203, 3) := by decide +kernel
theorem dX9_rule_87 : decode cX9_rule 87 = .ok (.ireturn, 1) := by decide +kernel
theorem dX9_clear_0 : decode cX9_clear 0 = .ok (.aload_n 0, 1) := by decide +kernel
theorem dX9_clear_1 : decode cX9_clear 1 = .ok (.getfield 55, 3) := by decide +kernel
theorem dX9_clear_4 : decode cX9_clear 4 = .ok (.getfield 192, 3) := by decide +kernel
theorem dX9_clear_7 : decode cX9_clear 7 = .ok (.istore_n 1, 1) := by decide +kernel
theorem dX9_clear_8 : decode cX9_clear 8 = .ok (.aload_n 0, 1) := by decide +kernel
theorem dX9_clear_9 : decode cX9_clear 9 = .ok (.getfield 55, 3) := by decide +kernel
theorem dX9_clear_12 : decode cX9_clear 12 = .ok (.iconst 0, 1) := by decide +kernel
theorem dX9_clear_13 : decode cX9_clear 13 = .ok (.putfield 192, 3) := by decide +kernel
theorem dX9_clear_16 : decode cX9_clear 16 = .ok (.aload_n 0, 1) := by decide +kernel
theorem dX9_clear_17 : decode cX9_clear 17 = .ok (.getfield 73, 3) := by decide +kernel
theorem dX9_clear_20 : decode cX9_clear 20 = .ok (.iconst 0, 1) := by decide +kernel
theorem dX9_clear_21 : decode cX9_clear 21 = .ok (.putfield 199, 3) := by decide +kernel
theorem dX9_clear_24 : decode cX9_clear 24 = .ok (.iload_n 1, 1) := by decide +kernel
theorem dX9_clear_25 : decode cX9_clear 25 = .ok (.ireturn, 1) := by decide +kernel
theorem dX9_fits_0 : decode cX9_fits 0 = .ok (.aload_n 0, 1) := by decide +kernel
theorem dX9_fits_1 : decode cX9_fits 1 = .ok (.iload_n 1, 1) := by decide +kernel
theorem dX9_fits_2 : decode cX9_fits 2 = .ok (.invokevirtual 98, 3) := by decide +kernel
theorem dX9_fits_5 : decode cX9_fits 5 = .ok (.astore_n 3, 1) := by decide +kernel
theorem dX9_fits_6 : decode cX9_fits 6 = .ok (.aload_n 3, 1) := by decide +kernel
theorem dX9_fits_7 : decode cX9_fits 7 = .ok (.ifnull 11, 3) := by decide +kernel
theorem dX9_fits_10 : decode cX9_fits 10 = .ok (.aload_n 3, 1) := by decide +kernel
theorem dX9_fits_11 : decode cX9_fits 11 = .ok (.iload_n 2, 1) := by decide +kernel
theorem dX9_fits_12 : decode cX9_fits 12 = .ok (.invokevirtual 113, 3) := by decide +kernel
theorem dX9_fits_15 : decode cX9_fits 15 = .ok (.ifCond .ne 5, 3) := by decide +kernel
theorem dX9_fits_18 : decode cX9_fits 18 = .ok (.iconst (-1), 1) := by decide +kernel
theorem dX9_fits_19 : decode cX9_fits 19 = .ok (.ireturn, 1) := by decide +kernel
theorem dX9_fits_20 : decode cX9_fits 20 = .ok (.aload_n 3, 1) := by decide +kernel
theorem dX9_fits_21 : decode cX9_fits 21 = .ok (.invokevirtual 182, 3) := by decide +kernel
theorem dX9_fits_24 : decode cX9_fits 24 = .ok (.ifCond .le 6, 3) := by decide +kernel
theorem dX9_fits_27 : decode cX9_fits 27 = .ok (.bipush (-3), 2) := by decide +kernel
theorem dX9_fits_29 : decode cX9_fits 29 = .ok (.ireturn, 1) := by decide +kernel
theorem dX9_fits_30 : decode cX9_fits 30 = .ok (.iconst 0, 1) := by decide +kernel
theorem dX9_fits_31 : decode cX9_fits 31 = .ok (.istore 4, 2) := by decide +kernel
theorem dX9_fits_33 : decode cX9_fits 33 = .ok (.iconst 0, 1) := by decide +kernel
theorem dX9_fits_34 : decode cX9_fits 34 = .ok (.istore 5, 2) := by decide +kernel
theorem dX9_fits_36 : decode cX9_fits 36 = .ok (.iload 5, 2) := by decide +kernel
theorem dX9_fits_38 : decode cX9_fits 38 = .ok (.aload_n 0, 1) := by decide +kernel
theorem dX9_fits_39 : decode cX9_fits 39 = .ok (.getfield 55, 3) := by decide +kernel
theorem dX9_fits_42 : decode cX9_fits 42 = .ok (.getfield 192, 3) := by decide +kernel
theorem dX9_fits_45 : decode cX9_fits 45 = .ok (.if_icmp .ge 32, 3) := by decide +kernel
theorem dX9_fits_48 : decode cX9_fits 48 = .ok (.aload_n 0, 1) := by decide +kernel
theorem dX9_fits_49 : decode cX9_fits 49 = .ok (.getfield 55, 3) := by decide +kernel
theorem dX9_fits_52 : decode cX9_fits 52 = .ok (.iload 5, 2) := by decide +kernel
theorem dX9_fits_54 : decode cX9_fits 54 = .ok (.aload_n 3, 1) := by decide +kernel
theorem dX9_fits_55 : decode cX9_fits 55 = .ok (.iload_n 2, 1) := by decide +kernel
theorem dX9_fits_56 : decode cX9_fits 56 = .ok (.invokevirtual 206, 3) := by decide +kernel
theorem dX9_fits_59 : decode cX9_fits 59 = .ok (.ifCond .eq 12, 3) := by decide +kernel
theorem dX9_fits_62 : decode cX9_fits 62 = .ok (.iload 4, 2) := by decide +kernel
theorem dX9_fits_64 : decode cX9_fits 64 = .ok (.iconst 1, 1) := by decide +kernel
theorem dX9_fits_65 : decode cX9_fits 65 = .ok (.iload 5, 2) := by decide +kernel
theorem dX9_fits_67 : decode cX9_fits 67 = .ok (.ishl, 1) := by decide +kernel
theorem dX9_fits_68 : decode cX9_fits 68 = .ok (.ior, 1) := by decide +kernel
theorem dX9_fits_69 : decode cX9_fits 69 = .ok (.istore 4, 2) := by decide +kernel
theorem dX9_fits_71 : decode cX9_fits 71 = .ok (.iinc 5 1, 3) := by decide +kernel
theorem dX9_fits_74 : decode cX9_fits 74 = .ok (.goto (-38), 3) := by decide +kernel
theorem dX9_fits_77 : decode cX9_fits 77 = .ok (.iload 4, 2) := by decide +kernel
theorem dX9_fits_79 : decode cX9_fits 79 = .ok (.ireturn, 1) := by decide +kernel
theorem dX9_make_0 : decode cX9_make 0 = .ok (.aload_n 0, 1) := by decide +kernel
theorem dX9_make_1 : decode cX9_make 1 = .ok (.iload_n 1, 1) := by decide +kernel
theorem dX9_make_2 : decode cX9_make 2 = .ok (.invokevirtual 98, 3) := by decide +kernel
theorem dX9_make_5 : decode cX9_make 5 = .ok (.astore 4, 2) := by decide +kernel
theorem dX9_make_7 : decode cX9_make 7 = .ok (.aload 4, 2) := by decide +kernel
theorem dX9_make_9 : decode cX9_make 9 = .ok (.ifnull 23, 3) := by decide +kernel
theorem dX9_make_12 : decode cX9_make 12 = .ok (.aload 4, 2) := by decide +kernel
theorem dX9_make_14 : decode cX9_make 14 = .ok (.iload_n 2, 1) := by decide +kernel
theorem dX9_make_15 : decode cX9_make 15 = .ok (.invokevirtual 113, 3) := by decide +kernel
theorem dX9_make_18 : decode cX9_make 18 = .ok (.ifCond .eq 14, 3) := by decide +kernel
theorem dX9_make_21 : decode cX9_make 21 = .ok (.aload_n 0, 1) := by decide +kernel
theorem dX9_make_22 : decode cX9_make 22 = .ok (.getfield 55, 3) := by decide +kernel
theorem dX9_make_25 : decode cX9_make 25 = .ok (.iload_n 3, 1) := by decide +kernel
theorem dX9_make_26 : decode cX9_make 26 = .ok (.invokevirtual 209, 3) := by decide +kernel
theorem dX9_make_29 : decode cX9_make 29 = .ok (.ifCond .ne 5, 3) := by decide +kernel
theorem dX9_make_32 : decode cX9_make 32 = .ok (.iconst (-1), 1) := by decide +kernel
theorem dX9_make_33 : decode cX9_make 33 = .ok (.ireturn, 1) := by decide +kernel
theorem dX9_make_34 : decode cX9_make 34 = .ok (.aload 4, 2) := by decide +kernel
theorem dX9_make_36 : decode cX9_make 36 = .ok (.invokevirtual 182, 3) := by decide +kernel
theorem dX9_make_39 : decode cX9_make 39 = .ok (.ifCond .le 6, 3) := by decide +kernel
theorem dX9_make_42 : decode cX9_make 42 = .ok (.bipush (-3), 2) := by decide +kernel
theorem dX9_make_44 : decode cX9_make 44 = .ok (.ireturn, 1) := by decide +kernel
theorem dX9_make_45 : decode cX9_make 45 = .ok (.aload_n 0, 1) := by decide +kernel
theorem dX9_make_46 : decode cX9_make 46 = .ok (.getfield 23, 3) := by decide +kernel
theorem dX9_make_49 : decode cX9_make 49 = .ok (.aload 4, 2) := by decide +kernel
theorem dX9_make_51 : decode cX9_make 51 = .ok (.invokevirtual 210, 3) := by decide +kernel
theorem dX9_make_54 : decode cX9_make 54 = .ok (.aload_n 0, 1) := by decide +kernel
theorem dX9_make_55 : decode cX9_make 55 = .ok (.getfield 55, 3) := by decide +kernel
theorem dX9_make_58 : decode cX9_make 58 = .ok (.iload_n 3, 1) := by decide +kernel
theorem dX9_make_59 : decode cX9_make 59 = .ok (.aload_n 0, 1) := by decide +kernel
theorem dX9_make_60 : decode cX9_make 60 = .ok (.getfield 23, 3) := by decide +kernel
theorem dX9_make_63 : decode cX9_make 63 = .ok (.iload_n 2, 1) := by decide +kernel
theorem dX9_make_64 : decode cX9_make 64 = .ok (.invokevirtual 213, 3) := by decide +kernel
theorem dX9_make_67 : decode cX9_make 67 = .ok (.istore 5, 2) := by decide +kernel
theorem dX9_make_69 : decode cX9_make 69 = .ok (.iload 5, 2) := by decide +kernel
theorem dX9_make_71 : decode cX9_make 71 = .ok (.ifCond .ge 6, 3) := by decide +kernel
theorem dX9_make_74 : decode cX9_make 74 = .ok (.bipush (-5), 2) := by decide +kernel
theorem dX9_make_76 : decode cX9_make 76 = .ok (.ireturn, 1) := by decide +kernel
theorem dX9_make_77 : decode cX9_make 77 = .ok (.iload 5, 2) := by decide +kernel
theorem dX9_make_79 : decode cX9_make 79 = .ok (.bipush 16, 2) := by decide +kernel
theorem dX9_make_81 : decode cX9_make 81 = .ok (.if_icmp .le 8, 3) := by decide +kernel
theorem dX9_make_84 : decode cX9_make 84 = .ok (.bipush (-4), 2) := by decide +kernel
theorem dX9_make_86 : decode cX9_make 86 = .ok (.goto 12, 3) := by decide +kernel
theorem dX9_make_89 : decode cX9_make 89 = .ok (.aload_n 0, 1) := by decide +kernel
theorem dX9_make_90 : decode cX9_make 90 = .ok (.iload_n 1, 1) := by decide +kernel
theorem dX9_make_91 : decode cX9_make 91 = .ok (.aload_n 0, 1) := by decide +kernel
theorem dX9_make_92 : decode cX9_make 92 = .ok (.getfield 23, 3) := by decide +kernel
theorem dX9_make_95 : decode cX9_make 95 = .ok (.invokevirtual 109, 3) := by decide +kernel
theorem dX9_make_98 : decode cX9_make 98 = .ok (.ireturn, 1) := by decide +kernel
theorem dX9_walk_0 : decode cX9_walk 0 = .ok (.aload_n 0, 1) := by decide +kernel
theorem dX9_walk_1 : decode cX9_walk 1 = .ok (.iload_n 1, 1) := by decide +kernel
theorem dX9_walk_2 : decode cX9_walk 2 = .ok (.invokevirtual 134, 3) := by decide +kernel
theorem dX9_walk_5 : decode cX9_walk 5 = .ok (.astore_n 3, 1) := by decide +kernel
theorem dX9_walk_6 : decode cX9_walk 6 = .ok (.aload_n 3, 1) := by decide +kernel
theorem dX9_walk_7 : decode cX9_walk 7 = .ok (.ifnonnull 5, 3) := by decide +kernel
theorem dX9_walk_10 : decode cX9_walk 10 = .ok (.iconst (-1), 1) := by decide +kernel
theorem dX9_walk_11 : decode cX9_walk 11 = .ok (.ireturn, 1) := by decide +kernel
theorem dX9_walk_12 : decode cX9_walk 12 = .ok (.aload_n 3, 1) := by decide +kernel
theorem dX9_walk_13 : decode cX9_walk 13 = .ok (.invokevirtual 182, 3) := by decide +kernel
theorem dX9_walk_16 : decode cX9_walk 16 = .ok (.ifCond .le 6, 3) := by decide +kernel
theorem dX9_walk_19 : decode cX9_walk 19 = .ok (.bipush (-3), 2) := by decide +kernel
theorem dX9_walk_21 : decode cX9_walk 21 = .ok (.ireturn, 1) := by decide +kernel
theorem dX9_walk_22 : decode cX9_walk 22 = .ok (.aload_n 0, 1) := by decide +kernel
theorem dX9_walk_23 : decode cX9_walk 23 = .ok (.getfield 23, 3) := by decide +kernel
theorem dX9_walk_26 : decode cX9_walk 26 = .ok (.aload_n 3, 1) := by decide +kernel
theorem dX9_walk_27 : decode cX9_walk 27 = .ok (.invokevirtual 210, 3) := by decide +kernel
theorem dX9_walk_30 : decode cX9_walk 30 = .ok (.aload_n 0, 1) := by decide +kernel
theorem dX9_walk_31 : decode cX9_walk 31 = .ok (.getfield 64, 3) := by decide +kernel
theorem dX9_walk_34 : decode cX9_walk 34 = .ok (.aload_n 0, 1) := by decide +kernel
theorem dX9_walk_35 : decode cX9_walk 35 = .ok (.getfield 23, 3) := by decide +kernel
theorem dX9_walk_38 : decode cX9_walk 38 = .ok (.iload_n 2, 1) := by decide +kernel
theorem dX9_walk_39 : decode cX9_walk 39 = .ok (.invokevirtual 217, 3) := by decide +kernel
theorem dX9_walk_42 : decode cX9_walk 42 = .ok (.istore 4, 2) := by decide +kernel
theorem dX9_walk_44 : decode cX9_walk 44 = .ok (.aload_n 0, 1) := by decide +kernel
theorem dX9_walk_45 : decode cX9_walk 45 = .ok (.aload_n 0, 1) := by decide +kernel
theorem dX9_walk_46 : decode cX9_walk 46 = .ok (.getfield 64, 3) := by decide +kernel
theorem dX9_walk_49 : decode cX9_walk 49 = .ok (.getfield 221, 3) := by decide +kernel
theorem dX9_walk_52 : decode cX9_walk 52 = .ok (.putfield 77, 3) := by decide +kernel
theorem dX9_walk_55 : decode cX9_walk 55 = .ok (.aload_n 0, 1) := by decide +kernel
theorem dX9_walk_56 : decode cX9_walk 56 = .ok (.iload_n 1, 1) := by decide +kernel
theorem dX9_walk_57 : decode cX9_walk 57 = .ok (.aload_n 0, 1) := by decide +kernel
theorem dX9_walk_58 : decode cX9_walk 58 = .ok (.getfield 23, 3) := by decide +kernel
theorem dX9_walk_61 : decode cX9_walk 61 = .ok (.invokevirtual 109, 3) := by decide +kernel
theorem dX9_walk_64 : decode cX9_walk 64 = .ok (.pop, 1) := by decide +kernel
theorem dX9_walk_65 : decode cX9_walk 65 = .ok (.iload 4, 2) := by decide +kernel
theorem dX9_walk_67 : decode cX9_walk 67 = .ok (.ireturn, 1) := by decide +kernel
theorem dX9_steps_0 : decode cX9_steps 0 = .ok (.aload_n 0, 1) := by decide +kernel
theorem dX9_steps_1 : decode cX9_steps 1 = .ok (.getfield 77, 3) := by decide +kernel
theorem dX9_steps_4 : decode cX9_steps 4 = .ok (.ireturn, 1) := by decide +kernel
theorem dX9_overlap_0 : decode cX9_overlap 0 = .ok (.aload_n 0, 1) := by decide +kernel
theorem dX9_overlap_1 : decode cX9_overlap 1 = .ok (.iload_n 1, 1) := by decide +kernel
theorem dX9_overlap_2 : decode cX9_overlap 2 = .ok (.iload_n 2, 1) := by decide +kernel
theorem dX9_overlap_3 : decode cX9_overlap 3 = .ok (.iload_n 3, 1) := by decide +kernel
theorem dX9_overlap_4 : decode cX9_overlap 4 = .ok (.invokevirtual 224, 3) := by decide +kernel
theorem dX9_overlap_7 : decode cX9_overlap 7 = .ok (.istore 4, 2) := by decide +kernel
theorem dX9_overlap_9 : decode cX9_overlap 9 = .ok (.iload 4, 2) := by decide +kernel
theorem dX9_overlap_11 : decode cX9_overlap 11 = .ok (.ifCond .eq 8, 3) := by decide +kernel
theorem dX9_overlap_14 : decode cX9_overlap 14 = .ok (.iload 4, 2) := by decide +kernel
theorem dX9_overlap_16 : decode cX9_overlap 16 = .ok (.goto 13, 3) := by decide +kernel
theorem dX9_overlap_19 : decode cX9_overlap 19 = .ok (.aload_n 0, 1) := by decide +kernel
theorem dX9_overlap_20 : decode cX9_overlap 20 = .ok (.getfield 73, 3) := by decide +kernel
theorem dX9_overlap_23 : decode cX9_overlap 23 = .ok (.iload_n 1, 1) := by decide +kernel
theorem dX9_overlap_24 : decode cX9_overlap 24 = .ok (.iload_n 2, 1) := by decide +kernel
theorem dX9_overlap_25 : decode cX9_overlap 25 = .ok (.iload_n 3, 1) := by decide +kernel
theorem dX9_overlap_26 : decode cX9_overlap 26 = .ok (.invokevirtual 228, 3) := by decide +kernel
theorem dX9_overlap_29 : decode cX9_overlap 29 = .ok (.ireturn, 1) := by decide +kernel
theorem dX9_peak_0 : decode cX9_peak 0 = .ok (.aload_n 0, 1) := by decide +kernel
theorem dX9_peak_1 : decode cX9_peak 1 = .ok (.iload_n 1, 1) := by decide +kernel
theorem dX9_peak_2 : decode cX9_peak 2 = .ok (.iload_n 2, 1) := by decide +kernel
theorem dX9_peak_3 : decode cX9_peak 3 = .ok (.iload_n 3, 1) := by decide +kernel
theorem dX9_peak_4 : decode cX9_peak 4 = .ok (.invokevirtual 224, 3) := by decide +kernel
theorem dX9_peak_7 : decode cX9_peak 7 = .ok (.istore 5, 2) := by decide +kernel
theorem dX9_peak_9 : decode cX9_peak 9 = .ok (.iload 5, 2) := by decide +kernel
theorem dX9_peak_11 : decode cX9_peak 11 = .ok (.iconst (-1), 1) := by decide +kernel
theorem dX9_peak_12 : decode cX9_peak 12 = .ok (.if_icmp .eq 12, 3) := by decide +kernel
theorem dX9_peak_15 : decode cX9_peak 15 = .ok (.aload_n 0, 1) := by decide +kernel
theorem dX9_peak_16 : decode cX9_peak 16 = .ok (.iload 4, 2) := by decide +kernel
theorem dX9_peak_18 : decode cX9_peak 18 = .ok (.invokevirtual 98, 3) := by decide +kernel
theorem dX9_peak_21 : decode cX9_peak 21 = .ok (.ifnonnull 5, 3) := by decide +kernel
theorem dX9_peak_24 : decode cX9_peak 24 = .ok (.iconst (-1), 1) := by decide +kernel
theorem dX9_peak_25 : decode cX9_peak 25 = .ok (.ireturn, 1) := by decide +kernel
theorem dX9_peak_26 : decode cX9_peak 26 = .ok (.iload 5, 2) := by decide +kernel
theorem dX9_peak_28 : decode cX9_peak 28 = .ok (.ifCond .eq 6, 3) := by decide +kernel
theorem dX9_peak_31 : decode cX9_peak 31 = .ok (.iload 5, 2) := by decide +kernel
theorem dX9_peak_33 : decode cX9_peak 33 = .ok (.ireturn, 1) := by decide +kernel
theorem dX9_peak_34 : decode cX9_peak 34 = .ok (.aload_n 0, 1) := by decide +kernel
theorem dX9_peak_35 : decode cX9_peak 35 = .ok (.getfield 73, 3) := by decide +kernel
theorem dX9_peak_38 : decode cX9_peak 38 = .ok (.iload_n 1, 1) := by decide +kernel
theorem dX9_peak_39 : decode cX9_peak 39 = .ok (.iload_n 2, 1) := by decide +kernel
theorem dX9_peak_40 : decode cX9_peak 40 = .ok (.iload_n 3, 1) := by decide +kernel
theorem dX9_peak_41 : decode cX9_peak 41 = .ok (.invokevirtual 231, 3) := by decide +kernel
theorem dX9_peak_44 : decode cX9_peak 44 = .ok (.istore 6, 2) := by decide +kernel
theorem dX9_peak_46 : decode cX9_peak 46 = .ok (.iload 6, 2) := by decide +kernel
theorem dX9_peak_48 : decode cX9_peak 48 = .ok (.ifCond .ne 6, 3) := by decide +kernel
theorem dX9_peak_51 : decode cX9_peak 51 = .ok (.bipush (-3), 2) := by decide +kernel
theorem dX9_peak_53 : decode cX9_peak 53 = .ok (.ireturn, 1) := by decide +kernel
theorem dX9_peak_54 : decode cX9_peak 54 = .ok (.iload 6, 2) := by decide +kernel
theorem dX9_peak_56 : decode cX9_peak 56 = .ok (.iconst 3, 1) := by decide +kernel
theorem dX9_peak_57 : decode cX9_peak 57 = .ok (.if_icmp .eq 17, 3) := by decide +kernel
theorem dX9_peak_60 : decode cX9_peak 60 = .ok (.aload_n 0, 1) := by decide +kernel
theorem dX9_peak_61 : decode cX9_peak 61 = .ok (.getfield 73, 3) := by decide +kernel
theorem dX9_peak_64 : decode cX9_peak 64 = .ok (.aload_n 0, 1) := by decide +kernel
theorem dX9_peak_65 : decode cX9_peak 65 = .ok (.getfield 23, 3) := by decide +kernel
theorem dX9_peak_68 : decode cX9_peak 68 = .ok (.invokevirtual 234, 3) := by decide +kernel
theorem dX9_peak_71 : decode cX9_peak 71 = .ok (.ifCond .ne 6, 3) := by decide +kernel
theorem dX9_peak_74 : decode cX9_peak 74 = .ok (.bipush (-4), 2) := by decide +kernel
theorem dX9_peak_76 : decode cX9_peak 76 = .ok (.ireturn, 1) := by decide +kernel
theorem dX9_peak_77 : decode cX9_peak 77 = .ok (.aload_n 0, 1) := by decide +kernel
theorem dX9_peak_78 : decode cX9_peak 78 = .ok (.iload 4, 2) := by decide +kernel
theorem dX9_peak_80 : decode cX9_peak 80 = .ok (.aload_n 0, 1) := by decide +kernel
theorem dX9_peak_81 : decode cX9_peak 81 = .ok (.getfield 23, 3) := by decide +kernel
theorem dX9_peak_84 : decode cX9_peak 84 = .ok (.invokevirtual 109, 3) := by decide +kernel
theorem dX9_peak_87 : decode cX9_peak 87 = .ok (.ireturn, 1) := by decide +kernel
theorem dX9_overlaps_0 : decode cX9_overlaps 0 = .ok (.iload_n 1, 1) := by decide +kernel
theorem dX9_overlaps_1 : decode cX9_overlaps 1 = .ok (.ifCond .lt 15, 3) := by decide +kernel
theorem dX9_overlaps_4 : decode cX9_overlaps 4 = .ok (.iload_n 1, 1) := by decide +kernel
theorem dX9_overlaps_5 : decode cX9_overlaps 5 = .ok (.aload_n 0, 1) := by decide +kernel
theorem dX9_overlaps_6 : decode cX9_overlaps 6 = .ok (.getfield 73, 3) := by decide +kernel
theorem dX9_overlaps_9 : decode cX9_overlaps 9 = .ok (.getfield 238, 3) := by decide +kernel
theorem dX9_overlaps_12 : decode cX9_overlaps 12 = .ok (.arraylength, 1) := by decide +kernel
theorem dX9_overlaps_13 : decode cX9_overlaps 13 = .ok (.if_icmp .lt 6, 3) := by decide +kernel
theorem dX9_overlaps_16 : decode cX9_overlaps 16 = .ok (.bipush (-2), 2) := by decide +kernel
theorem dX9_overlaps_18 : decode cX9_overlaps 18 = .ok (.ireturn, 1) := by decide +kernel
theorem dX9_overlaps_19 : decode cX9_overlaps 19 = .ok (.aload_n 0, 1) := by decide +kernel
theorem dX9_overlaps_20 : decode cX9_overlaps 20 = .ok (.getfield 73, 3) := by decide +kernel
theorem dX9_overlaps_23 : decode cX9_overlaps 23 = .ok (.invokevirtual 241, 3) := by decide +kernel
theorem dX9_overlaps_26 : decode cX9_overlaps 26 = .ok (.aload_n 0, 1) := by decide +kernel
theorem dX9_overlaps_27 : decode cX9_overlaps 27 = .ok (.getfield 73, 3) := by decide +kernel
theorem dX9_overlaps_30 : decode cX9_overlaps 30 = .ok (.getfield 238, 3) := by decide +kernel
theorem dX9_overlaps_33 : decode cX9_overlaps 33 = .ok (.iload_n 1, 1) := by decide +kernel
theorem dX9_overlaps_34 : decode cX9_overlaps 34 = .ok (.iaload, 1) := by decide +kernel
theorem dX9_overlaps_35 : decode cX9_overlaps 35 = .ok (.ireturn, 1) := by decide +kernel
theorem dX9_told_0 : decode cX9_told 0 = .ok (.iload_n 1, 1) := by decide +kernel
theorem dX9_told_1 : decode cX9_told 1 = .ok (.ifCond .ne 11, 3) := by decide +kernel
theorem dX9_told_4 : decode cX9_told 4 = .ok (.aload_n 0, 1) := by decide +kernel
theorem dX9_told_5 : decode cX9_told 5 = .ok (.getfield 10, 3) := by decide +kernel
theorem dX9_told_8 : decode cX9_told 8 = .ok (.getfield 91, 3) := by decide +kernel
theorem dX9_told_11 : decode cX9_told 11 = .ok (.ireturn, 1) := by decide +kernel
theorem dX9_told_12 : decode cX9_told 12 = .ok (.iload_n 1, 1) := by decide +kernel
theorem dX9_told_13 : decode cX9_told 13 = .ok (.iconst 1, 1) := by decide +kernel
theorem dX9_told_14 : decode cX9_told 14 = .ok (.if_icmp .ne 11, 3) := by decide +kernel
theorem dX9_told_17 : decode cX9_told 17 = .ok (.aload_n 0, 1) := by decide +kernel
theorem dX9_told_18 : decode cX9_told 18 = .ok (.getfield 55, 3) := by decide +kernel
theorem dX9_told_21 : decode cX9_told 21 = .ok (.getfield 192, 3) := by decide +kernel
theorem dX9_told_24 : decode cX9_told 24 = .ok (.ireturn, 1) := by decide +kernel
theorem dX9_told_25 : decode cX9_told 25 = .ok (.aload_n 0, 1) := by decide +kernel
theorem dX9_told_26 : decode cX9_told 26 = .ok (.iload_n 1, 1) := by decide +kernel
theorem dX9_told_27 : decode cX9_told 27 = .ok (.bipush 10, 2) := by decide +kernel
theorem dX9_told_29 : decode cX9_told 29 = .ok (.isub, 1) := by decide +kernel
theorem dX9_told_30 : decode cX9_told 30 = .ok (.invokevirtual 98, 3) := by decide +kernel
theorem dX9_told_33 : decode cX9_told 33 = .ok (.astore_n 2, 1) := by decide +kernel
theorem dX9_told_34 : decode cX9_told 34 = .ok (.aload_n 2, 1) := by decide +kernel
theorem dX9_told_35 : decode cX9_told 35 = .ok (.ifnull 8, 3) := by decide +kernel
theorem dX9_told_38 : decode cX9_told 38 = .ok (.aload_n 2, 1) := by decide +kernel
theorem dX9_told_39 : decode cX9_told 39 = .ok (.getfield 171, 3) := by decide +kernel
theorem dX9_told_42 : decode cX9_told 42 = .ok (.ireturn, 1) := by decide +kernel
theorem dX9_told_43 : decode cX9_told 43 = .ok (.aload_n 0, 1) := by decide +kernel
theorem dX9_told_44 : decode cX9_told 44 = .ok (.iload_n 1, 1) := by decide +kernel
theorem dX9_told_45 : decode cX9_told 45 = .ok (.bipush 20, 2) := by decide +kernel
theorem dX9_told_47 : decode cX9_told 47 = .ok (.isub, 1) := by decide +kernel
theorem dX9_told_48 : decode cX9_told 48 = .ok (.invokevirtual 98, 3) := by decide +kernel
theorem dX9_told_51 : decode cX9_told 51 = .ok (.astore_n 3, 1) := by decide +kernel
theorem dX9_told_52 : decode cX9_told 52 = .ok (.aload_n 3, 1) := by decide +kernel
theorem dX9_told_53 : decode cX9_told 53 = .ok (.ifnull 10, 3) := by decide +kernel
theorem dX9_told_56 : decode cX9_told 56 = .ok (.aload_n 3, 1) := by decide +kernel
theorem dX9_told_57 : decode cX9_told 57 = .ok (.invokevirtual 182, 3) := by decide +kernel
theorem dX9_told_60 : decode cX9_told 60 = .ok (.goto 5, 3) := by decide +kernel
theorem dX9_told_63 : decode cX9_told 63 = .ok (.bipush (-2), 2) := by decide +kernel
theorem dX9_told_65 : decode cX9_told 65 = .ok (.ireturn, 1) := by decide +kernel
theorem dX9_treeAt_0 : decode cX9_treeAt 0 = .ok (.iload_n 1, 1) := by decide +kernel
theorem dX9_treeAt_1 : decode cX9_treeAt 1 = .ok (.ifCond .lt 21, 3) := by decide +kernel
theorem dX9_treeAt_4 : decode cX9_treeAt 4 = .ok (.iload_n 1, 1) := by decide +kernel
theorem dX9_treeAt_5 : decode cX9_treeAt 5 = .ok (.aload_n 0, 1) := by decide +kernel
theorem dX9_treeAt_6 : decode cX9_treeAt 6 = .ok (.getfield 18, 3) := by decide +kernel
theorem dX9_treeAt_9 : decode cX9_treeAt 9 = .ok (.arraylength, 1) := by decide +kernel
theorem dX9_treeAt_10 : decode cX9_treeAt 10 = .ok (.if_icmp .ge 12, 3) := by decide +kernel
theorem dX9_treeAt_13 : decode cX9_treeAt 13 = .ok (.aload_n 0, 1) := by decide +kernel
theorem dX9_treeAt_14 : decode cX9_treeAt 14 = .ok (.getfield 18, 3) := by decide +kernel
theorem dX9_treeAt_17 : decode cX9_treeAt 17 = .ok (.iload_n 1, 1) := by decide +kernel
theorem dX9_treeAt_18 : decode cX9_treeAt 18 = .ok (.aaload, 1) := by decide +kernel
theorem dX9_treeAt_19 : decode cX9_treeAt 19 = .ok (.goto 4, 3) := by decide +kernel
theorem dX9_treeAt_22 : decode cX9_treeAt 22 = .ok (.aconst_null, 1) := by decide +kernel
theorem dX9_treeAt_23 : decode cX9_treeAt 23 = .ok (.areturn, 1) := by decide +kernel
theorem dX9_filledAt_0 : decode cX9_filledAt 0 = .ok (.aload_n 0, 1) := by decide +kernel
theorem dX9_filledAt_1 : decode cX9_filledAt 1 = .ok (.iload_n 1, 1) := by decide +kernel
theorem dX9_filledAt_2 : decode cX9_filledAt 2 = .ok (.invokevirtual 98, 3) := by decide +kernel
theorem dX9_filledAt_5 : decode cX9_filledAt 5 = .ok (.astore_n 2, 1) := by decide +kernel
theorem dX9_filledAt_6 : decode cX9_filledAt 6 = .ok (.aload_n 2, 1) := by decide +kernel
theorem dX9_filledAt_7 : decode cX9_filledAt 7 = .ok (.ifnull 14, 3) := by decide +kernel
theorem dX9_filledAt_10 : decode cX9_filledAt 10 = .ok (.aload_n 2, 1) := by decide +kernel
theorem dX9_filledAt_11 : decode cX9_filledAt 11 = .ok (.getfield 171, 3) := by decide +kernel
theorem dX9_filledAt_14 : decode cX9_filledAt 14 = .ok (.ifCond .le 7, 3) := by decide +kernel
theorem dX9_filledAt_17 : decode cX9_filledAt 17 = .ok (.aload_n 2, 1) := by decide +kernel
theorem dX9_filledAt_18 : decode cX9_filledAt 18 = .ok (.goto 4, 3) := by decide +kernel
theorem dX9_filledAt_21 : decode cX9_filledAt 21 = .ok (.aconst_null, 1) := by decide +kernel
theorem dX9_filledAt_22 : decode cX9_filledAt 22 = .ok (.areturn, 1) := by decide +kernel
theorem dX9_become_0 : decode cX9_become 0 = .ok (.aload_n 0, 1) := by decide +kernel
theorem dX9_become_1 : decode cX9_become 1 = .ok (.iload_n 1, 1) := by decide +kernel
theorem dX9_become_2 : decode cX9_become 2 = .ok (.invokevirtual 98, 3) := by decide +kernel
theorem dX9_become_5 : decode cX9_become 5 = .ok (.astore_n 3, 1) := by decide +kernel
theorem dX9_become_6 : decode cX9_become 6 = .ok (.aload_n 3, 1) := by decide +kernel
theorem dX9_become_7 : decode cX9_become 7 = .ok (.ifnonnull 5, 3) := by decide +kernel
theorem dX9_become_10 : decode cX9_become 10 = .ok (.iconst (-1), 1) := by decide +kernel
theorem dX9_become_11 : decode cX9_become 11 = .ok (.ireturn, 1) := by decide +kernel
theorem dX9_become_12 : decode cX9_become 12 = .ok (.aload_n 3, 1) := by decide +kernel
theorem dX9_become_13 : decode cX9_become 13 = .ok (.aload_n 2, 1) := by decide +kernel
theorem dX9_become_14 : decode cX9_become 14 = .ok (.invokevirtual 210, 3) := by decide +kernel
theorem dX9_become_17 : decode cX9_become 17 = .ok (.aload_n 0, 1) := by decide +kernel
theorem dX9_become_18 : decode cX9_become 18 = .ok (.invokevirtual 152, 3) := by decide +kernel
theorem dX9_become_21 : decode cX9_become 21 = .ok (.aload_n 3, 1) := by decide +kernel
theorem dX9_become_22 : decode cX9_become 22 = .ok (.getfield 171, 3) := by decide +kernel
theorem dX9_become_25 : decode cX9_become 25 = .ok (.ireturn, 1) := by decide +kernel
theorem dX9_forgetLeading_0 : decode cX9_forgetLeading 0 = .ok (.aload_n 0, 1) := by decide +kernel
theorem dX9_forgetLeading_1 : decode cX9_forgetLeading 1 = .ok (.iconst (-1), 1) := by decide +kernel
theorem dX9_forgetLeading_2 : decode cX9_forgetLeading 2 = .ok (.putfield 81, 3) := by decide +kernel
theorem dX9_forgetLeading_5 : decode cX9_forgetLeading 5 = .ok (.aload_n 0, 1) := by decide +kernel
theorem dX9_forgetLeading_6 : decode cX9_forgetLeading 6 = .ok (.iconst (-1), 1) := by decide +kernel
theorem dX9_forgetLeading_7 : decode cX9_forgetLeading 7 = .ok (.putfield 84, 3) := by decide +kernel
theorem dX9_forgetLeading_10 : decode cX9_forgetLeading 10 = .ok (.return_, 1) := by decide +kernel
theorem dX9_leads_0 : decode cX9_leads 0 = .ok (.aload_n 0, 1) := by decide +kernel
theorem dX9_leads_1 : decode cX9_leads 1 = .ok (.iload_n 1, 1) := by decide +kernel
theorem dX9_leads_2 : decode cX9_leads 2 = .ok (.invokevirtual 134, 3) := by decide +kernel
theorem dX9_leads_5 : decode cX9_leads 5 = .ok (.astore_n 3, 1) := by decide +kernel
theorem dX9_leads_6 : decode cX9_leads 6 = .ok (.aload_n 0, 1) := by decide +kernel
theorem dX9_leads_7 : decode cX9_leads 7 = .ok (.iload_n 2, 1) := by decide +kernel
theorem dX9_leads_8 : decode cX9_leads 8 = .ok (.invokevirtual 134, 3) := by decide +kernel
theorem dX9_leads_11 : decode cX9_leads 11 = .ok (.astore 4, 2) := by decide +kernel
theorem dX9_leads_13 : decode cX9_leads 13 = .ok (.aload_n 3, 1) := by decide +kernel
theorem dX9_leads_14 : decode cX9_leads 14 = .ok (.ifnull 8, 3) := by decide +kernel
theorem dX9_leads_17 : decode cX9_leads 17 = .ok (.aload 4, 2) := by decide +kernel
theorem dX9_leads_19 : decode cX9_leads 19 = .ok (.ifnonnull 5, 3) := by decide +kernel
theorem dX9_leads_22 : decode cX9_leads 22 = .ok (.iconst 0, 1) := by decide +kernel
theorem dX9_leads_23 : decode cX9_leads 23 = .ok (.ireturn, 1) := by decide +kernel
theorem dX9_leads_24 : decode cX9_leads 24 = .ok (.iload_n 1, 1) := by decide +kernel
theorem dX9_leads_25 : decode cX9_leads 25 = .ok (.aload_n 0, 1) := by decide +kernel
theorem dX9_leads_26 : decode cX9_leads 26 = .ok (.getfield 81, 3) := by decide +kernel
theorem dX9_leads_29 : decode cX9_leads 29 = .ok (.if_icmp .ne 11, 3) := by decide +kernel
theorem dX9_leads_32 : decode cX9_leads 32 = .ok (.iload_n 2, 1) := by decide +kernel
theorem dX9_leads_33 : decode cX9_leads 33 = .ok (.aload_n 0, 1) := by decide +kernel
theorem dX9_leads_34 : decode cX9_leads 34 = .ok (.getfield 84, 3) := by decide +kernel
theorem dX9_leads_37 : decode cX9_leads 37 = .ok (.if_icmp .eq 47, 3) := by decide +kernel
theorem dX9_leads_40 : decode cX9_leads 40 = .ok (.aload_n 0, 1) := by decide +kernel
theorem dX9_leads_41 : decode cX9_leads 41 = .ok (.getfield 34, 3) := by decide +kernel
theorem dX9_leads_44 : decode cX9_leads 44 = .ok (.aload_n 3, 1) := by decide +kernel
theorem dX9_leads_45 : decode cX9_leads 45 = .ok (.aload 4, 2) := by decide +kernel
theorem dX9_leads_47 : decode cX9_leads 47 = .ok (.invokevirtual 244, 3) := by decide +kernel
theorem dX9_leads_50 : decode cX9_leads 50 = .ok (.aload_n 0, 1) := by decide +kernel
theorem dX9_leads_51 : decode cX9_leads 51 = .ok (.getfield 41, 3) := by decide +kernel
theorem dX9_leads_54 : decode cX9_leads 54 = .ok (.aload_n 3, 1) := by decide +kernel
theorem dX9_leads_55 : decode cX9_leads 55 = .ok (.aload_n 0, 1) := by decide +kernel
theorem dX9_leads_56 : decode cX9_leads 56 = .ok (.getfield 34, 3) := by decide +kernel
theorem dX9_leads_59 : decode cX9_leads 59 = .ok (.getfield 162, 3) := by decide +kernel
theorem dX9_leads_62 : decode cX9_leads 62 = .ok (.aload 4, 2) := by decide +kernel
theorem dX9_leads_64 : decode cX9_leads 64 = .ok (.aload_n 0, 1) := by decide +kernel
theorem dX9_leads_65 : decode cX9_leads 65 = .ok (.getfield 34, 3) := by decide +kernel
theorem dX9_leads_68 : decode cX9_leads 68 = .ok (.getfield 248, 3) := by decide +kernel
theorem dX9_leads_71 : decode cX9_leads 71 = .ok (.invokevirtual 251, 3) := by decide +kernel
theorem dX9_leads_74 : decode cX9_leads 74 = .ok (.aload_n 0, 1) := by decide +kernel
theorem dX9_leads_75 : decode cX9_leads 75 = .ok (.iload_n 1, 1) := by decide +kernel
theorem dX9_leads_76 : decode cX9_leads 76 = .ok (.putfield 81, 3) := by decide +kernel
theorem dX9_leads_79 : decode cX9_leads 79 = .ok (.aload_n 0, 1) := by decide +kernel
theorem dX9_leads_80 : decode cX9_leads 80 = .ok (.iload_n 2, 1) := by decide +kernel
theorem dX9_leads_81 : decode cX9_leads 81 = .ok (.putfield 84, 3) := by decide +kernel
theorem dX9_leads_84 : decode cX9_leads 84 = .ok (.iconst 1, 1) := by decide +kernel
theorem dX9_leads_85 : decode cX9_leads 85 = .ok (.ireturn, 1) := by decide +kernel
theorem dX9_refusedOverlap_0 : decode cX9_refusedOverlap 0 = .ok (.aload_n 0, 1) := by decide +kernel
theorem dX9_refusedOverlap_1 : decode cX9_refusedOverlap 1 = .ok (.getfield 55, 3) := by decide +kernel
theorem dX9_refusedOverlap_4 : decode cX9_refusedOverlap 4 = .ok (.iload_n 1, 1) := by decide +kernel
theorem dX9_refusedOverlap_5 : decode cX9_refusedOverlap 5 = .ok (.invokevirtual 209, 3) := by decide +kernel
theorem dX9_refusedOverlap_8 : decode cX9_refusedOverlap 8 = .ok (.ifCond .eq 14, 3) := by decide +kernel
theorem dX9_refusedOverlap_11 : decode cX9_refusedOverlap 11 = .ok (.aload_n 0, 1) := by decide +kernel
theorem dX9_refusedOverlap_12 : decode cX9_refusedOverlap 12 = .ok (.getfield 55, 3) := by decide +kernel
theorem dX9_refusedOverlap_15 : decode cX9_refusedOverlap 15 = .ok (.iload_n 2, 1) := by decide +kernel
theorem dX9_refusedOverlap_16 : decode cX9_refusedOverlap 16 = .ok (.invokevirtual 209, 3) := by decide +kernel
theorem dX9_refusedOverlap_19 : decode cX9_refusedOverlap 19 = .ok (.ifCond .ne 5, 3) := by decide +kernel
theorem dX9_refusedOverlap_22 : decode cX9_refusedOverlap 22 = .ok (.iconst (-1), 1) := by decide +kernel
theorem dX9_refusedOverlap_23 : decode cX9_refusedOverlap 23 = .ok (.ireturn, 1) := by decide +kernel
theorem dX9_refusedOverlap_24 : decode cX9_refusedOverlap 24 = .ok (.aload_n 0, 1) := by decide +kernel
theorem dX9_refusedOverlap_25 : decode cX9_refusedOverlap 25 = .ok (.getfield 55, 3) := by decide +kernel
theorem dX9_refusedOverlap_28 : decode cX9_refusedOverlap 28 = .ok (.getfield 255, 3) := by decide +kernel
theorem dX9_refusedOverlap_31 : decode cX9_refusedOverlap 31 = .ok (.iload_n 1, 1) := by decide +kernel
theorem dX9_refusedOverlap_32 : decode cX9_refusedOverlap 32 = .ok (.aaload, 1) := by decide +kernel
theorem dX9_refusedOverlap_33 : decode cX9_refusedOverlap 33 = .ok (.astore 4, 2) := by decide +kernel
theorem dX9_refusedOverlap_35 : decode cX9_refusedOverlap 35 = .ok (.aload 4, 2) := by decide +kernel
theorem dX9_refusedOverlap_37 : decode cX9_refusedOverlap 37 = .ok (.iload_n 3, 1) := by decide +kernel
theorem dX9_refusedOverlap_38 : decode cX9_refusedOverlap 38 = .ok (.invokevirtual 113, 3) := by decide +kernel
theorem dX9_refusedOverlap_41 : decode cX9_refusedOverlap 41 = .ok (.ifCond .ne 5, 3) := by decide +kernel
theorem dX9_refusedOverlap_44 : decode cX9_refusedOverlap 44 = .ok (.iconst (-1), 1) := by decide +kernel
theorem dX9_refusedOverlap_45 : decode cX9_refusedOverlap 45 = .ok (.ireturn, 1) := by decide +kernel
theorem dX9_refusedOverlap_46 : decode cX9_refusedOverlap 46 = .ok (.aload 4, 2) := by decide +kernel
theorem dX9_refusedOverlap_48 : decode cX9_refusedOverlap 48 = .ok (.getfield 116, 3) := by decide +kernel
theorem dX9_refusedOverlap_51 : decode cX9_refusedOverlap 51 = .ok (.iload_n 3, 1) := by decide +kernel
theorem dX9_refusedOverlap_52 : decode cX9_refusedOverlap 52 = .ok (.iaload, 1) := by decide +kernel
theorem dX9_refusedOverlap_53 : decode cX9_refusedOverlap 53 = .ok (.invokestatic 193, 3) := by decide +kernel
theorem dX9_refusedOverlap_56 : decode cX9_refusedOverlap 56 = .ok (.ifCond .ne 12, 3) := by decide +kernel
theorem dX9_refusedOverlap_59 : decode cX9_refusedOverlap 59 = .ok (.iload_n 1, 1) := by decide +kernel
theorem dX9_refusedOverlap_60 : decode cX9_refusedOverlap 60 = .ok (.iload_n 2, 1) := by decide +kernel
theorem dX9_refusedOverlap_61 : decode cX9_refusedOverlap 61 = .ok (.if_icmp .ne 12, 3) := by decide +kernel
theorem dX9_refusedOverlap_64 : decode cX9_refusedOverlap 64 = .ok (.iload_n 3, 1) := by decide +kernel
theorem dX9_refusedOverlap_65 : decode cX9_refusedOverlap 65 = .ok (.ifCond .ne 8, 3) := by decide +kernel
theorem dX9_refusedOverlap_68 : decode cX9_refusedOverlap 68 = .ok (.bipush (-5), 2) := by decide +kernel
theorem dX9_refusedOverlap_70 : decode cX9_refusedOverlap 70 = .ok (.goto 4, 3) := by decide +kernel
theorem dX9_refusedOverlap_73 : decode cX9_refusedOverlap 73 = .ok (.iconst 0, 1) := by decide +kernel
theorem dX9_refusedOverlap_74 : decode cX9_refusedOverlap 74 = .ok (.ireturn, 1) := by decide +kernel
theorem dX9_isHole_0 : decode cX9_isHole 0 = .ok (.iload_n 0, 1) := by decide +kernel
theorem dX9_isHole_1 : decode cX9_isHole 1 = .ok (.bipush 65, 2) := by decide +kernel
theorem dX9_isHole_3 : decode cX9_isHole 3 = .ok (.if_icmp .lt 13, 3) := by decide +kernel
theorem dX9_isHole_6 : decode cX9_isHole 6 = .ok (.iload_n 0, 1) := by decide +kernel
theorem dX9_isHole_7 : decode cX9_isHole 7 = .ok (.bipush 72, 2) := by decide +kernel
theorem dX9_isHole_9 : decode cX9_isHole 9 = .ok (.if_icmp .gt 7, 3) := by decide +kernel
theorem dX9_isHole_12 : decode cX9_isHole 12 = .ok (.iconst 1, 1) := by decide +kernel
theorem dX9_isHole_13 : decode cX9_isHole 13 = .ok (.goto 4, 3) := by decide +kernel
theorem dX9_isHole_16 : decode cX9_isHole 16 = .ok (.iconst 0, 1) := by decide +kernel
theorem dX9_isHole_17 : decode cX9_isHole 17 = .ok (.ireturn, 1) := by decide +kernel
theorem dX9_isLabel_0 : decode cX9_isLabel 0 = .ok (.iload_n 0, 1) := by decide +kernel
theorem dX9_isLabel_1 : decode cX9_isLabel 1 = .ok (.bipush 97, 2) := by decide +kernel
theorem dX9_isLabel_3 : decode cX9_isLabel 3 = .ok (.if_icmp .lt 13, 3) := by decide +kernel
theorem dX9_isLabel_6 : decode cX9_isLabel 6 = .ok (.iload_n 0, 1) := by decide +kernel
theorem dX9_isLabel_7 : decode cX9_isLabel 7 = .ok (.bipush 122, 2) := by decide +kernel
theorem dX9_isLabel_9 : decode cX9_isLabel 9 = .ok (.if_icmp .gt 7, 3) := by decide +kernel
theorem dX9_isLabel_12 : decode cX9_isLabel 12 = .ok (.iconst 1, 1) := by decide +kernel
theorem dX9_isLabel_13 : decode cX9_isLabel 13 = .ok (.goto 4, 3) := by decide +kernel
theorem dX9_isLabel_16 : decode cX9_isLabel 16 = .ok (.iconst 0, 1) := by decide +kernel
theorem dX9_isLabel_17 : decode cX9_isLabel 17 = .ok (.ireturn, 1) := by decide +kernel
theorem dX10_init_0 : decode cX10_init 0 = .ok (.aload_n 0, 1) := by decide +kernel
theorem dX10_init_1 : decode cX10_init 1 = .ok (.invokespecial 1, 3) := by decide +kernel
theorem dX10_init_4 : decode cX10_init 4 = .ok (.aload_n 0, 1) := by decide +kernel
theorem dX10_init_5 : decode cX10_init 5 = .ok (.bipush 21, 2) := by decide +kernel
theorem dX10_init_7 : decode cX10_init 7 = .ok (.newarray .int, 2) := by decide +kernel
theorem dX10_init_9 : decode cX10_init 9 = .ok (.putfield 7, 3) := by decide +kernel
theorem dX10_init_12 : decode cX10_init 12 = .ok (.aload_n 0, 1) := by decide +kernel
theorem dX10_init_13 : decode cX10_init 13 = .ok (.sipush 672, 3) := by decide +kernel
theorem dX10_init_16 : decode cX10_init 16 = .ok (.newarray .int, 2) := by decide +kernel
theorem dX10_init_18 : decode cX10_init 18 = .ok (.putfield 13, 3) := by decide +kernel
theorem dX10_init_21 : decode cX10_init 21 = .ok (.aload_n 0, 1) := by decide +kernel
theorem dX10_init_22 : decode cX10_init 22 = .ok (.sipush 672, 3) := by decide +kernel
theorem dX10_init_25 : decode cX10_init 25 = .ok (.newarray .int, 2) := by decide +kernel
theorem dX10_init_27 : decode cX10_init 27 = .ok (.putfield 16, 3) := by decide +kernel
theorem dX10_init_30 : decode cX10_init 30 = .ok (.aload_n 0, 1) := by decide +kernel
theorem dX10_init_31 : decode cX10_init 31 = .ok (.bipush 60, 2) := by decide +kernel
theorem dX10_init_33 : decode cX10_init 33 = .ok (.newarray .int, 2) := by decide +kernel
theorem dX10_init_35 : decode cX10_init 35 = .ok (.putfield 19, 3) := by decide +kernel
theorem dX10_init_38 : decode cX10_init 38 = .ok (.aload_n 0, 1) := by decide +kernel
theorem dX10_init_39 : decode cX10_init 39 = .ok (.iconst 3, 1) := by decide +kernel
theorem dX10_init_40 : decode cX10_init 40 = .ok (.newarray .int, 2) := by decide +kernel
theorem dX10_init_42 : decode cX10_init 42 = .ok (.putfield 22, 3) := by decide +kernel
theorem dX10_init_45 : decode cX10_init 45 = .ok (.aload_n 0, 1) := by decide +kernel
theorem dX10_init_46 : decode cX10_init 46 = .ok (.bipush 64, 2) := by decide +kernel
theorem dX10_init_48 : decode cX10_init 48 = .ok (.newarray .int, 2) := by decide +kernel
theorem dX10_init_50 : decode cX10_init 50 = .ok (.putfield 25, 3) := by decide +kernel
theorem dX10_init_53 : decode cX10_init 53 = .ok (.aload_n 0, 1) := by decide +kernel
theorem dX10_init_54 : decode cX10_init 54 = .ok (.bipush 16, 2) := by decide +kernel
theorem dX10_init_56 : decode cX10_init 56 = .ok (.newarray .int, 2) := by decide +kernel
theorem dX10_init_58 : decode cX10_init 58 = .ok (.putfield 28, 3) := by decide +kernel
theorem dX10_init_61 : decode cX10_init 61 = .ok (.aload_n 0, 1) := by decide +kernel
theorem dX10_init_62 : decode cX10_init 62 = .ok (.bipush 16, 2) := by decide +kernel
theorem dX10_init_64 : decode cX10_init 64 = .ok (.newarray .int, 2) := by decide +kernel
theorem dX10_init_66 : decode cX10_init 66 = .ok (.putfield 31, 3) := by decide +kernel
theorem dX10_init_69 : decode cX10_init 69 = .ok (.aload_n 0, 1) := by decide +kernel
theorem dX10_init_70 : decode cX10_init 70 = .ok (.bipush 17, 2) := by decide +kernel
theorem dX10_init_72 : decode cX10_init 72 = .ok (.newarray .int, 2) := by decide +kernel
theorem dX10_init_74 : decode cX10_init 74 = .ok (.putfield 34, 3) := by decide +kernel
theorem dX10_init_77 : decode cX10_init 77 = .ok (.aload_n 0, 1) := by decide +kernel
theorem dX10_init_78 : decode cX10_init 78 = .ok (.bipush 17, 2) := by decide +kernel
theorem dX10_init_80 : decode cX10_init 80 = .ok (.newarray .int, 2) := by decide +kernel
theorem dX10_init_82 : decode cX10_init 82 = .ok (.putfield 37, 3) := by decide +kernel
theorem dX10_init_85 : decode cX10_init 85 = .ok (.aload_n 0, 1) := by decide +kernel
theorem dX10_init_86 : decode cX10_init 86 = .ok (.sipush 256, 3) := by decide +kernel
theorem dX10_init_89 : decode cX10_init 89 = .ok (.newarray .int, 2) := by decide +kernel
theorem dX10_init_91 : decode cX10_init 91 = .ok (.putfield 40, 3) := by decide +kernel
theorem dX10_init_94 : decode cX10_init 94 = .ok (.aload_n 0, 1) := by decide +kernel
theorem dX10_init_95 : decode cX10_init 95 = .ok (.bipush 16, 2) := by decide +kernel
theorem dX10_init_97 : decode cX10_init 97 = .ok (.newarray .int, 2) := by decide +kernel
theorem dX10_init_99 : decode cX10_init 99 = .ok (.putfield 43, 3) := by decide +kernel
theorem dX10_init_102 : decode cX10_init 102 = .ok (.aload_n 0, 1) := by decide +kernel
theorem dX10_init_103 : decode cX10_init 103 = .ok (.bipush 17, 2) := by decide +kernel
theorem dX10_init_105 : decode cX10_init 105 = .ok (.newarray .int, 2) := by decide +kernel
theorem dX10_init_107 : decode cX10_init 107 = .ok (.putfield 46, 3) := by decide +kernel
theorem dX10_init_110 : decode cX10_init 110 = .ok (.aload_n 0, 1) := by decide +kernel
theorem dX10_init_111 : decode cX10_init 111 = .ok (.bipush 17, 2) := by decide +kernel
theorem dX10_init_113 : decode cX10_init 113 = .ok (.newarray .int, 2) := by decide +kernel
theorem dX10_init_115 : decode cX10_init 115 = .ok (.putfield 49, 3) := by decide +kernel
theorem dX10_init_118 : decode cX10_init 118 = .ok (.aload_n 0, 1) := by decide +kernel
theorem dX10_init_119 : decode cX10_init 119 = .ok (.sipush 289, 3) := by decide +kernel
theorem dX10_init_122 : decode cX10_init 122 = .ok (.newarray .int, 2) := by decide +kernel
theorem dX10_init_124 : decode cX10_init 124 = .ok (.putfield 52, 3) := by decide +kernel
theorem dX10_init_127 : decode cX10_init 127 = .ok (.aload_n 0, 1) := by decide +kernel
theorem dX10_init_128 : decode cX10_init 128 = .ok (.sipush 289, 3) := by decide +kernel
theorem dX10_init_131 : decode cX10_init 131 = .ok (.newarray .int, 2) := by decide +kernel
theorem dX10_init_133 : decode cX10_init 133 = .ok (.putfield 55, 3) := by decide +kernel
theorem dX10_init_136 : decode cX10_init 136 = .ok (.aload_n 0, 1) := by decide +kernel
theorem dX10_init_137 : decode cX10_init 137 = .ok (.bipush 16, 2) := by decide +kernel
theorem dX10_init_139 : decode cX10_init 139 = .ok (.newarray .int, 2) := by decide +kernel
theorem dX10_init_141 : decode cX10_init 141 = .ok (.putfield 58, 3) := by decide +kernel
theorem dX10_init_144 : decode cX10_init 144 = .ok (.aload_n 0, 1) := by decide +kernel
theorem dX10_init_145 : decode cX10_init 145 = .ok (.bipush 16, 2) := by decide +kernel
theorem dX10_init_147 : decode cX10_init 147 = .ok (.newarray .int, 2) := by decide +kernel
theorem dX10_init_149 : decode cX10_init 149 = .ok (.putfield 61, 3) := by decide +kernel
theorem dX10_init_152 : decode cX10_init 152 = .ok (.aload_n 0, 1) := by decide +kernel
theorem dX10_init_153 : decode cX10_init 153 = .ok (.bipush 16, 2) := by decide +kernel
theorem dX10_init_155 : decode cX10_init 155 = .ok (.newarray .int, 2) := by decide +kernel
theorem dX10_init_157 : decode cX10_init 157 = .ok (.putfield 64, 3) := by decide +kernel
theorem dX10_init_160 : decode cX10_init 160 = .ok (.aload_n 0, 1) := by decide +kernel
theorem dX10_init_161 : decode cX10_init 161 = .ok (.bipush 16, 2) := by decide +kernel
theorem dX10_init_163 : decode cX10_init 163 = .ok (.newarray .int, 2) := by decide +kernel
theorem dX10_init_165 : decode cX10_init 165 = .ok (.putfield 67, 3) := by decide +kernel
theorem dX10_init_168 : decode cX10_init 168 = .ok (.aload_n 0, 1) := by decide +kernel
theorem dX10_init_169 : decode cX10_init 169 = .ok (.bipush 64, 2) := by decide +kernel
theorem dX10_init_171 : decode cX10_init 171 = .ok (.newarray .int, 2) := by decide +kernel
theorem dX10_init_173 : decode cX10_init 173 = .ok (.putfield 70, 3) := by decide +kernel
theorem dX10_init_176 : decode cX10_init 176 = .ok (.aload_n 0, 1) := by decide +kernel
theorem dX10_init_177 : decode cX10_init 177 = .ok (.bipush 64, 2) := by decide +kernel
theorem dX10_init_179 : decode cX10_init 179 = .ok (.newarray .int, 2) := by decide +kernel
theorem dX10_init_181 : decode cX10_init 181 = .ok (.putfield 73, 3) := by decide +kernel
theorem dX10_init_184 : decode cX10_init 184 = .ok (.aload_n 0, 1) := by decide +kernel
theorem dX10_init_185 : decode cX10_init 185 = .ok (.bipush 16, 2) := by decide +kernel
theorem dX10_init_187 : decode cX10_init 187 = .ok (.newarray .int, 2) := by decide +kernel
theorem dX10_init_189 : decode cX10_init 189 = .ok (.putfield 76, 3) := by decide +kernel
theorem dX10_init_192 : decode cX10_init 192 = .ok (.aload_n 0, 1) := by decide +kernel
theorem dX10_init_193 : decode cX10_init 193 = .ok (.bipush 16, 2) := by decide +kernel
theorem dX10_init_195 : decode cX10_init 195 = .ok (.newarray .int, 2) := by decide +kernel
theorem dX10_init_197 : decode cX10_init 197 = .ok (.putfield 79, 3) := by decide +kernel
theorem dX10_init_200 : decode cX10_init 200 = .ok (.aload_n 0, 1) := by decide +kernel
theorem dX10_init_201 : decode cX10_init 201 = .ok (.bipush 8, 2) := by decide +kernel
theorem dX10_init_203 : decode cX10_init 203 = .ok (.newarray .int, 2) := by decide +kernel
theorem dX10_init_205 : decode cX10_init 205 = .ok (.putfield 82, 3) := by decide +kernel
theorem dX10_init_208 : decode cX10_init 208 = .ok (.aload_n 0, 1) := by decide +kernel
theorem dX10_init_209 : decode cX10_init 209 = .ok (.bipush 101, 2) := by decide +kernel
theorem dX10_init_211 : decode cX10_init 211 = .ok (.newarray .int, 2) := by decide +kernel
theorem dX10_init_213 : decode cX10_init 213 = .ok (.putfield 85, 3) := by decide +kernel
theorem dX10_init_216 : decode cX10_init 216 = .ok (.aload_n 0, 1) := by decide +kernel
theorem dX10_init_217 : decode cX10_init 217 = .ok (.sipush 1616, 3) := by decide +kernel
theorem dX10_init_220 : decode cX10_init 220 = .ok (.newarray .int, 2) := by decide +kernel
theorem dX10_init_222 : decode cX10_init 222 = .ok (.putfield 88, 3) := by decide +kernel
theorem dX10_init_225 : decode cX10_init 225 = .ok (.aload_n 0, 1) := by decide +kernel
theorem dX10_init_226 : decode cX10_init 226 = .ok (.sipush 1616, 3) := by decide +kernel
theorem dX10_init_229 : decode cX10_init 229 = .ok (.newarray .int, 2) := by decide +kernel
theorem dX10_init_231 : decode cX10_init 231 = .ok (.putfield 91, 3) := by decide +kernel
theorem dX10_init_234 : decode cX10_init 234 = .ok (.aload_n 0, 1) := by decide +kernel
theorem dX10_init_235 : decode cX10_init 235 = .ok (.bipush 16, 2) := by decide +kernel
theorem dX10_init_237 : decode cX10_init 237 = .ok (.newarray .int, 2) := by decide +kernel
theorem dX10_init_239 : decode cX10_init 239 = .ok (.putfield 94, 3) := by decide +kernel
theorem dX10_init_242 : decode cX10_init 242 = .ok (.aload_n 0, 1) := by decide +kernel
theorem dX10_init_243 : decode cX10_init 243 = .ok (.sipush 128, 3) := by decide +kernel
theorem dX10_init_246 : decode cX10_init 246 = .ok (.newarray .int, 2) := by decide +kernel
theorem dX10_init_248 : decode cX10_init 248 = .ok (.putfield 97, 3) := by decide +kernel
theorem dX10_init_251 : decode cX10_init 251 = .ok (.aload_n 0, 1) := by decide +kernel
theorem dX10_init_252 : decode cX10_init 252 = .ok (.sipush 128, 3) := by decide +kernel
theorem dX10_init_255 : decode cX10_init 255 = .ok (.newarray .int, 2) := by decide +kernel
theorem dX10_init_257 : decode cX10_init 257 = .ok (.putfield 100, 3) := by decide +kernel
theorem dX10_init_260 : decode cX10_init 260 = .ok (.aload_n 0, 1) := by decide +kernel
theorem dX10_init_261 : decode cX10_init 261 = .ok (.sipush 256, 3) := by decide +kernel
theorem dX10_init_264 : decode cX10_init 264 = .ok (.newarray .int, 2) := by decide +kernel
theorem dX10_init_266 : decode cX10_init 266 = .ok (.putfield 103, 3) := by decide +kernel
theorem dX10_init_269 : decode cX10_init 269 = .ok (.aload_n 0, 1) := by decide +kernel
theorem dX10_init_270 : decode cX10_init 270 = .ok (.getfield 22, 3) := by decide +kernel
theorem dX10_init_273 : decode cX10_init 273 = .ok (.iconst 0, 1) := by decide +kernel
theorem dX10_init_274 : decode cX10_init 274 = .ok (.iconst 3, 1) := by decide +kernel
theorem dX10_init_275 : decode cX10_init 275 = .ok (.iastore, 1) := by decide +kernel
theorem dX10_init_276 : decode cX10_init 276 = .ok (.aload_n 0, 1) := by decide +kernel
theorem dX10_init_277 : decode cX10_init 277 = .ok (.getfield 22, 3) := by decide +kernel
theorem dX10_init_280 : decode cX10_init 280 = .ok (.iconst 1, 1) := by decide +kernel
theorem dX10_init_281 : decode cX10_init 281 = .ok (.iconst 3, 1) := by decide +kernel
theorem dX10_init_282 : decode cX10_init 282 = .ok (.iastore, 1) := by decide +kernel
theorem dX10_init_283 : decode cX10_init 283 = .ok (.aload_n 0, 1) := by decide +kernel
theorem dX10_init_284 : decode cX10_init 284 = .ok (.getfield 22, 3) := by decide +kernel
theorem dX10_init_287 : decode cX10_init 287 = .ok (.iconst 2, 1) := by decide +kernel
theorem dX10_init_288 : decode cX10_init 288 = .ok (.iconst 2, 1) := by decide +kernel
theorem dX10_init_289 : decode cX10_init 289 = .ok (.iastore, 1) := by decide +kernel
theorem dX10_init_290 : decode cX10_init 290 = .ok (.aload_n 0, 1) := by decide +kernel
theorem dX10_init_291 : decode cX10_init 291 = .ok (.bipush (-6), 2) := by decide +kernel
theorem dX10_init_293 : decode cX10_init 293 = .ok (.putfield 106, 3) := by decide +kernel
theorem dX10_init_296 : decode cX10_init 296 = .ok (.return_, 1) := by decide +kernel
theorem dX10_in_0 : decode cX10_in 0 = .ok (.iload_n 0, 1) := by decide +kernel
theorem dX10_in_1 : decode cX10_in 1 = .ok (.iload_n 1, 1) := by decide +kernel
theorem dX10_in_2 : decode cX10_in 2 = .ok (.if_icmp .lt 12, 3) := by decide +kernel
theorem dX10_in_5 : decode cX10_in 5 = .ok (.iload_n 0, 1) := by decide +kernel
theorem dX10_in_6 : decode cX10_in 6 = .ok (.iload_n 2, 1) := by decide +kernel
theorem dX10_in_7 : decode cX10_in 7 = .ok (.if_icmp .gt 7, 3) := by decide +kernel
theorem dX10_in_10 : decode cX10_in 10 = .ok (.iconst 1, 1) := by decide +kernel
theorem dX10_in_11 : decode cX10_in 11 = .ok (.goto 4, 3) := by decide +kernel
theorem dX10_in_14 : decode cX10_in 14 = .ok (.iconst 0, 1) := by decide +kernel
theorem dX10_in_15 : decode cX10_in 15 = .ok (.ireturn, 1) := by decide +kernel
theorem dX10_isTree_0 : decode cX10_isTree 0 = .ok (.iload_n 0, 1) := by decide +kernel
theorem dX10_isTree_1 : decode cX10_isTree 1 = .ok (.iconst 0, 1) := by decide +kernel
theorem dX10_isTree_2 : decode cX10_isTree 2 = .ok (.iconst 5, 1) := by decide +kernel
theorem dX10_isTree_3 : decode cX10_isTree 3 = .ok (.invokestatic 110, 3) := by decide +kernel
theorem dX10_isTree_6 : decode cX10_isTree 6 = .ok (.ireturn, 1) := by decide +kernel
theorem dX10_isNode_0 : decode cX10_isNode 0 = .ok (.iload_n 1, 1) := by decide +kernel
theorem dX10_isNode_1 : decode cX10_isNode 1 = .ok (.invokestatic 114, 3) := by decide +kernel
theorem dX10_isNode_4 : decode cX10_isNode 4 = .ok (.ifCond .eq 23, 3) := by decide +kernel
theorem dX10_isNode_7 : decode cX10_isNode 7 = .ok (.iload_n 2, 1) := by decide +kernel
theorem dX10_isNode_8 : decode cX10_isNode 8 = .ok (.iconst 0, 1) := by decide +kernel
theorem dX10_isNode_9 : decode cX10_isNode 9 = .ok (.aload_n 0, 1) := by decide +kernel
theorem dX10_isNode_10 : decode cX10_isNode 10 = .ok (.getfield 7, 3) := by decide +kernel
theorem dX10_isNode_13 : decode cX10_isNode 13 = .ok (.iload_n 1, 1) := by decide +kernel
theorem dX10_isNode_14 : decode cX10_isNode 14 = .ok (.iaload, 1) := by decide +kernel
theorem dX10_isNode_15 : decode cX10_isNode 15 = .ok (.iconst 1, 1) := by decide +kernel
theorem dX10_isNode_16 : decode cX10_isNode 16 = .ok (.isub, 1) := by decide +kernel
theorem dX10_isNode_17 : decode cX10_isNode 17 = .ok (.invokestatic 110, 3) := by decide +kernel
theorem dX10_isNode_20 : decode cX10_isNode 20 = .ok (.ifCond .eq 7, 3) := by decide +kernel
theorem dX10_isNode_23 : decode cX10_isNode 23 = .ok (.iconst 1, 1) := by decide +kernel
theorem dX10_isNode_24 : decode cX10_isNode 24 = .ok (.goto 4, 3) := by decide +kernel
theorem dX10_isNode_27 : decode cX10_isNode 27 = .ok (.iconst 0, 1) := by decide +kernel
theorem dX10_isNode_28 : decode cX10_isNode 28 = .ok (.ireturn, 1) := by decide +kernel
theorem dX10_isHole_0 : decode cX10_isHole 0 = .ok (.iload_n 0, 1) := by decide +kernel
theorem dX10_isHole_1 : decode cX10_isHole 1 = .ok (.bipush 65, 2) := by decide +kernel
theorem dX10_isHole_3 : decode cX10_isHole 3 = .ok (.bipush 72, 2) := by decide +kernel
theorem dX10_isHole_5 : decode cX10_isHole 5 = .ok (.invokestatic 110, 3) := by decide +kernel
theorem dX10_isHole_8 : decode cX10_isHole 8 = .ok (.ireturn, 1) := by decide +kernel
theorem dX10_say_0 : decode cX10_say 0 = .ok (.iload_n 1, 1) := by decide +kernel
theorem dX10_say_1 : decode cX10_say 1 = .ok (.bipush 33, 2) := by decide +kernel
theorem dX10_say_3 : decode cX10_say 3 = .ok (.bipush 126, 2) := by decide +kernel
theorem dX10_say_5 : decode cX10_say 5 = .ok (.invokestatic 110, 3) := by decide +kernel
theorem dX10_say_8 : decode cX10_say 8 = .ok (.ifCond .ne 6, 3) := by decide +kernel
theorem dX10_say_11 : decode cX10_say 11 = .ok (.bipush (-2), 2) := by decide +kernel
theorem dX10_say_13 : decode cX10_say 13 = .ok (.ireturn, 1) := by decide +kernel
theorem dX10_say_14 : decode cX10_say 14 = .ok (.aload_n 0, 1) := by decide +kernel
theorem dX10_say_15 : decode cX10_say 15 = .ok (.getfield 118, 3) := by decide +kernel
theorem dX10_say_18 : decode cX10_say 18 = .ok (.bipush 60, 2) := by decide +kernel
theorem dX10_say_20 : decode cX10_say 20 = .ok (.if_icmp .ne 6, 3) := by decide +kernel
theorem dX10_say_23 : decode cX10_say 23 = .ok (.bipush (-4), 2) := by decide +kernel
theorem dX10_say_25 : decode cX10_say 25 = .ok (.ireturn, 1) := by decide +kernel
theorem dX10_say_26 : decode cX10_say 26 = .ok (.aload_n 0, 1) := by decide +kernel
theorem dX10_say_27 : decode cX10_say 27 = .ok (.getfield 19, 3) := by decide +kernel
theorem dX10_say_30 : decode cX10_say 30 = .ok (.aload_n 0, 1) := by decide +kernel
theorem dX10_say_31 : decode cX10_say 31 = .ok (.getfield 118, 3) := by decide +kernel
theorem dX10_say_34 : decode cX10_say 34 = .ok (.iload_n 1, 1) := by decide +kernel
theorem dX10_say_35 : decode cX10_say 35 = .ok (.iastore, 1) := by decide +kernel
theorem dX10_say_36 : decode cX10_say 36 = .ok (.aload_n 0, 1) := by decide +kernel
theorem dX10_say_37 : decode cX10_say 37 = .ok (.dup, 1) := by decide +kernel
theorem dX10_say_38 : decode cX10_say 38 = .ok (.getfield 118, 3) := by decide +kernel
theorem dX10_say_41 : decode cX10_say 41 = .ok (.iconst 1, 1) := by decide +kernel
theorem dX10_say_42 : decode cX10_say 42 = .ok (.iadd, 1) := by decide +kernel
theorem dX10_say_43 : decode cX10_say 43 = .ok (.putfield 118, 3) := by decide +kernel
theorem dX10_say_46 : decode cX10_say 46 = .ok (.aload_n 0, 1) := by decide +kernel
theorem dX10_say_47 : decode cX10_say 47 = .ok (.getfield 118, 3) := by decide +kernel
theorem dX10_say_50 : decode cX10_say 50 = .ok (.ireturn, 1) := by decide +kernel
theorem dX10_wipe_0 : decode cX10_wipe 0 = .ok (.aload_n 0, 1) := by decide +kernel
theorem dX10_wipe_1 : decode cX10_wipe 1 = .ok (.getfield 118, 3) := by decide +kernel
theorem dX10_wipe_4 : decode cX10_wipe 4 = .ok (.istore_n 1, 1) := by decide +kernel
theorem dX10_wipe_5 : decode cX10_wipe 5 = .ok (.aload_n 0, 1) := by decide +kernel
theorem dX10_wipe_6 : decode cX10_wipe 6 = .ok (.iconst 0, 1) := by decide +kernel
theorem dX10_wipe_7 : decode cX10_wipe 7 = .ok (.putfield 118, 3) := by decide +kernel
theorem dX10_wipe_10 : decode cX10_wipe 10 = .ok (.iload_n 1, 1) := by decide +kernel
theorem dX10_wipe_11 : decode cX10_wipe 11 = .ok (.ireturn, 1) := by decide +kernel
theorem dX10_faultOf_0 : decode cX10_faultOf 0 = .ok (.iconst 0, 1) := by decide +kernel
theorem dX10_faultOf_1 : decode cX10_faultOf 1 = .ok (.istore_n 1, 1) := by decide +kernel
theorem dX10_faultOf_2 : decode cX10_faultOf 2 = .ok (.iconst 1, 1) := by decide +kernel
theorem dX10_faultOf_3 : decode cX10_faultOf 3 = .ok (.istore_n 2, 1) := by decide +kernel
theorem dX10_faultOf_4 : decode cX10_faultOf 4 = .ok (.iconst 0, 1) := by decide +kernel
theorem dX10_faultOf_5 : decode cX10_faultOf 5 = .ok (.istore_n 3, 1) := by decide +kernel
theorem dX10_faultOf_6 : decode cX10_faultOf 6 = .ok (.iconst 0, 1) := by decide +kernel
theorem dX10_faultOf_7 : decode cX10_faultOf 7 = .ok (.istore 4, 2) := by decide +kernel
theorem dX10_faultOf_9 : decode cX10_faultOf 9 = .ok (.iload 4, 2) := by decide +kernel
theorem dX10_faultOf_11 : decode cX10_faultOf 11 = .ok (.aload_n 0, 1) := by decide +kernel
theorem dX10_faultOf_12 : decode cX10_faultOf 12 = .ok (.getfield 118, 3) := by decide +kernel
theorem dX10_faultOf_15 : decode cX10_faultOf 15 = .ok (.if_icmp .ge 120, 3) := by decide +kernel
theorem dX10_faultOf_18 : decode cX10_faultOf 18 = .ok (.aload_n 0, 1) := by decide +kernel
theorem dX10_faultOf_19 : decode cX10_faultOf 19 = .ok (.getfield 19, 3) := by decide +kernel
theorem dX10_faultOf_22 : decode cX10_faultOf 22 = .ok (.iload 4, 2) := by decide +kernel
theorem dX10_faultOf_24 : decode cX10_faultOf 24 = .ok (.iaload, 1) := by decide +kernel
theorem dX10_faultOf_25 : decode cX10_faultOf 25 = .ok (.istore 5, 2) := by decide +kernel
theorem dX10_faultOf_27 : decode cX10_faultOf 27 = .ok (.iload 5, 2) := by decide +kernel
theorem dX10_faultOf_29 : decode cX10_faultOf 29 = .ok (.bipush 97, 2) := by decide +kernel
theorem dX10_faultOf_31 : decode cX10_faultOf 31 = .ok (.bipush 122, 2) := by decide +kernel
theorem dX10_faultOf_33 : decode cX10_faultOf 33 = .ok (.invokestatic 110, 3) := by decide +kernel
theorem dX10_faultOf_36 : decode cX10_faultOf 36 = .ok (.ifCond .ne 11, 3) := by decide +kernel
theorem dX10_faultOf_39 : decode cX10_faultOf 39 = .ok (.iload 5, 2) := by decide +kernel
theorem dX10_faultOf_41 : decode cX10_faultOf 41 = .ok (.invokestatic 121, 3) := by decide +kernel
theorem dX10_faultOf_44 : decode cX10_faultOf 44 = .ok (.ifCond .eq 7, 3) := by decide +kernel
theorem dX10_faultOf_47 : decode cX10_faultOf 47 = .ok (.iconst 1, 1) := by decide +kernel
theorem dX10_faultOf_48 : decode cX10_faultOf 48 = .ok (.goto 4, 3) := by decide +kernel
theorem dX10_faultOf_51 : decode cX10_faultOf 51 = .ok (.iconst 0, 1) := by decide +kernel
theorem dX10_faultOf_52 : decode cX10_faultOf 52 = .ok (.istore 6, 2) := by decide +kernel
theorem dX10_faultOf_54 : decode cX10_faultOf 54 = .ok (.iload 6, 2) := by decide +kernel
theorem dX10_faultOf_56 : decode cX10_faultOf 56 = .ok (.ifCond .eq 26, 3) := by decide +kernel
theorem dX10_faultOf_59 : decode cX10_faultOf 59 = .ok (.iload_n 2, 1) := by decide +kernel
theorem dX10_faultOf_60 : decode cX10_faultOf 60 = .ok (.ifCond .ne 7, 3) := by decide +kernel
theorem dX10_faultOf_63 : decode cX10_faultOf 63 = .ok (.iload_n 1, 1) := by decide +kernel
theorem dX10_faultOf_64 : decode cX10_faultOf 64 = .ok (.ifCond .le 18, 3) := by decide +kernel
theorem dX10_faultOf_67 : decode cX10_faultOf 67 = .ok (.iconst 0, 1) := by decide +kernel
theorem dX10_faultOf_68 : decode cX10_faultOf 68 = .ok (.istore_n 2, 1) := by decide +kernel
theorem dX10_faultOf_69 : decode cX10_faultOf 69 = .ok (.iload 5, 2) := by decide +kernel
theorem dX10_faultOf_71 : decode cX10_faultOf 71 = .ok (.bipush 97, 2) := by decide +kernel
theorem dX10_faultOf_73 : decode cX10_faultOf 73 = .ok (.bipush 122, 2) := by decide +kernel
theorem dX10_faultOf_75 : decode cX10_faultOf 75 = .ok (.invokestatic 110, 3) := by decide +kernel
theorem dX10_faultOf_78 : decode cX10_faultOf 78 = .ok (.istore_n 3, 1) := by decide +kernel
theorem dX10_faultOf_79 : decode cX10_faultOf 79 = .ok (.goto 50, 3) := by decide +kernel
theorem dX10_faultOf_82 : decode cX10_faultOf 82 = .ok (.iload 5, 2) := by decide +kernel
theorem dX10_faultOf_84 : decode cX10_faultOf 84 = .ok (.bipush 40, 2) := by decide +kernel
theorem dX10_faultOf_86 : decode cX10_faultOf 86 = .ok (.if_icmp .ne 17, 3) := by decide +kernel
theorem dX10_faultOf_89 : decode cX10_faultOf 89 = .ok (.iload_n 3, 1) := by decide +kernel
theorem dX10_faultOf_90 : decode cX10_faultOf 90 = .ok (.ifCond .eq 13, 3) := by decide +kernel
theorem dX10_faultOf_93 : decode cX10_faultOf 93 = .ok (.iinc 1 1, 3) := by decide +kernel
theorem dX10_faultOf_96 : decode cX10_faultOf 96 = .ok (.iconst 1, 1) := by decide +kernel
theorem dX10_faultOf_97 : decode cX10_faultOf 97 = .ok (.istore_n 2, 1) := by decide +kernel
theorem dX10_faultOf_98 : decode cX10_faultOf 98 = .ok (.iconst 0, 1) := by decide +kernel
theorem dX10_faultOf_99 : decode cX10_faultOf 99 = .ok (.istore_n 3, 1) := by decide +kernel
theorem dX10_faultOf_100 : decode cX10_faultOf 100 = .ok (.goto 29, 3) := by decide +kernel
theorem dX10_faultOf_103 : decode cX10_faultOf 103 = .ok (.iload 5, 2) := by decide +kernel
theorem dX10_faultOf_105 : decode cX10_faultOf 105 = .ok (.bipush 41, 2) := by decide +kernel
theorem dX10_faultOf_107 : decode cX10_faultOf 107 = .ok (.if_icmp .ne 19, 3) := by decide +kernel
theorem dX10_faultOf_110 : decode cX10_faultOf 110 = .ok (.iload_n 1, 1) := by decide +kernel
theorem dX10_faultOf_111 : decode cX10_faultOf 111 = .ok (.ifCond .le 15, 3) := by decide +kernel
theorem dX10_faultOf_114 : decode cX10_faultOf 114 = .ok (.iload_n 2, 1) := by decide +kernel
theorem dX10_faultOf_115 : decode cX10_faultOf 115 = .ok (.ifCond .ne 11, 3) := by decide +kernel
theorem dX10_faultOf_118 : decode cX10_faultOf 118 = .ok (.iinc 1 (-1), 3) := by decide +kernel
theorem dX10_faultOf_121 : decode cX10_faultOf 121 = .ok (.iconst 0, 1) := by decide +kernel
theorem dX10_faultOf_122 : decode cX10_faultOf 122 = .ok (.istore_n 3, 1) := by decide +kernel
theorem dX10_faultOf_123 : decode cX10_faultOf 123 = .ok (.goto 6, 3) := by decide +kernel
theorem dX10_faultOf_126 : decode cX10_faultOf 126 = .ok (.iload 4, 2) := by decide +kernel
theorem dX10_faultOf_128 : decode cX10_faultOf 128 = .ok (.ireturn, 1) := by decide +kernel
theorem dX10_faultOf_129 : decode cX10_faultOf 129 = .ok (.iinc 4 1, 3) := by decide +kernel
theorem dX10_faultOf_132 : decode cX10_faultOf 132 = .ok (.goto (-123), 3) := by decide +kernel
theorem dX10_faultOf_135 : decode cX10_faultOf 135 = .ok (.iload_n 2, 1) := by decide +kernel
theorem dX10_faultOf_136 : decode cX10_faultOf 136 = .ok (.ifCond .ne 7, 3) := by decide +kernel
theorem dX10_faultOf_139 : decode cX10_faultOf 139 = .ok (.iload_n 1, 1) := by decide +kernel
theorem dX10_faultOf_140 : decode cX10_faultOf 140 = .ok (.ifCond .le 10, 3) := by decide +kernel
theorem dX10_faultOf_143 : decode cX10_faultOf 143 = .ok (.aload_n 0, 1) := by decide +kernel
theorem dX10_faultOf_144 : decode cX10_faultOf 144 = .ok (.getfield 118, 3) := by decide +kernel
theorem dX10_faultOf_147 : decode cX10_faultOf 147 = .ok (.goto 5, 3) := by decide +kernel
theorem dX10_faultOf_150 : decode cX10_faultOf 150 = .ok (.bipush (-6), 2) := by decide +kernel
theorem dX10_faultOf_152 : decode cX10_faultOf 152 = .ok (.ireturn, 1) := by decide +kernel
theorem dX10_fault_0 : decode cX10_fault 0 = .ok (.aload_n 0, 1) := by decide +kernel
theorem dX10_fault_1 : decode cX10_fault 1 = .ok (.invokevirtual 124, 3) := by decide +kernel
theorem dX10_fault_4 : decode cX10_fault 4 = .ok (.ireturn, 1) := by decide +kernel
theorem dX10_read_0 : decode cX10_read 0 = .ok (.iload_n 1, 1) := by decide +kernel
theorem dX10_read_1 : decode cX10_read 1 = .ok (.invokestatic 114, 3) := by decide +kernel
theorem dX10_read_4 : decode cX10_read 4 = .ok (.ifCond .ne 5, 3) := by decide +kernel
theorem dX10_read_7 : decode cX10_read 7 = .ok (.iconst (-1), 1) := by decide +kernel
theorem dX10_read_8 : decode cX10_read 8 = .ok (.ireturn, 1) := by decide +kernel
theorem dX10_read_9 : decode cX10_read 9 = .ok (.aload_n 0, 1) := by decide +kernel
theorem dX10_read_10 : decode cX10_read 10 = .ok (.invokevirtual 124, 3) := by decide +kernel
theorem dX10_read_13 : decode cX10_read 13 = .ok (.ifCond .lt 6, 3) := by decide +kernel
theorem dX10_read_16 : decode cX10_read 16 = .ok (.bipush (-5), 2) := by decide +kernel
theorem dX10_read_18 : decode cX10_read 18 = .ok (.ireturn, 1) := by decide +kernel
theorem dX10_read_19 : decode cX10_read 19 = .ok (.iconst 0, 1) := by decide +kernel
theorem dX10_read_20 : decode cX10_read 20 = .ok (.istore_n 2, 1) := by decide +kernel
theorem dX10_read_21 : decode cX10_read 21 = .ok (.iconst 0, 1) := by decide +kernel
theorem dX10_read_22 : decode cX10_read 22 = .ok (.istore_n 3, 1) := by decide +kernel
theorem dX10_read_23 : decode cX10_read 23 = .ok (.iload_n 3, 1) := by decide +kernel
theorem dX10_read_24 : decode cX10_read 24 = .ok (.aload_n 0, 1) := by decide +kernel
theorem dX10_read_25 : decode cX10_read 25 = .ok (.getfield 118, 3) := by decide +kernel
theorem dX10_read_28 : decode cX10_read 28 = .ok (.if_icmp .ge 39, 3) := by decide +kernel
theorem dX10_read_31 : decode cX10_read 31 = .ok (.iload_n 2, 1) := by decide +kernel
theorem dX10_read_32 : decode cX10_read 32 = .ok (.aload_n 0, 1) := by decide +kernel
theorem dX10_read_33 : decode cX10_read 33 = .ok (.getfield 19, 3) := by decide +kernel
theorem dX10_read_36 : decode cX10_read 36 = .ok (.iload_n 3, 1) := by decide +kernel
theorem dX10_read_37 : decode cX10_read 37 = .ok (.iaload, 1) := by decide +kernel
theorem dX10_read_38 : decode cX10_read 38 = .ok (.bipush 40, 2) := by decide +kernel
theorem dX10_read_40 : decode cX10_read 40 = .ok (.if_icmp .eq 14, 3) := by decide +kernel
theorem dX10_read_43 : decode cX10_read 43 = .ok (.aload_n 0, 1) := by decide +kernel
theorem dX10_read_44 : decode cX10_read 44 = .ok (.getfield 19, 3) := by decide +kernel
theorem dX10_read_47 : decode cX10_read 47 = .ok (.iload_n 3, 1) := by decide +kernel
theorem dX10_read_48 : decode cX10_read 48 = .ok (.iaload, 1) := by decide +kernel
theorem dX10_read_49 : decode cX10_read 49 = .ok (.bipush 41, 2) := by decide +kernel
theorem dX10_read_51 : decode cX10_read 51 = .ok (.if_icmp .ne 7, 3) := by decide +kernel
theorem dX10_read_54 : decode cX10_read 54 = .ok (.iconst 0, 1) := by decide +kernel
theorem dX10_read_55 : decode cX10_read 55 = .ok (.goto 4, 3) := by decide +kernel
theorem dX10_read_58 : decode cX10_read 58 = .ok (.iconst 1, 1) := by decide +kernel
theorem dX10_read_59 : decode cX10_read 59 = .ok (.iadd, 1) := by decide +kernel
theorem dX10_read_60 : decode cX10_read 60 = .ok (.istore_n 2, 1) := by decide +kernel
theorem dX10_read_61 : decode cX10_read 61 = .ok (.iinc 3 1, 3) := by decide +kernel
theorem dX10_read_64 : decode cX10_read 64 = .ok (.goto (-41), 3) := by decide +kernel
theorem dX10_read_67 : decode cX10_read 67 = .ok (.iload_n 2, 1) := by decide +kernel
theorem dX10_read_68 : decode cX10_read 68 = .ok (.bipush 16, 2) := by decide +kernel
theorem dX10_read_70 : decode cX10_read 70 = .ok (.if_icmp .le 6, 3) := by decide +kernel
theorem dX10_read_73 : decode cX10_read 73 = .ok (.bipush (-4), 2) := by decide +kernel
theorem dX10_read_75 : decode cX10_read 75 = .ok (.ireturn, 1) := by decide +kernel
theorem dX10_read_76 : decode cX10_read 76 = .ok (.iconst 0, 1) := by decide +kernel
theorem dX10_read_77 : decode cX10_read 77 = .ok (.istore_n 2, 1) := by decide +kernel
theorem dX10_read_78 : decode cX10_read 78 = .ok (.iconst 0, 1) := by decide +kernel
theorem dX10_read_79 : decode cX10_read 79 = .ok (.istore_n 3, 1) := by decide +kernel
theorem dX10_read_80 : decode cX10_read 80 = .ok (.iload_n 3, 1) := by decide +kernel
theorem dX10_read_81 : decode cX10_read 81 = .ok (.aload_n 0, 1) := by decide +kernel
theorem dX10_read_82 : decode cX10_read 82 = .ok (.getfield 118, 3) := by decide +kernel
theorem dX10_read_85 : decode cX10_read 85 = .ok (.if_icmp .ge 201, 3) := by decide +kernel
theorem dX10_read_88 : decode cX10_read 88 = .ok (.aload_n 0, 1) := by decide +kernel
theorem dX10_read_89 : decode cX10_read 89 = .ok (.getfield 19, 3) := by decide +kernel
theorem dX10_read_92 : decode cX10_read 92 = .ok (.iload_n 3, 1) := by decide +kernel
theorem dX10_read_93 : decode cX10_read 93 = .ok (.iaload, 1) := by decide +kernel
theorem dX10_read_94 : decode cX10_read 94 = .ok (.bipush 40, 2) := by decide +kernel
theorem dX10_read_96 : decode cX10_read 96 = .ok (.if_icmp .eq 184, 3) := by decide +kernel
theorem dX10_read_99 : decode cX10_read 99 = .ok (.aload_n 0, 1) := by decide +kernel
