theorem dX10_read_100 : decode cX10_read 100 = .ok (.getfield 19, 3) := by decide +kernel
theorem dX10_read_103 : decode cX10_read 103 = .ok (.iload_n 3, 1) := by decide +kernel
theorem dX10_read_104 : decode cX10_read 104 = .ok (.iaload, 1) := by decide +kernel
theorem dX10_read_105 : decode cX10_read 105 = .ok (.bipush 41, 2) := by decide +kernel
theorem dX10_read_107 : decode cX10_read 107 = .ok (.if_icmp .eq 173, 3) := by decide +kernel
theorem dX10_read_110 : decode cX10_read 110 = .ok (.aload_n 0, 1) := by decide +kernel
theorem dX10_read_111 : decode cX10_read 111 = .ok (.getfield 13, 3) := by decide +kernel
theorem dX10_read_114 : decode cX10_read 114 = .ok (.bipush 32, 2) := by decide +kernel
theorem dX10_read_116 : decode cX10_read 116 = .ok (.iload_n 1, 1) := by decide +kernel
theorem dX10_read_117 : decode cX10_read 117 = .ok (.imul, 1) := by decide +kernel
theorem dX10_read_118 : decode cX10_read 118 = .ok (.iload_n 2, 1) := by decide +kernel
theorem dX10_read_119 : decode cX10_read 119 = .ok (.iadd, 1) := by decide +kernel
theorem dX10_read_120 : decode cX10_read 120 = .ok (.aload_n 0, 1) := by decide +kernel
theorem dX10_read_121 : decode cX10_read 121 = .ok (.getfield 19, 3) := by decide +kernel
theorem dX10_read_124 : decode cX10_read 124 = .ok (.iload_n 3, 1) := by decide +kernel
theorem dX10_read_125 : decode cX10_read 125 = .ok (.iaload, 1) := by decide +kernel
theorem dX10_read_126 : decode cX10_read 126 = .ok (.iastore, 1) := by decide +kernel
theorem dX10_read_127 : decode cX10_read 127 = .ok (.iconst 0, 1) := by decide +kernel
theorem dX10_read_128 : decode cX10_read 128 = .ok (.istore 4, 2) := by decide +kernel
theorem dX10_read_130 : decode cX10_read 130 = .ok (.iconst 0, 1) := by decide +kernel
theorem dX10_read_131 : decode cX10_read 131 = .ok (.istore 5, 2) := by decide +kernel
theorem dX10_read_133 : decode cX10_read 133 = .ok (.iload_n 3, 1) := by decide +kernel
theorem dX10_read_134 : decode cX10_read 134 = .ok (.iconst 1, 1) := by decide +kernel
theorem dX10_read_135 : decode cX10_read 135 = .ok (.iadd, 1) := by decide +kernel
theorem dX10_read_136 : decode cX10_read 136 = .ok (.istore 6, 2) := by decide +kernel
theorem dX10_read_138 : decode cX10_read 138 = .ok (.iload 6, 2) := by decide +kernel
theorem dX10_read_140 : decode cX10_read 140 = .ok (.aload_n 0, 1) := by decide +kernel
theorem dX10_read_141 : decode cX10_read 141 = .ok (.getfield 118, 3) := by decide +kernel
theorem dX10_read_144 : decode cX10_read 144 = .ok (.if_icmp .ge 120, 3) := by decide +kernel
theorem dX10_read_147 : decode cX10_read 147 = .ok (.iload 6, 2) := by decide +kernel
theorem dX10_read_149 : decode cX10_read 149 = .ok (.iload_n 3, 1) := by decide +kernel
theorem dX10_read_150 : decode cX10_read 150 = .ok (.iconst 1, 1) := by decide +kernel
theorem dX10_read_151 : decode cX10_read 151 = .ok (.iadd, 1) := by decide +kernel
theorem dX10_read_152 : decode cX10_read 152 = .ok (.if_icmp .gt 15, 3) := by decide +kernel
theorem dX10_read_155 : decode cX10_read 155 = .ok (.aload_n 0, 1) := by decide +kernel
theorem dX10_read_156 : decode cX10_read 156 = .ok (.getfield 19, 3) := by decide +kernel
theorem dX10_read_159 : decode cX10_read 159 = .ok (.iload 6, 2) := by decide +kernel
theorem dX10_read_161 : decode cX10_read 161 = .ok (.iaload, 1) := by decide +kernel
theorem dX10_read_162 : decode cX10_read 162 = .ok (.bipush 40, 2) := by decide +kernel
theorem dX10_read_164 : decode cX10_read 164 = .ok (.if_icmp .ne 100, 3) := by decide +kernel
theorem dX10_read_167 : decode cX10_read 167 = .ok (.iload 6, 2) := by decide +kernel
theorem dX10_read_169 : decode cX10_read 169 = .ok (.iload_n 3, 1) := by decide +kernel
theorem dX10_read_170 : decode cX10_read 170 = .ok (.iconst 1, 1) := by decide +kernel
theorem dX10_read_171 : decode cX10_read 171 = .ok (.iadd, 1) := by decide +kernel
theorem dX10_read_172 : decode cX10_read 172 = .ok (.if_icmp .eq 8, 3) := by decide +kernel
theorem dX10_read_175 : decode cX10_read 175 = .ok (.iload 5, 2) := by decide +kernel
theorem dX10_read_177 : decode cX10_read 177 = .ok (.ifCond .le 87, 3) := by decide +kernel
theorem dX10_read_180 : decode cX10_read 180 = .ok (.iload 5, 2) := by decide +kernel
theorem dX10_read_182 : decode cX10_read 182 = .ok (.aload_n 0, 1) := by decide +kernel
theorem dX10_read_183 : decode cX10_read 183 = .ok (.getfield 19, 3) := by decide +kernel
theorem dX10_read_186 : decode cX10_read 186 = .ok (.iload 6, 2) := by decide +kernel
theorem dX10_read_188 : decode cX10_read 188 = .ok (.iaload, 1) := by decide +kernel
theorem dX10_read_189 : decode cX10_read 189 = .ok (.bipush 40, 2) := by decide +kernel
theorem dX10_read_191 : decode cX10_read 191 = .ok (.if_icmp .ne 7, 3) := by decide +kernel
theorem dX10_read_194 : decode cX10_read 194 = .ok (.iconst 1, 1) := by decide +kernel
theorem dX10_read_195 : decode cX10_read 195 = .ok (.goto 20, 3) := by decide +kernel
theorem dX10_read_198 : decode cX10_read 198 = .ok (.aload_n 0, 1) := by decide +kernel
theorem dX10_read_199 : decode cX10_read 199 = .ok (.getfield 19, 3) := by decide +kernel
theorem dX10_read_202 : decode cX10_read 202 = .ok (.iload 6, 2) := by decide +kernel
theorem dX10_read_204 : decode cX10_read 204 = .ok (.iaload, 1) := by decide +kernel
theorem dX10_read_205 : decode cX10_read 205 = .ok (.bipush 41, 2) := by decide +kernel
theorem dX10_read_207 : decode cX10_read 207 = .ok (.if_icmp .ne 7, 3) := by decide +kernel
theorem dX10_read_210 : decode cX10_read 210 = .ok (.iconst (-1), 1) := by decide +kernel
theorem dX10_read_211 : decode cX10_read 211 = .ok (.goto 4, 3) := by decide +kernel
theorem dX10_read_214 : decode cX10_read 214 = .ok (.iconst 0, 1) := by decide +kernel
theorem dX10_read_215 : decode cX10_read 215 = .ok (.iadd, 1) := by decide +kernel
theorem dX10_read_216 : decode cX10_read 216 = .ok (.istore 5, 2) := by decide +kernel
theorem dX10_read_218 : decode cX10_read 218 = .ok (.iload 4, 2) := by decide +kernel
theorem dX10_read_220 : decode cX10_read 220 = .ok (.iload 5, 2) := by decide +kernel
theorem dX10_read_222 : decode cX10_read 222 = .ok (.iconst 1, 1) := by decide +kernel
theorem dX10_read_223 : decode cX10_read 223 = .ok (.if_icmp .ne 31, 3) := by decide +kernel
theorem dX10_read_226 : decode cX10_read 226 = .ok (.aload_n 0, 1) := by decide +kernel
theorem dX10_read_227 : decode cX10_read 227 = .ok (.getfield 19, 3) := by decide +kernel
theorem dX10_read_230 : decode cX10_read 230 = .ok (.iload 6, 2) := by decide +kernel
theorem dX10_read_232 : decode cX10_read 232 = .ok (.iaload, 1) := by decide +kernel
theorem dX10_read_233 : decode cX10_read 233 = .ok (.bipush 40, 2) := by decide +kernel
theorem dX10_read_235 : decode cX10_read 235 = .ok (.if_icmp .eq 19, 3) := by decide +kernel
theorem dX10_read_238 : decode cX10_read 238 = .ok (.aload_n 0, 1) := by decide +kernel
theorem dX10_read_239 : decode cX10_read 239 = .ok (.getfield 19, 3) := by decide +kernel
theorem dX10_read_242 : decode cX10_read 242 = .ok (.iload 6, 2) := by decide +kernel
theorem dX10_read_244 : decode cX10_read 244 = .ok (.iaload, 1) := by decide +kernel
theorem dX10_read_245 : decode cX10_read 245 = .ok (.bipush 41, 2) := by decide +kernel
theorem dX10_read_247 : decode cX10_read 247 = .ok (.if_icmp .eq 7, 3) := by decide +kernel
theorem dX10_read_250 : decode cX10_read 250 = .ok (.iconst 1, 1) := by decide +kernel
theorem dX10_read_251 : decode cX10_read 251 = .ok (.goto 4, 3) := by decide +kernel
theorem dX10_read_254 : decode cX10_read 254 = .ok (.iconst 0, 1) := by decide +kernel
theorem dX10_read_255 : decode cX10_read 255 = .ok (.iadd, 1) := by decide +kernel
theorem dX10_read_256 : decode cX10_read 256 = .ok (.istore 4, 2) := by decide +kernel
theorem dX10_read_258 : decode cX10_read 258 = .ok (.iinc 6 1, 3) := by decide +kernel
theorem dX10_read_261 : decode cX10_read 261 = .ok (.goto (-123), 3) := by decide +kernel
theorem dX10_read_264 : decode cX10_read 264 = .ok (.aload_n 0, 1) := by decide +kernel
theorem dX10_read_265 : decode cX10_read 265 = .ok (.getfield 16, 3) := by decide +kernel
theorem dX10_read_268 : decode cX10_read 268 = .ok (.bipush 32, 2) := by decide +kernel
theorem dX10_read_270 : decode cX10_read 270 = .ok (.iload_n 1, 1) := by decide +kernel
theorem dX10_read_271 : decode cX10_read 271 = .ok (.imul, 1) := by decide +kernel
theorem dX10_read_272 : decode cX10_read 272 = .ok (.iload_n 2, 1) := by decide +kernel
theorem dX10_read_273 : decode cX10_read 273 = .ok (.iadd, 1) := by decide +kernel
theorem dX10_read_274 : decode cX10_read 274 = .ok (.iload 4, 2) := by decide +kernel
theorem dX10_read_276 : decode cX10_read 276 = .ok (.iastore, 1) := by decide +kernel
theorem dX10_read_277 : decode cX10_read 277 = .ok (.iinc 2 1, 3) := by decide +kernel
theorem dX10_read_280 : decode cX10_read 280 = .ok (.iinc 3 1, 3) := by decide +kernel
theorem dX10_read_283 : decode cX10_read 283 = .ok (.goto (-203), 3) := by decide +kernel
theorem dX10_read_286 : decode cX10_read 286 = .ok (.aload_n 0, 1) := by decide +kernel
theorem dX10_read_287 : decode cX10_read 287 = .ok (.getfield 7, 3) := by decide +kernel
theorem dX10_read_290 : decode cX10_read 290 = .ok (.iload_n 1, 1) := by decide +kernel
theorem dX10_read_291 : decode cX10_read 291 = .ok (.iload_n 2, 1) := by decide +kernel
theorem dX10_read_292 : decode cX10_read 292 = .ok (.iastore, 1) := by decide +kernel
theorem dX10_read_293 : decode cX10_read 293 = .ok (.aload_n 0, 1) := by decide +kernel
theorem dX10_read_294 : decode cX10_read 294 = .ok (.iconst 0, 1) := by decide +kernel
theorem dX10_read_295 : decode cX10_read 295 = .ok (.putfield 118, 3) := by decide +kernel
theorem dX10_read_298 : decode cX10_read 298 = .ok (.iload_n 2, 1) := by decide +kernel
theorem dX10_read_299 : decode cX10_read 299 = .ok (.ireturn, 1) := by decide +kernel
theorem dX10_sizeOf_0 : decode cX10_sizeOf 0 = .ok (.iconst 1, 1) := by decide +kernel
theorem dX10_sizeOf_1 : decode cX10_sizeOf 1 = .ok (.istore_n 3, 1) := by decide +kernel
theorem dX10_sizeOf_2 : decode cX10_sizeOf 2 = .ok (.iload_n 2, 1) := by decide +kernel
theorem dX10_sizeOf_3 : decode cX10_sizeOf 3 = .ok (.istore 4, 2) := by decide +kernel
theorem dX10_sizeOf_5 : decode cX10_sizeOf 5 = .ok (.iload_n 3, 1) := by decide +kernel
theorem dX10_sizeOf_6 : decode cX10_sizeOf 6 = .ok (.ifCond .le 26, 3) := by decide +kernel
theorem dX10_sizeOf_9 : decode cX10_sizeOf 9 = .ok (.iload_n 3, 1) := by decide +kernel
theorem dX10_sizeOf_10 : decode cX10_sizeOf 10 = .ok (.aload_n 0, 1) := by decide +kernel
theorem dX10_sizeOf_11 : decode cX10_sizeOf 11 = .ok (.getfield 16, 3) := by decide +kernel
theorem dX10_sizeOf_14 : decode cX10_sizeOf 14 = .ok (.bipush 32, 2) := by decide +kernel
theorem dX10_sizeOf_16 : decode cX10_sizeOf 16 = .ok (.iload_n 1, 1) := by decide +kernel
theorem dX10_sizeOf_17 : decode cX10_sizeOf 17 = .ok (.imul, 1) := by decide +kernel
theorem dX10_sizeOf_18 : decode cX10_sizeOf 18 = .ok (.iload 4, 2) := by decide +kernel
theorem dX10_sizeOf_20 : decode cX10_sizeOf 20 = .ok (.iadd, 1) := by decide +kernel
theorem dX10_sizeOf_21 : decode cX10_sizeOf 21 = .ok (.iaload, 1) := by decide +kernel
theorem dX10_sizeOf_22 : decode cX10_sizeOf 22 = .ok (.iconst 1, 1) := by decide +kernel
theorem dX10_sizeOf_23 : decode cX10_sizeOf 23 = .ok (.isub, 1) := by decide +kernel
theorem dX10_sizeOf_24 : decode cX10_sizeOf 24 = .ok (.iadd, 1) := by decide +kernel
theorem dX10_sizeOf_25 : decode cX10_sizeOf 25 = .ok (.istore_n 3, 1) := by decide +kernel
theorem dX10_sizeOf_26 : decode cX10_sizeOf 26 = .ok (.iinc 4 1, 3) := by decide +kernel
theorem dX10_sizeOf_29 : decode cX10_sizeOf 29 = .ok (.goto (-24), 3) := by decide +kernel
theorem dX10_sizeOf_32 : decode cX10_sizeOf 32 = .ok (.iload 4, 2) := by decide +kernel
theorem dX10_sizeOf_34 : decode cX10_sizeOf 34 = .ok (.iload_n 2, 1) := by decide +kernel
theorem dX10_sizeOf_35 : decode cX10_sizeOf 35 = .ok (.isub, 1) := by decide +kernel
theorem dX10_sizeOf_36 : decode cX10_sizeOf 36 = .ok (.ireturn, 1) := by decide +kernel
theorem dX10_parentOf_0 : decode cX10_parentOf 0 = .ok (.iload_n 2, 1) := by decide +kernel
theorem dX10_parentOf_1 : decode cX10_parentOf 1 = .ok (.iconst 1, 1) := by decide +kernel
theorem dX10_parentOf_2 : decode cX10_parentOf 2 = .ok (.isub, 1) := by decide +kernel
theorem dX10_parentOf_3 : decode cX10_parentOf 3 = .ok (.istore_n 3, 1) := by decide +kernel
theorem dX10_parentOf_4 : decode cX10_parentOf 4 = .ok (.iload_n 3, 1) := by decide +kernel
theorem dX10_parentOf_5 : decode cX10_parentOf 5 = .ok (.ifCond .lt 23, 3) := by decide +kernel
theorem dX10_parentOf_8 : decode cX10_parentOf 8 = .ok (.iload_n 3, 1) := by decide +kernel
theorem dX10_parentOf_9 : decode cX10_parentOf 9 = .ok (.aload_n 0, 1) := by decide +kernel
theorem dX10_parentOf_10 : decode cX10_parentOf 10 = .ok (.iload_n 1, 1) := by decide +kernel
theorem dX10_parentOf_11 : decode cX10_parentOf 11 = .ok (.iload_n 3, 1) := by decide +kernel
theorem dX10_parentOf_12 : decode cX10_parentOf 12 = .ok (.invokevirtual 128, 3) := by decide +kernel
theorem dX10_parentOf_15 : decode cX10_parentOf 15 = .ok (.iadd, 1) := by decide +kernel
theorem dX10_parentOf_16 : decode cX10_parentOf 16 = .ok (.iload_n 2, 1) := by decide +kernel
theorem dX10_parentOf_17 : decode cX10_parentOf 17 = .ok (.if_icmp .le 5, 3) := by decide +kernel
theorem dX10_parentOf_20 : decode cX10_parentOf 20 = .ok (.iload_n 3, 1) := by decide +kernel
theorem dX10_parentOf_21 : decode cX10_parentOf 21 = .ok (.ireturn, 1) := by decide +kernel
theorem dX10_parentOf_22 : decode cX10_parentOf 22 = .ok (.iinc 3 (-1), 3) := by decide +kernel
theorem dX10_parentOf_25 : decode cX10_parentOf 25 = .ok (.goto (-21), 3) := by decide +kernel
theorem dX10_parentOf_28 : decode cX10_parentOf 28 = .ok (.bipush (-6), 2) := by decide +kernel
theorem dX10_parentOf_30 : decode cX10_parentOf 30 = .ok (.ireturn, 1) := by decide +kernel
theorem dX10_depthOf_0 : decode cX10_depthOf 0 = .ok (.iconst 0, 1) := by decide +kernel
theorem dX10_depthOf_1 : decode cX10_depthOf 1 = .ok (.istore_n 3, 1) := by decide +kernel
theorem dX10_depthOf_2 : decode cX10_depthOf 2 = .ok (.iconst 0, 1) := by decide +kernel
theorem dX10_depthOf_3 : decode cX10_depthOf 3 = .ok (.istore 4, 2) := by decide +kernel
theorem dX10_depthOf_5 : decode cX10_depthOf 5 = .ok (.iload 4, 2) := by decide +kernel
theorem dX10_depthOf_7 : decode cX10_depthOf 7 = .ok (.iload_n 2, 1) := by decide +kernel
theorem dX10_depthOf_8 : decode cX10_depthOf 8 = .ok (.if_icmp .ge 31, 3) := by decide +kernel
theorem dX10_depthOf_11 : decode cX10_depthOf 11 = .ok (.iload_n 3, 1) := by decide +kernel
theorem dX10_depthOf_12 : decode cX10_depthOf 12 = .ok (.iload 4, 2) := by decide +kernel
theorem dX10_depthOf_14 : decode cX10_depthOf 14 = .ok (.aload_n 0, 1) := by decide +kernel
theorem dX10_depthOf_15 : decode cX10_depthOf 15 = .ok (.iload_n 1, 1) := by decide +kernel
theorem dX10_depthOf_16 : decode cX10_depthOf 16 = .ok (.iload 4, 2) := by decide +kernel
theorem dX10_depthOf_18 : decode cX10_depthOf 18 = .ok (.invokevirtual 128, 3) := by decide +kernel
theorem dX10_depthOf_21 : decode cX10_depthOf 21 = .ok (.iadd, 1) := by decide +kernel
theorem dX10_depthOf_22 : decode cX10_depthOf 22 = .ok (.iload_n 2, 1) := by decide +kernel
theorem dX10_depthOf_23 : decode cX10_depthOf 23 = .ok (.if_icmp .le 7, 3) := by decide +kernel
theorem dX10_depthOf_26 : decode cX10_depthOf 26 = .ok (.iconst 1, 1) := by decide +kernel
theorem dX10_depthOf_27 : decode cX10_depthOf 27 = .ok (.goto 4, 3) := by decide +kernel
theorem dX10_depthOf_30 : decode cX10_depthOf 30 = .ok (.iconst 0, 1) := by decide +kernel
theorem dX10_depthOf_31 : decode cX10_depthOf 31 = .ok (.iadd, 1) := by decide +kernel
theorem dX10_depthOf_32 : decode cX10_depthOf 32 = .ok (.istore_n 3, 1) := by decide +kernel
theorem dX10_depthOf_33 : decode cX10_depthOf 33 = .ok (.iinc 4 1, 3) := by decide +kernel
theorem dX10_depthOf_36 : decode cX10_depthOf 36 = .ok (.goto (-31), 3) := by decide +kernel
theorem dX10_depthOf_39 : decode cX10_depthOf 39 = .ok (.iload_n 3, 1) := by decide +kernel
theorem dX10_depthOf_40 : decode cX10_depthOf 40 = .ok (.ireturn, 1) := by decide +kernel
theorem dX10_node_0 : decode cX10_node 0 = .ok (.aload_n 0, 1) := by decide +kernel
theorem dX10_node_1 : decode cX10_node 1 = .ok (.iload_n 1, 1) := by decide +kernel
theorem dX10_node_2 : decode cX10_node 2 = .ok (.iload_n 2, 1) := by decide +kernel
theorem dX10_node_3 : decode cX10_node 3 = .ok (.invokevirtual 132, 3) := by decide +kernel
theorem dX10_node_6 : decode cX10_node 6 = .ok (.ifCond .ne 5, 3) := by decide +kernel
theorem dX10_node_9 : decode cX10_node 9 = .ok (.iconst (-1), 1) := by decide +kernel
theorem dX10_node_10 : decode cX10_node 10 = .ok (.ireturn, 1) := by decide +kernel
theorem dX10_node_11 : decode cX10_node 11 = .ok (.aload_n 0, 1) := by decide +kernel
theorem dX10_node_12 : decode cX10_node 12 = .ok (.iload_n 1, 1) := by decide +kernel
theorem dX10_node_13 : decode cX10_node 13 = .ok (.iload_n 2, 1) := by decide +kernel
theorem dX10_node_14 : decode cX10_node 14 = .ok (.invokevirtual 136, 3) := by decide +kernel
theorem dX10_node_17 : decode cX10_node 17 = .ok (.istore 4, 2) := by decide +kernel
theorem dX10_node_19 : decode cX10_node 19 = .ok (.iload_n 3, 1) := by decide +kernel
theorem dX10_node_20 : decode cX10_node 20 = .ok (.tableswitch 132 0 5 #[40, 52, 55, 106, 118, 125], 40) := by decide +kernel
theorem dX10_node_60 : decode cX10_node 60 = .ok (.aload_n 0, 1) := by decide +kernel
theorem dX10_node_61 : decode cX10_node 61 = .ok (.getfield 13, 3) := by decide +kernel
theorem dX10_node_64 : decode cX10_node 64 = .ok (.bipush 32, 2) := by decide +kernel
theorem dX10_node_66 : decode cX10_node 66 = .ok (.iload_n 1, 1) := by decide +kernel
theorem dX10_node_67 : decode cX10_node 67 = .ok (.imul, 1) := by decide +kernel
theorem dX10_node_68 : decode cX10_node 68 = .ok (.iload_n 2, 1) := by decide +kernel
theorem dX10_node_69 : decode cX10_node 69 = .ok (.iadd, 1) := by decide +kernel
theorem dX10_node_70 : decode cX10_node 70 = .ok (.iaload, 1) := by decide +kernel
theorem dX10_node_71 : decode cX10_node 71 = .ok (.ireturn, 1) := by decide +kernel
theorem dX10_node_72 : decode cX10_node 72 = .ok (.iload 4, 2) := by decide +kernel
theorem dX10_node_74 : decode cX10_node 74 = .ok (.ireturn, 1) := by decide +kernel
theorem dX10_node_75 : decode cX10_node 75 = .ok (.iconst 0, 1) := by decide +kernel
theorem dX10_node_76 : decode cX10_node 76 = .ok (.istore 5, 2) := by decide +kernel
theorem dX10_node_78 : decode cX10_node 78 = .ok (.iload 4, 2) := by decide +kernel
theorem dX10_node_80 : decode cX10_node 80 = .ok (.iconst 1, 1) := by decide +kernel
theorem dX10_node_81 : decode cX10_node 81 = .ok (.iadd, 1) := by decide +kernel
theorem dX10_node_82 : decode cX10_node 82 = .ok (.istore 6, 2) := by decide +kernel
theorem dX10_node_84 : decode cX10_node 84 = .ok (.iload 4, 2) := by decide +kernel
theorem dX10_node_86 : decode cX10_node 86 = .ok (.ifCond .lt 27, 3) := by decide +kernel
theorem dX10_node_89 : decode cX10_node 89 = .ok (.iload 6, 2) := by decide +kernel
theorem dX10_node_91 : decode cX10_node 91 = .ok (.iload_n 2, 1) := by decide +kernel
theorem dX10_node_92 : decode cX10_node 92 = .ok (.if_icmp .ge 21, 3) := by decide +kernel
theorem dX10_node_95 : decode cX10_node 95 = .ok (.iinc 5 1, 3) := by decide +kernel
theorem dX10_node_98 : decode cX10_node 98 = .ok (.iload 6, 2) := by decide +kernel
theorem dX10_node_100 : decode cX10_node 100 = .ok (.aload_n 0, 1) := by decide +kernel
theorem dX10_node_101 : decode cX10_node 101 = .ok (.iload_n 1, 1) := by decide +kernel
theorem dX10_node_102 : decode cX10_node 102 = .ok (.iload 6, 2) := by decide +kernel
theorem dX10_node_104 : decode cX10_node 104 = .ok (.invokevirtual 128, 3) := by decide +kernel
theorem dX10_node_107 : decode cX10_node 107 = .ok (.iadd, 1) := by decide +kernel
theorem dX10_node_108 : decode cX10_node 108 = .ok (.istore 6, 2) := by decide +kernel
theorem dX10_node_110 : decode cX10_node 110 = .ok (.goto (-26), 3) := by decide +kernel
theorem dX10_node_113 : decode cX10_node 113 = .ok (.iload 4, 2) := by decide +kernel
theorem dX10_node_115 : decode cX10_node 115 = .ok (.ifCond .ge 8, 3) := by decide +kernel
theorem dX10_node_118 : decode cX10_node 118 = .ok (.bipush (-6), 2) := by decide +kernel
theorem dX10_node_120 : decode cX10_node 120 = .ok (.goto 5, 3) := by decide +kernel
theorem dX10_node_123 : decode cX10_node 123 = .ok (.iload 5, 2) := by decide +kernel
theorem dX10_node_125 : decode cX10_node 125 = .ok (.ireturn, 1) := by decide +kernel
theorem dX10_node_126 : decode cX10_node 126 = .ok (.aload_n 0, 1) := by decide +kernel
theorem dX10_node_127 : decode cX10_node 127 = .ok (.getfield 16, 3) := by decide +kernel
theorem dX10_node_130 : decode cX10_node 130 = .ok (.bipush 32, 2) := by decide +kernel
theorem dX10_node_132 : decode cX10_node 132 = .ok (.iload_n 1, 1) := by decide +kernel
theorem dX10_node_133 : decode cX10_node 133 = .ok (.imul, 1) := by decide +kernel
theorem dX10_node_134 : decode cX10_node 134 = .ok (.iload_n 2, 1) := by decide +kernel
theorem dX10_node_135 : decode cX10_node 135 = .ok (.iadd, 1) := by decide +kernel
theorem dX10_node_136 : decode cX10_node 136 = .ok (.iaload, 1) := by decide +kernel
theorem dX10_node_137 : decode cX10_node 137 = .ok (.ireturn, 1) := by decide +kernel
theorem dX10_node_138 : decode cX10_node 138 = .ok (.aload_n 0, 1) := by decide +kernel
theorem dX10_node_139 : decode cX10_node 139 = .ok (.iload_n 1, 1) := by decide +kernel
theorem dX10_node_140 : decode cX10_node 140 = .ok (.iload_n 2, 1) := by decide +kernel
theorem dX10_node_141 : decode cX10_node 141 = .ok (.invokevirtual 128, 3) := by decide +kernel
theorem dX10_node_144 : decode cX10_node 144 = .ok (.ireturn, 1) := by decide +kernel
theorem dX10_node_145 : decode cX10_node 145 = .ok (.aload_n 0, 1) := by decide +kernel
theorem dX10_node_146 : decode cX10_node 146 = .ok (.iload_n 1, 1) := by decide +kernel
theorem dX10_node_147 : decode cX10_node 147 = .ok (.iload_n 2, 1) := by decide +kernel
theorem dX10_node_148 : decode cX10_node 148 = .ok (.invokevirtual 139, 3) := by decide +kernel
theorem dX10_node_151 : decode cX10_node 151 = .ok (.ireturn, 1) := by decide +kernel
theorem dX10_node_152 : decode cX10_node 152 = .ok (.bipush (-2), 2) := by decide +kernel
theorem dX10_node_154 : decode cX10_node 154 = .ok (.ireturn, 1) := by decide +kernel
theorem dX10_write_0 : decode cX10_write 0 = .ok (.aload_n 0, 1) := by decide +kernel
theorem dX10_write_1 : decode cX10_write 1 = .ok (.iconst 0, 1) := by decide +kernel
theorem dX10_write_2 : decode cX10_write 2 = .ok (.putfield 142, 3) := by decide +kernel
theorem dX10_write_5 : decode cX10_write 5 = .ok (.iconst 0, 1) := by decide +kernel
theorem dX10_write_6 : decode cX10_write 6 = .ok (.istore_n 2, 1) := by decide +kernel
theorem dX10_write_7 : decode cX10_write 7 = .ok (.iload_n 2, 1) := by decide +kernel
theorem dX10_write_8 : decode cX10_write 8 = .ok (.aload_n 0, 1) := by decide +kernel
theorem dX10_write_9 : decode cX10_write 9 = .ok (.getfield 7, 3) := by decide +kernel
theorem dX10_write_12 : decode cX10_write 12 = .ok (.iload_n 1, 1) := by decide +kernel
theorem dX10_write_13 : decode cX10_write 13 = .ok (.iaload, 1) := by decide +kernel
theorem dX10_write_14 : decode cX10_write 14 = .ok (.if_icmp .ge 140, 3) := by decide +kernel
theorem dX10_write_17 : decode cX10_write 17 = .ok (.aload_n 0, 1) := by decide +kernel
theorem dX10_write_18 : decode cX10_write 18 = .ok (.getfield 25, 3) := by decide +kernel
theorem dX10_write_21 : decode cX10_write 21 = .ok (.aload_n 0, 1) := by decide +kernel
theorem dX10_write_22 : decode cX10_write 22 = .ok (.getfield 142, 3) := by decide +kernel
theorem dX10_write_25 : decode cX10_write 25 = .ok (.aload_n 0, 1) := by decide +kernel
theorem dX10_write_26 : decode cX10_write 26 = .ok (.getfield 13, 3) := by decide +kernel
theorem dX10_write_29 : decode cX10_write 29 = .ok (.bipush 32, 2) := by decide +kernel
theorem dX10_write_31 : decode cX10_write 31 = .ok (.iload_n 1, 1) := by decide +kernel
theorem dX10_write_32 : decode cX10_write 32 = .ok (.imul, 1) := by decide +kernel
theorem dX10_write_33 : decode cX10_write 33 = .ok (.iload_n 2, 1) := by decide +kernel
theorem dX10_write_34 : decode cX10_write 34 = .ok (.iadd, 1) := by decide +kernel
theorem dX10_write_35 : decode cX10_write 35 = .ok (.iaload, 1) := by decide +kernel
theorem dX10_write_36 : decode cX10_write 36 = .ok (.iastore, 1) := by decide +kernel
theorem dX10_write_37 : decode cX10_write 37 = .ok (.aload_n 0, 1) := by decide +kernel
theorem dX10_write_38 : decode cX10_write 38 = .ok (.dup, 1) := by decide +kernel
theorem dX10_write_39 : decode cX10_write 39 = .ok (.getfield 142, 3) := by decide +kernel
theorem dX10_write_42 : decode cX10_write 42 = .ok (.iconst 1, 1) := by decide +kernel
theorem dX10_write_43 : decode cX10_write 43 = .ok (.iadd, 1) := by decide +kernel
theorem dX10_write_44 : decode cX10_write 44 = .ok (.putfield 142, 3) := by decide +kernel
theorem dX10_write_47 : decode cX10_write 47 = .ok (.aload_n 0, 1) := by decide +kernel
theorem dX10_write_48 : decode cX10_write 48 = .ok (.getfield 16, 3) := by decide +kernel
theorem dX10_write_51 : decode cX10_write 51 = .ok (.bipush 32, 2) := by decide +kernel
theorem dX10_write_53 : decode cX10_write 53 = .ok (.iload_n 1, 1) := by decide +kernel
theorem dX10_write_54 : decode cX10_write 54 = .ok (.imul, 1) := by decide +kernel
theorem dX10_write_55 : decode cX10_write 55 = .ok (.iload_n 2, 1) := by decide +kernel
theorem dX10_write_56 : decode cX10_write 56 = .ok (.iadd, 1) := by decide +kernel
theorem dX10_write_57 : decode cX10_write 57 = .ok (.iaload, 1) := by decide +kernel
theorem dX10_write_58 : decode cX10_write 58 = .ok (.ifCond .le 27, 3) := by decide +kernel
theorem dX10_write_61 : decode cX10_write 61 = .ok (.aload_n 0, 1) := by decide +kernel
theorem dX10_write_62 : decode cX10_write 62 = .ok (.getfield 25, 3) := by decide +kernel
theorem dX10_write_65 : decode cX10_write 65 = .ok (.aload_n 0, 1) := by decide +kernel
theorem dX10_write_66 : decode cX10_write 66 = .ok (.getfield 142, 3) := by decide +kernel
theorem dX10_write_69 : decode cX10_write 69 = .ok (.bipush 40, 2) := by decide +kernel
theorem dX10_write_71 : decode cX10_write 71 = .ok (.iastore, 1) := by decide +kernel
theorem dX10_write_72 : decode cX10_write 72 = .ok (.aload_n 0, 1) := by decide +kernel
theorem dX10_write_73 : decode cX10_write 73 = .ok (.dup, 1) := by decide +kernel
theorem dX10_write_74 : decode cX10_write 74 = .ok (.getfield 142, 3) := by decide +kernel
theorem dX10_write_77 : decode cX10_write 77 = .ok (.iconst 1, 1) := by decide +kernel
theorem dX10_write_78 : decode cX10_write 78 = .ok (.iadd, 1) := by decide +kernel
theorem dX10_write_79 : decode cX10_write 79 = .ok (.putfield 142, 3) := by decide +kernel
theorem dX10_write_82 : decode cX10_write 82 = .ok (.goto 66, 3) := by decide +kernel
theorem dX10_write_85 : decode cX10_write 85 = .ok (.iload_n 2, 1) := by decide +kernel
theorem dX10_write_86 : decode cX10_write 86 = .ok (.iconst 1, 1) := by decide +kernel
theorem dX10_write_87 : decode cX10_write 87 = .ok (.isub, 1) := by decide +kernel
theorem dX10_write_88 : decode cX10_write 88 = .ok (.istore_n 3, 1) := by decide +kernel
theorem dX10_write_89 : decode cX10_write 89 = .ok (.iload_n 3, 1) := by decide +kernel
theorem dX10_write_90 : decode cX10_write 90 = .ok (.ifCond .lt 58, 3) := by decide +kernel
theorem dX10_write_93 : decode cX10_write 93 = .ok (.aload_n 0, 1) := by decide +kernel
theorem dX10_write_94 : decode cX10_write 94 = .ok (.getfield 16, 3) := by decide +kernel
theorem dX10_write_97 : decode cX10_write 97 = .ok (.bipush 32, 2) := by decide +kernel
theorem dX10_write_99 : decode cX10_write 99 = .ok (.iload_n 1, 1) := by decide +kernel
theorem dX10_write_100 : decode cX10_write 100 = .ok (.imul, 1) := by decide +kernel
theorem dX10_write_101 : decode cX10_write 101 = .ok (.iload_n 3, 1) := by decide +kernel
theorem dX10_write_102 : decode cX10_write 102 = .ok (.iadd, 1) := by decide +kernel
theorem dX10_write_103 : decode cX10_write 103 = .ok (.iaload, 1) := by decide +kernel
theorem dX10_write_104 : decode cX10_write 104 = .ok (.ifCond .le 38, 3) := by decide +kernel
theorem dX10_write_107 : decode cX10_write 107 = .ok (.iload_n 3, 1) := by decide +kernel
theorem dX10_write_108 : decode cX10_write 108 = .ok (.aload_n 0, 1) := by decide +kernel
theorem dX10_write_109 : decode cX10_write 109 = .ok (.iload_n 1, 1) := by decide +kernel
theorem dX10_write_110 : decode cX10_write 110 = .ok (.iload_n 3, 1) := by decide +kernel
theorem dX10_write_111 : decode cX10_write 111 = .ok (.invokevirtual 128, 3) := by decide +kernel
theorem dX10_write_114 : decode cX10_write 114 = .ok (.iadd, 1) := by decide +kernel
theorem dX10_write_115 : decode cX10_write 115 = .ok (.iload_n 2, 1) := by decide +kernel
theorem dX10_write_116 : decode cX10_write 116 = .ok (.iconst 1, 1) := by decide +kernel
theorem dX10_write_117 : decode cX10_write 117 = .ok (.iadd, 1) := by decide +kernel
theorem dX10_write_118 : decode cX10_write 118 = .ok (.if_icmp .ne 24, 3) := by decide +kernel
theorem dX10_write_121 : decode cX10_write 121 = .ok (.aload_n 0, 1) := by decide +kernel
theorem dX10_write_122 : decode cX10_write 122 = .ok (.getfield 25, 3) := by decide +kernel
theorem dX10_write_125 : decode cX10_write 125 = .ok (.aload_n 0, 1) := by decide +kernel
theorem dX10_write_126 : decode cX10_write 126 = .ok (.getfield 142, 3) := by decide +kernel
theorem dX10_write_129 : decode cX10_write 129 = .ok (.bipush 41, 2) := by decide +kernel
theorem dX10_write_131 : decode cX10_write 131 = .ok (.iastore, 1) := by decide +kernel
theorem dX10_write_132 : decode cX10_write 132 = .ok (.aload_n 0, 1) := by decide +kernel
theorem dX10_write_133 : decode cX10_write 133 = .ok (.dup, 1) := by decide +kernel
theorem dX10_write_134 : decode cX10_write 134 = .ok (.getfield 142, 3) := by decide +kernel
theorem dX10_write_137 : decode cX10_write 137 = .ok (.iconst 1, 1) := by decide +kernel
theorem dX10_write_138 : decode cX10_write 138 = .ok (.iadd, 1) := by decide +kernel
theorem dX10_write_139 : decode cX10_write 139 = .ok (.putfield 142, 3) := by decide +kernel
theorem dX10_write_142 : decode cX10_write 142 = .ok (.iinc 3 (-1), 3) := by decide +kernel
theorem dX10_write_145 : decode cX10_write 145 = .ok (.goto (-56), 3) := by decide +kernel
theorem dX10_write_148 : decode cX10_write 148 = .ok (.iinc 2 1, 3) := by decide +kernel
theorem dX10_write_151 : decode cX10_write 151 = .ok (.goto (-144), 3) := by decide +kernel
theorem dX10_write_154 : decode cX10_write 154 = .ok (.return_, 1) := by decide +kernel
theorem dX10_sign_0 : decode cX10_sign 0 = .ok (.iload_n 1, 1) := by decide +kernel
theorem dX10_sign_1 : decode cX10_sign 1 = .ok (.invokestatic 114, 3) := by decide +kernel
theorem dX10_sign_4 : decode cX10_sign 4 = .ok (.ifCond .eq 12, 3) := by decide +kernel
theorem dX10_sign_7 : decode cX10_sign 7 = .ok (.aload_n 0, 1) := by decide +kernel
theorem dX10_sign_8 : decode cX10_sign 8 = .ok (.getfield 7, 3) := by decide +kernel
theorem dX10_sign_11 : decode cX10_sign 11 = .ok (.iload_n 1, 1) := by decide +kernel
theorem dX10_sign_12 : decode cX10_sign 12 = .ok (.iaload, 1) := by decide +kernel
theorem dX10_sign_13 : decode cX10_sign 13 = .ok (.ifCond .ne 5, 3) := by decide +kernel
theorem dX10_sign_16 : decode cX10_sign 16 = .ok (.iconst (-1), 1) := by decide +kernel
theorem dX10_sign_17 : decode cX10_sign 17 = .ok (.ireturn, 1) := by decide +kernel
theorem dX10_sign_18 : decode cX10_sign 18 = .ok (.aload_n 0, 1) := by decide +kernel
theorem dX10_sign_19 : decode cX10_sign 19 = .ok (.iload_n 1, 1) := by decide +kernel
theorem dX10_sign_20 : decode cX10_sign 20 = .ok (.invokevirtual 145, 3) := by decide +kernel
theorem dX10_sign_23 : decode cX10_sign 23 = .ok (.iload_n 2, 1) := by decide +kernel
theorem dX10_sign_24 : decode cX10_sign 24 = .ok (.iconst (-1), 1) := by decide +kernel
theorem dX10_sign_25 : decode cX10_sign 25 = .ok (.if_icmp .ne 10, 3) := by decide +kernel
theorem dX10_sign_28 : decode cX10_sign 28 = .ok (.aload_n 0, 1) := by decide +kernel
theorem dX10_sign_29 : decode cX10_sign 29 = .ok (.getfield 142, 3) := by decide +kernel
theorem dX10_sign_32 : decode cX10_sign 32 = .ok (.goto 28, 3) := by decide +kernel
theorem dX10_sign_35 : decode cX10_sign 35 = .ok (.iload_n 2, 1) := by decide +kernel
theorem dX10_sign_36 : decode cX10_sign 36 = .ok (.iconst 0, 1) := by decide +kernel
theorem dX10_sign_37 : decode cX10_sign 37 = .ok (.aload_n 0, 1) := by decide +kernel
theorem dX10_sign_38 : decode cX10_sign 38 = .ok (.getfield 142, 3) := by decide +kernel
theorem dX10_sign_41 : decode cX10_sign 41 = .ok (.iconst 1, 1) := by decide +kernel
theorem dX10_sign_42 : decode cX10_sign 42 = .ok (.isub, 1) := by decide +kernel
theorem dX10_sign_43 : decode cX10_sign 43 = .ok (.invokestatic 110, 3) := by decide +kernel
theorem dX10_sign_46 : decode cX10_sign 46 = .ok (.ifCond .eq 12, 3) := by decide +kernel
theorem dX10_sign_49 : decode cX10_sign 49 = .ok (.aload_n 0, 1) := by decide +kernel
theorem dX10_sign_50 : decode cX10_sign 50 = .ok (.getfield 25, 3) := by decide +kernel
theorem dX10_sign_53 : decode cX10_sign 53 = .ok (.iload_n 2, 1) := by decide +kernel
theorem dX10_sign_54 : decode cX10_sign 54 = .ok (.iaload, 1) := by decide +kernel
theorem dX10_sign_55 : decode cX10_sign 55 = .ok (.goto 5, 3) := by decide +kernel
theorem dX10_sign_58 : decode cX10_sign 58 = .ok (.bipush (-6), 2) := by decide +kernel
theorem dX10_sign_60 : decode cX10_sign 60 = .ok (.ireturn, 1) := by decide +kernel
theorem dX10_copy_0 : decode cX10_copy 0 = .ok (.iconst 0, 1) := by decide +kernel
theorem dX10_copy_1 : decode cX10_copy 1 = .ok (.istore 5, 2) := by decide +kernel
theorem dX10_copy_3 : decode cX10_copy 3 = .ok (.iload 5, 2) := by decide +kernel
theorem dX10_copy_5 : decode cX10_copy 5 = .ok (.iload_n 3, 1) := by decide +kernel
theorem dX10_copy_6 : decode cX10_copy 6 = .ok (.if_icmp .ge 63, 3) := by decide +kernel
theorem dX10_copy_9 : decode cX10_copy 9 = .ok (.aload_n 0, 1) := by decide +kernel
theorem dX10_copy_10 : decode cX10_copy 10 = .ok (.getfield 13, 3) := by decide +kernel
theorem dX10_copy_13 : decode cX10_copy 13 = .ok (.bipush 32, 2) := by decide +kernel
theorem dX10_copy_15 : decode cX10_copy 15 = .ok (.iload 4, 2) := by decide +kernel
theorem dX10_copy_17 : decode cX10_copy 17 = .ok (.imul, 1) := by decide +kernel
theorem dX10_copy_18 : decode cX10_copy 18 = .ok (.iload 5, 2) := by decide +kernel
theorem dX10_copy_20 : decode cX10_copy 20 = .ok (.iadd, 1) := by decide +kernel
theorem dX10_copy_21 : decode cX10_copy 21 = .ok (.aload_n 0, 1) := by decide +kernel
theorem dX10_copy_22 : decode cX10_copy 22 = .ok (.getfield 13, 3) := by decide +kernel
theorem dX10_copy_25 : decode cX10_copy 25 = .ok (.bipush 32, 2) := by decide +kernel
theorem dX10_copy_27 : decode cX10_copy 27 = .ok (.iload_n 1, 1) := by decide +kernel
theorem dX10_copy_28 : decode cX10_copy 28 = .ok (.imul, 1) := by decide +kernel
theorem dX10_copy_29 : decode cX10_copy 29 = .ok (.iload_n 2, 1) := by decide +kernel
theorem dX10_copy_30 : decode cX10_copy 30 = .ok (.iadd, 1) := by decide +kernel
theorem dX10_copy_31 : decode cX10_copy 31 = .ok (.iload 5, 2) := by decide +kernel
theorem dX10_copy_33 : decode cX10_copy 33 = .ok (.iadd, 1) := by decide +kernel
theorem dX10_copy_34 : decode cX10_copy 34 = .ok (.iaload, 1) := by decide +kernel
theorem dX10_copy_35 : decode cX10_copy 35 = .ok (.iastore, 1) := by decide +kernel
theorem dX10_copy_36 : decode cX10_copy 36 = .ok (.aload_n 0, 1) := by decide +kernel
theorem dX10_copy_37 : decode cX10_copy 37 = .ok (.getfield 16, 3) := by decide +kernel
theorem dX10_copy_40 : decode cX10_copy 40 = .ok (.bipush 32, 2) := by decide +kernel
theorem dX10_copy_42 : decode cX10_copy 42 = .ok (.iload 4, 2) := by decide +kernel
theorem dX10_copy_44 : decode cX10_copy 44 = .ok (.imul, 1) := by decide +kernel
theorem dX10_copy_45 : decode cX10_copy 45 = .ok (.iload 5, 2) := by decide +kernel
theorem dX10_copy_47 : decode cX10_copy 47 = .ok (.iadd, 1) := by decide +kernel
theorem dX10_copy_48 : decode cX10_copy 48 = .ok (.aload_n 0, 1) := by decide +kernel
theorem dX10_copy_49 : decode cX10_copy 49 = .ok (.getfield 16, 3) := by decide +kernel
theorem dX10_copy_52 : decode cX10_copy 52 = .ok (.bipush 32, 2) := by decide +kernel
theorem dX10_copy_54 : decode cX10_copy 54 = .ok (.iload_n 1, 1) := by decide +kernel
theorem dX10_copy_55 : decode cX10_copy 55 = .ok (.imul, 1) := by decide +kernel
theorem dX10_copy_56 : decode cX10_copy 56 = .ok (.iload_n 2, 1) := by decide +kernel
theorem dX10_copy_57 : decode cX10_copy 57 = .ok (.iadd, 1) := by decide +kernel
theorem dX10_copy_58 : decode cX10_copy 58 = .ok (.iload 5, 2) := by decide +kernel
theorem dX10_copy_60 : decode cX10_copy 60 = .ok (.iadd, 1) := by decide +kernel
theorem dX10_copy_61 : decode cX10_copy 61 = .ok (.iaload, 1) := by decide +kernel
theorem dX10_copy_62 : decode cX10_copy 62 = .ok (.iastore, 1) := by decide +kernel
theorem dX10_copy_63 : decode cX10_copy 63 = .ok (.iinc 5 1, 3) := by decide +kernel
theorem dX10_copy_66 : decode cX10_copy 66 = .ok (.goto (-63), 3) := by decide +kernel
theorem dX10_copy_69 : decode cX10_copy 69 = .ok (.aload_n 0, 1) := by decide +kernel
theorem dX10_copy_70 : decode cX10_copy 70 = .ok (.getfield 7, 3) := by decide +kernel
theorem dX10_copy_73 : decode cX10_copy 73 = .ok (.iload 4, 2) := by decide +kernel
theorem dX10_copy_75 : decode cX10_copy 75 = .ok (.iload_n 3, 1) := by decide +kernel
theorem dX10_copy_76 : decode cX10_copy 76 = .ok (.iastore, 1) := by decide +kernel
theorem dX10_copy_77 : decode cX10_copy 77 = .ok (.return_, 1) := by decide +kernel
theorem dX10_take_0 : decode cX10_take 0 = .ok (.aload_n 0, 1) := by decide +kernel
theorem dX10_take_1 : decode cX10_take 1 = .ok (.iload_n 1, 1) := by decide +kernel
theorem dX10_take_2 : decode cX10_take 2 = .ok (.iload_n 2, 1) := by decide +kernel
theorem dX10_take_3 : decode cX10_take 3 = .ok (.invokevirtual 132, 3) := by decide +kernel
theorem dX10_take_6 : decode cX10_take 6 = .ok (.ifCond .eq 10, 3) := by decide +kernel
theorem dX10_take_9 : decode cX10_take 9 = .ok (.iload_n 3, 1) := by decide +kernel
theorem dX10_take_10 : decode cX10_take 10 = .ok (.invokestatic 114, 3) := by decide +kernel
theorem dX10_take_13 : decode cX10_take 13 = .ok (.ifCond .ne 5, 3) := by decide +kernel
theorem dX10_take_16 : decode cX10_take 16 = .ok (.iconst (-1), 1) := by decide +kernel
theorem dX10_take_17 : decode cX10_take 17 = .ok (.ireturn, 1) := by decide +kernel
theorem dX10_take_18 : decode cX10_take 18 = .ok (.aload_n 0, 1) := by decide +kernel
theorem dX10_take_19 : decode cX10_take 19 = .ok (.iload_n 1, 1) := by decide +kernel
theorem dX10_take_20 : decode cX10_take 20 = .ok (.iload_n 2, 1) := by decide +kernel
theorem dX10_take_21 : decode cX10_take 21 = .ok (.invokevirtual 128, 3) := by decide +kernel
theorem dX10_take_24 : decode cX10_take 24 = .ok (.istore 4, 2) := by decide +kernel
theorem dX10_take_26 : decode cX10_take 26 = .ok (.aload_n 0, 1) := by decide +kernel
theorem dX10_take_27 : decode cX10_take 27 = .ok (.iload_n 1, 1) := by decide +kernel
theorem dX10_take_28 : decode cX10_take 28 = .ok (.iload_n 2, 1) := by decide +kernel
theorem dX10_take_29 : decode cX10_take 29 = .ok (.iload 4, 2) := by decide +kernel
theorem dX10_take_31 : decode cX10_take 31 = .ok (.bipush 18, 2) := by decide +kernel
theorem dX10_take_33 : decode cX10_take 33 = .ok (.invokevirtual 149, 3) := by decide +kernel
theorem dX10_take_36 : decode cX10_take 36 = .ok (.aload_n 0, 1) := by decide +kernel
theorem dX10_take_37 : decode cX10_take 37 = .ok (.bipush 18, 2) := by decide +kernel
theorem dX10_take_39 : decode cX10_take 39 = .ok (.iconst 0, 1) := by decide +kernel
theorem dX10_take_40 : decode cX10_take 40 = .ok (.iload 4, 2) := by decide +kernel
theorem dX10_take_42 : decode cX10_take 42 = .ok (.iload_n 3, 1) := by decide +kernel
theorem dX10_take_43 : decode cX10_take 43 = .ok (.invokevirtual 149, 3) := by decide +kernel
theorem dX10_take_46 : decode cX10_take 46 = .ok (.iload 4, 2) := by decide +kernel
theorem dX10_take_48 : decode cX10_take 48 = .ok (.ireturn, 1) := by decide +kernel
theorem dX10_same_0 : decode cX10_same 0 = .ok (.aload_n 0, 1) := by decide +kernel
theorem dX10_same_1 : decode cX10_same 1 = .ok (.iload_n 1, 1) := by decide +kernel
theorem dX10_same_2 : decode cX10_same 2 = .ok (.iload_n 2, 1) := by decide +kernel
theorem dX10_same_3 : decode cX10_same 3 = .ok (.invokevirtual 128, 3) := by decide +kernel
theorem dX10_same_6 : decode cX10_same 6 = .ok (.istore 5, 2) := by decide +kernel
theorem dX10_same_8 : decode cX10_same 8 = .ok (.iload 5, 2) := by decide +kernel
theorem dX10_same_10 : decode cX10_same 10 = .ok (.aload_n 0, 1) := by decide +kernel
theorem dX10_same_11 : decode cX10_same 11 = .ok (.iload_n 3, 1) := by decide +kernel
theorem dX10_same_12 : decode cX10_same 12 = .ok (.iload 4, 2) := by decide +kernel
theorem dX10_same_14 : decode cX10_same 14 = .ok (.invokevirtual 128, 3) := by decide +kernel
theorem dX10_same_17 : decode cX10_same 17 = .ok (.if_icmp .ne 7, 3) := by decide +kernel
theorem dX10_same_20 : decode cX10_same 20 = .ok (.iconst 1, 1) := by decide +kernel
theorem dX10_same_21 : decode cX10_same 21 = .ok (.goto 4, 3) := by decide +kernel
theorem dX10_same_24 : decode cX10_same 24 = .ok (.iconst 0, 1) := by decide +kernel
theorem dX10_same_25 : decode cX10_same 25 = .ok (.istore 6, 2) := by decide +kernel
theorem dX10_same_27 : decode cX10_same 27 = .ok (.iconst 0, 1) := by decide +kernel
theorem dX10_same_28 : decode cX10_same 28 = .ok (.istore 7, 2) := by decide +kernel
theorem dX10_same_30 : decode cX10_same 30 = .ok (.iload 7, 2) := by decide +kernel
theorem dX10_same_32 : decode cX10_same 32 = .ok (.iload 5, 2) := by decide +kernel
theorem dX10_same_34 : decode cX10_same 34 = .ok (.if_icmp .ge 85, 3) := by decide +kernel
theorem dX10_same_37 : decode cX10_same 37 = .ok (.iload 6, 2) := by decide +kernel
theorem dX10_same_39 : decode cX10_same 39 = .ok (.ifCond .eq 80, 3) := by decide +kernel
theorem dX10_same_42 : decode cX10_same 42 = .ok (.aload_n 0, 1) := by decide +kernel
theorem dX10_same_43 : decode cX10_same 43 = .ok (.getfield 13, 3) := by decide +kernel
theorem dX10_same_46 : decode cX10_same 46 = .ok (.bipush 32, 2) := by decide +kernel
theorem dX10_same_48 : decode cX10_same 48 = .ok (.iload_n 1, 1) := by decide +kernel
theorem dX10_same_49 : decode cX10_same 49 = .ok (.imul, 1) := by decide +kernel
theorem dX10_same_50 : decode cX10_same 50 = .ok (.iload_n 2, 1) := by decide +kernel
theorem dX10_same_51 : decode cX10_same 51 = .ok (.iadd, 1) := by decide +kernel
theorem dX10_same_52 : decode cX10_same 52 = .ok (.iload 7, 2) := by decide +kernel
theorem dX10_same_54 : decode cX10_same 54 = .ok (.iadd, 1) := by decide +kernel
theorem dX10_same_55 : decode cX10_same 55 = .ok (.iaload, 1) := by decide +kernel
theorem dX10_same_56 : decode cX10_same 56 = .ok (.aload_n 0, 1) := by decide +kernel
theorem dX10_same_57 : decode cX10_same 57 = .ok (.getfield 13, 3) := by decide +kernel
theorem dX10_same_60 : decode cX10_same 60 = .ok (.bipush 32, 2) := by decide +kernel
theorem dX10_same_62 : decode cX10_same 62 = .ok (.iload_n 3, 1) := by decide +kernel
theorem dX10_same_63 : decode cX10_same 63 = .ok (.imul, 1) := by decide +kernel
theorem dX10_same_64 : decode cX10_same 64 = .ok (.iload 4, 2) := by decide +kernel
theorem dX10_same_66 : decode cX10_same 66 = .ok (.iadd, 1) := by decide +kernel
theorem dX10_same_67 : decode cX10_same 67 = .ok (.iload 7, 2) := by decide +kernel
theorem dX10_same_69 : decode cX10_same 69 = .ok (.iadd, 1) := by decide +kernel
theorem dX10_same_70 : decode cX10_same 70 = .ok (.iaload, 1) := by decide +kernel
theorem dX10_same_71 : decode cX10_same 71 = .ok (.if_icmp .ne 39, 3) := by decide +kernel
theorem dX10_same_74 : decode cX10_same 74 = .ok (.aload_n 0, 1) := by decide +kernel
theorem dX10_same_75 : decode cX10_same 75 = .ok (.getfield 16, 3) := by decide +kernel
theorem dX10_same_78 : decode cX10_same 78 = .ok (.bipush 32, 2) := by decide +kernel
theorem dX10_same_80 : decode cX10_same 80 = .ok (.iload_n 1, 1) := by decide +kernel
theorem dX10_same_81 : decode cX10_same 81 = .ok (.imul, 1) := by decide +kernel
theorem dX10_same_82 : decode cX10_same 82 = .ok (.iload_n 2, 1) := by decide +kernel
theorem dX10_same_83 : decode cX10_same 83 = .ok (.iadd, 1) := by decide +kernel
theorem dX10_same_84 : decode cX10_same 84 = .ok (.iload 7, 2) := by decide +kernel
theorem dX10_same_86 : decode cX10_same 86 = .ok (.iadd, 1) := by decide +kernel
theorem dX10_same_87 : decode cX10_same 87 = .ok (.iaload, 1) := by decide +kernel
theorem dX10_same_88 : decode cX10_same 88 = .ok (.aload_n 0, 1) := by decide +kernel
theorem dX10_same_89 : decode cX10_same 89 = .ok (.getfield 16, 3) := by decide +kernel
theorem dX10_same_92 : decode cX10_same 92 = .ok (.bipush 32, 2) := by decide +kernel
theorem dX10_same_94 : decode cX10_same 94 = .ok (.iload_n 3, 1) := by decide +kernel
theorem dX10_same_95 : decode cX10_same 95 = .ok (.imul, 1) := by decide +kernel
theorem dX10_same_96 : decode cX10_same 96 = .ok (.iload 4, 2) := by decide +kernel
theorem dX10_same_98 : decode cX10_same 98 = .ok (.iadd, 1) := by decide +kernel
theorem dX10_same_99 : decode cX10_same 99 = .ok (.iload 7, 2) := by decide +kernel
theorem dX10_same_101 : decode cX10_same 101 = .ok (.iadd, 1) := by decide +kernel
theorem dX10_same_102 : decode cX10_same 102 = .ok (.iaload, 1) := by decide +kernel
theorem dX10_same_103 : decode cX10_same 103 = .ok (.if_icmp .ne 7, 3) := by decide +kernel
theorem dX10_same_106 : decode cX10_same 106 = .ok (.iconst 1, 1) := by decide +kernel
theorem dX10_same_107 : decode cX10_same 107 = .ok (.goto 4, 3) := by decide +kernel
theorem dX10_same_110 : decode cX10_same 110 = .ok (.iconst 0, 1) := by decide +kernel
theorem dX10_same_111 : decode cX10_same 111 = .ok (.istore 6, 2) := by decide +kernel
theorem dX10_same_113 : decode cX10_same 113 = .ok (.iinc 7 1, 3) := by decide +kernel
theorem dX10_same_116 : decode cX10_same 116 = .ok (.goto (-86), 3) := by decide +kernel
theorem dX10_same_119 : decode cX10_same 119 = .ok (.iload 6, 2) := by decide +kernel
theorem dX10_same_121 : decode cX10_same 121 = .ok (.ireturn, 1) := by decide +kernel
theorem dX10_alike_0 : decode cX10_alike 0 = .ok (.aload_n 0, 1) := by decide +kernel
theorem dX10_alike_1 : decode cX10_alike 1 = .ok (.iload_n 1, 1) := by decide +kernel
theorem dX10_alike_2 : decode cX10_alike 2 = .ok (.iload_n 2, 1) := by decide +kernel
theorem dX10_alike_3 : decode cX10_alike 3 = .ok (.invokevirtual 132, 3) := by decide +kernel
theorem dX10_alike_6 : decode cX10_alike 6 = .ok (.ifCond .eq 13, 3) := by decide +kernel
theorem dX10_alike_9 : decode cX10_alike 9 = .ok (.aload_n 0, 1) := by decide +kernel
theorem dX10_alike_10 : decode cX10_alike 10 = .ok (.iload_n 3, 1) := by decide +kernel
theorem dX10_alike_11 : decode cX10_alike 11 = .ok (.iload 4, 2) := by decide +kernel
theorem dX10_alike_13 : decode cX10_alike 13 = .ok (.invokevirtual 132, 3) := by decide +kernel
theorem dX10_alike_16 : decode cX10_alike 16 = .ok (.ifCond .ne 5, 3) := by decide +kernel
theorem dX10_alike_19 : decode cX10_alike 19 = .ok (.iconst (-1), 1) := by decide +kernel
theorem dX10_alike_20 : decode cX10_alike 20 = .ok (.ireturn, 1) := by decide +kernel
theorem dX10_alike_21 : decode cX10_alike 21 = .ok (.aload_n 0, 1) := by decide +kernel
theorem dX10_alike_22 : decode cX10_alike 22 = .ok (.iload_n 1, 1) := by decide +kernel
theorem dX10_alike_23 : decode cX10_alike 23 = .ok (.iload_n 2, 1) := by decide +kernel
theorem dX10_alike_24 : decode cX10_alike 24 = .ok (.iload_n 3, 1) := by decide +kernel
theorem dX10_alike_25 : decode cX10_alike 25 = .ok (.iload 4, 2) := by decide +kernel
theorem dX10_alike_27 : decode cX10_alike 27 = .ok (.invokevirtual 153, 3) := by decide +kernel
theorem dX10_alike_30 : decode cX10_alike 30 = .ok (.ifCond .eq 7, 3) := by decide +kernel
theorem dX10_alike_33 : decode cX10_alike 33 = .ok (.iconst 1, 1) := by decide +kernel
theorem dX10_alike_34 : decode cX10_alike 34 = .ok (.goto 4, 3) := by decide +kernel
theorem dX10_alike_37 : decode cX10_alike 37 = .ok (.iconst 0, 1) := by decide +kernel
theorem dX10_alike_38 : decode cX10_alike 38 = .ok (.ireturn, 1) := by decide +kernel
theorem dX10_price_0 : decode cX10_price 0 = .ok (.iload_n 1, 1) := by decide +kernel
theorem dX10_price_1 : decode cX10_price 1 = .ok (.iconst 0, 1) := by decide +kernel
theorem dX10_price_2 : decode cX10_price 2 = .ok (.iconst 2, 1) := by decide +kernel
theorem dX10_price_3 : decode cX10_price 3 = .ok (.invokestatic 110, 3) := by decide +kernel
theorem dX10_price_6 : decode cX10_price 6 = .ok (.ifCond .eq 13, 3) := by decide +kernel
theorem dX10_price_9 : decode cX10_price 9 = .ok (.iload_n 2, 1) := by decide +kernel
theorem dX10_price_10 : decode cX10_price 10 = .ok (.iconst 0, 1) := by decide +kernel
theorem dX10_price_11 : decode cX10_price 11 = .ok (.bipush 9, 2) := by decide +kernel
theorem dX10_price_13 : decode cX10_price 13 = .ok (.invokestatic 110, 3) := by decide +kernel
theorem dX10_price_16 : decode cX10_price 16 = .ok (.ifCond .ne 6, 3) := by decide +kernel
theorem dX10_price_19 : decode cX10_price 19 = .ok (.bipush (-2), 2) := by decide +kernel
theorem dX10_price_21 : decode cX10_price 21 = .ok (.ireturn, 1) := by decide +kernel
theorem dX10_price_22 : decode cX10_price 22 = .ok (.aload_n 0, 1) := by decide +kernel
theorem dX10_price_23 : decode cX10_price 23 = .ok (.getfield 22, 3) := by decide +kernel
theorem dX10_price_26 : decode cX10_price 26 = .ok (.iload_n 1, 1) := by decide +kernel
theorem dX10_price_27 : decode cX10_price 27 = .ok (.iaload, 1) := by decide +kernel
theorem dX10_price_28 : decode cX10_price 28 = .ok (.istore_n 3, 1) := by decide +kernel
theorem dX10_price_29 : decode cX10_price 29 = .ok (.aload_n 0, 1) := by decide +kernel
theorem dX10_price_30 : decode cX10_price 30 = .ok (.getfield 22, 3) := by decide +kernel
theorem dX10_price_33 : decode cX10_price 33 = .ok (.iload_n 1, 1) := by decide +kernel
theorem dX10_price_34 : decode cX10_price 34 = .ok (.iload_n 2, 1) := by decide +kernel
theorem dX10_price_35 : decode cX10_price 35 = .ok (.iastore, 1) := by decide +kernel
theorem dX10_price_36 : decode cX10_price 36 = .ok (.iload_n 3, 1) := by decide +kernel
theorem dX10_price_37 : decode cX10_price 37 = .ok (.ireturn, 1) := by decide +kernel
theorem dX10_layOrders_0 : decode cX10_layOrders 0 = .ok (.aload_n 0, 1) := by decide +kernel
theorem dX10_layOrders_1 : decode cX10_layOrders 1 = .ok (.aload_n 0, 1) := by decide +kernel
theorem dX10_layOrders_2 : decode cX10_layOrders 2 = .ok (.getfield 7, 3) := by decide +kernel
theorem dX10_layOrders_5 : decode cX10_layOrders 5 = .ok (.iload_n 1, 1) := by decide +kernel
theorem dX10_layOrders_6 : decode cX10_layOrders 6 = .ok (.iaload, 1) := by decide +kernel
theorem dX10_layOrders_7 : decode cX10_layOrders 7 = .ok (.putfield 157, 3) := by decide +kernel
theorem dX10_layOrders_10 : decode cX10_layOrders 10 = .ok (.aload_n 0, 1) := by decide +kernel
theorem dX10_layOrders_11 : decode cX10_layOrders 11 = .ok (.aload_n 0, 1) := by decide +kernel
theorem dX10_layOrders_12 : decode cX10_layOrders 12 = .ok (.getfield 7, 3) := by decide +kernel
theorem dX10_layOrders_15 : decode cX10_layOrders 15 = .ok (.iload_n 2, 1) := by decide +kernel
theorem dX10_layOrders_16 : decode cX10_layOrders 16 = .ok (.iaload, 1) := by decide +kernel
theorem dX10_layOrders_17 : decode cX10_layOrders 17 = .ok (.putfield 160, 3) := by decide +kernel
theorem dX10_layOrders_20 : decode cX10_layOrders 20 = .ok (.iconst 0, 1) := by decide +kernel
theorem dX10_layOrders_21 : decode cX10_layOrders 21 = .ok (.istore_n 3, 1) := by decide +kernel
theorem dX10_layOrders_22 : decode cX10_layOrders 22 = .ok (.iload_n 3, 1) := by decide +kernel
theorem dX10_layOrders_23 : decode cX10_layOrders 23 = .ok (.aload_n 0, 1) := by decide +kernel
theorem dX10_layOrders_24 : decode cX10_layOrders 24 = .ok (.getfield 157, 3) := by decide +kernel
theorem dX10_layOrders_27 : decode cX10_layOrders 27 = .ok (.if_icmp .ge 68, 3) := by decide +kernel
theorem dX10_layOrders_30 : decode cX10_layOrders 30 = .ok (.aload_n 0, 1) := by decide +kernel
theorem dX10_layOrders_31 : decode cX10_layOrders 31 = .ok (.getfield 28, 3) := by decide +kernel
theorem dX10_layOrders_34 : decode cX10_layOrders 34 = .ok (.iload_n 3, 1) := by decide +kernel
theorem dX10_layOrders_35 : decode cX10_layOrders 35 = .ok (.iload_n 3, 1) := by decide +kernel
theorem dX10_layOrders_36 : decode cX10_layOrders 36 = .ok (.aload_n 0, 1) := by decide +kernel
theorem dX10_layOrders_37 : decode cX10_layOrders 37 = .ok (.iload_n 1, 1) := by decide +kernel
theorem dX10_layOrders_38 : decode cX10_layOrders 38 = .ok (.iload_n 3, 1) := by decide +kernel
theorem dX10_layOrders_39 : decode cX10_layOrders 39 = .ok (.invokevirtual 128, 3) := by decide +kernel
theorem dX10_layOrders_42 : decode cX10_layOrders 42 = .ok (.iadd, 1) := by decide +kernel
theorem dX10_layOrders_43 : decode cX10_layOrders 43 = .ok (.aload_n 0, 1) := by decide +kernel
theorem dX10_layOrders_44 : decode cX10_layOrders 44 = .ok (.iload_n 1, 1) := by decide +kernel
theorem dX10_layOrders_45 : decode cX10_layOrders 45 = .ok (.iload_n 3, 1) := by decide +kernel
theorem dX10_layOrders_46 : decode cX10_layOrders 46 = .ok (.invokevirtual 139, 3) := by decide +kernel
theorem dX10_layOrders_49 : decode cX10_layOrders 49 = .ok (.isub, 1) := by decide +kernel
theorem dX10_layOrders_50 : decode cX10_layOrders 50 = .ok (.iastore, 1) := by decide +kernel
theorem dX10_layOrders_51 : decode cX10_layOrders 51 = .ok (.aload_n 0, 1) := by decide +kernel
theorem dX10_layOrders_52 : decode cX10_layOrders 52 = .ok (.getfield 46, 3) := by decide +kernel
theorem dX10_layOrders_55 : decode cX10_layOrders 55 = .ok (.aload_n 0, 1) := by decide +kernel
theorem dX10_layOrders_56 : decode cX10_layOrders 56 = .ok (.getfield 28, 3) := by decide +kernel
theorem dX10_layOrders_59 : decode cX10_layOrders 59 = .ok (.iload_n 3, 1) := by decide +kernel
theorem dX10_layOrders_60 : decode cX10_layOrders 60 = .ok (.iaload, 1) := by decide +kernel
theorem dX10_layOrders_61 : decode cX10_layOrders 61 = .ok (.iload_n 3, 1) := by decide +kernel
theorem dX10_layOrders_62 : decode cX10_layOrders 62 = .ok (.iastore, 1) := by decide +kernel
theorem dX10_layOrders_63 : decode cX10_layOrders 63 = .ok (.aload_n 0, 1) := by decide +kernel
theorem dX10_layOrders_64 : decode cX10_layOrders 64 = .ok (.getfield 34, 3) := by decide +kernel
theorem dX10_layOrders_67 : decode cX10_layOrders 67 = .ok (.aload_n 0, 1) := by decide +kernel
theorem dX10_layOrders_68 : decode cX10_layOrders 68 = .ok (.getfield 28, 3) := by decide +kernel
theorem dX10_layOrders_71 : decode cX10_layOrders 71 = .ok (.iload_n 3, 1) := by decide +kernel
theorem dX10_layOrders_72 : decode cX10_layOrders 72 = .ok (.iaload, 1) := by decide +kernel
theorem dX10_layOrders_73 : decode cX10_layOrders 73 = .ok (.aload_n 0, 1) := by decide +kernel
theorem dX10_layOrders_74 : decode cX10_layOrders 74 = .ok (.getfield 28, 3) := by decide +kernel
theorem dX10_layOrders_77 : decode cX10_layOrders 77 = .ok (.iload_n 3, 1) := by decide +kernel
theorem dX10_layOrders_78 : decode cX10_layOrders 78 = .ok (.iaload, 1) := by decide +kernel
theorem dX10_layOrders_79 : decode cX10_layOrders 79 = .ok (.aload_n 0, 1) := by decide +kernel
theorem dX10_layOrders_80 : decode cX10_layOrders 80 = .ok (.iload_n 1, 1) := by decide +kernel
theorem dX10_layOrders_81 : decode cX10_layOrders 81 = .ok (.iload_n 3, 1) := by decide +kernel
theorem dX10_layOrders_82 : decode cX10_layOrders 82 = .ok (.invokevirtual 128, 3) := by decide +kernel
theorem dX10_layOrders_85 : decode cX10_layOrders 85 = .ok (.isub, 1) := by decide +kernel
theorem dX10_layOrders_86 : decode cX10_layOrders 86 = .ok (.iconst 1, 1) := by decide +kernel
theorem dX10_layOrders_87 : decode cX10_layOrders 87 = .ok (.iadd, 1) := by decide +kernel
theorem dX10_layOrders_88 : decode cX10_layOrders 88 = .ok (.iastore, 1) := by decide +kernel
theorem dX10_layOrders_89 : decode cX10_layOrders 89 = .ok (.iinc 3 1, 3) := by decide +kernel
theorem dX10_layOrders_92 : decode cX10_layOrders 92 = .ok (.goto (-70), 3) := by decide +kernel
theorem dX10_layOrders_95 : decode cX10_layOrders 95 = .ok (.iconst 0, 1) := by decide +kernel
theorem dX10_layOrders_96 : decode cX10_layOrders 96 = .ok (.istore_n 3, 1) := by decide +kernel
theorem dX10_layOrders_97 : decode cX10_layOrders 97 = .ok (.iload_n 3, 1) := by decide +kernel
theorem dX10_layOrders_98 : decode cX10_layOrders 98 = .ok (.aload_n 0, 1) := by decide +kernel
theorem dX10_layOrders_99 : decode cX10_layOrders 99 = .ok (.getfield 160, 3) := by decide +kernel
theorem dX10_layOrders_102 : decode cX10_layOrders 102 = .ok (.if_icmp .ge 68, 3) := by decide +kernel
theorem dX10_layOrders_105 : decode cX10_layOrders 105 = .ok (.aload_n 0, 1) := by decide +kernel
theorem dX10_layOrders_106 : decode cX10_layOrders 106 = .ok (.getfield 31, 3) := by decide +kernel
theorem dX10_layOrders_109 : decode cX10_layOrders 109 = .ok (.iload_n 3, 1) := by decide +kernel
theorem dX10_layOrders_110 : decode cX10_layOrders 110 = .ok (.iload_n 3, 1) := by decide +kernel
theorem dX10_layOrders_111 : decode cX10_layOrders 111 = .ok (.aload_n 0, 1) := by decide +kernel
theorem dX10_layOrders_112 : decode cX10_layOrders 112 = .ok (.iload_n 2, 1) := by decide +kernel
theorem dX10_layOrders_113 : decode cX10_layOrders 113 = .ok (.iload_n 3, 1) := by decide +kernel
theorem dX10_layOrders_114 : decode cX10_layOrders 114 = .ok (.invokevirtual 128, 3) := by decide +kernel
theorem dX10_layOrders_117 : decode cX10_layOrders 117 = .ok (.iadd, 1) := by decide +kernel
theorem dX10_layOrders_118 : decode cX10_layOrders 118 = .ok (.aload_n 0, 1) := by decide +kernel
theorem dX10_layOrders_119 : decode cX10_layOrders 119 = .ok (.iload_n 2, 1) := by decide +kernel
theorem dX10_layOrders_120 : decode cX10_layOrders 120 = .ok (.iload_n 3, 1) := by decide +kernel
theorem dX10_layOrders_121 : decode cX10_layOrders 121 = .ok (.invokevirtual 139, 3) := by decide +kernel
theorem dX10_layOrders_124 : decode cX10_layOrders 124 = .ok (.isub, 1) := by decide +kernel
theorem dX10_layOrders_125 : decode cX10_layOrders 125 = .ok (.iastore, 1) := by decide +kernel
theorem dX10_layOrders_126 : decode cX10_layOrders 126 = .ok (.aload_n 0, 1) := by decide +kernel
theorem dX10_layOrders_127 : decode cX10_layOrders 127 = .ok (.getfield 49, 3) := by decide +kernel
theorem dX10_layOrders_130 : decode cX10_layOrders 130 = .ok (.aload_n 0, 1) := by decide +kernel
theorem dX10_layOrders_131 : decode cX10_layOrders 131 = .ok (.getfield 31, 3) := by decide +kernel
theorem dX10_layOrders_134 : decode cX10_layOrders 134 = .ok (.iload_n 3, 1) := by decide +kernel
theorem dX10_layOrders_135 : decode cX10_layOrders 135 = .ok (.iaload, 1) := by decide +kernel
theorem dX10_layOrders_136 : decode cX10_layOrders 136 = .ok (.iload_n 3, 1) := by decide +kernel
theorem dX10_layOrders_137 : decode cX10_layOrders 137 = .ok (.iastore, 1) := by decide +kernel
theorem dX10_layOrders_138 : decode cX10_layOrders 138 = .ok (.aload_n 0, 1) := by decide +kernel
theorem dX10_layOrders_139 : decode cX10_layOrders 139 = .ok (.getfield 37, 3) := by decide +kernel
theorem dX10_layOrders_142 : decode cX10_layOrders 142 = .ok (.aload_n 0, 1) := by decide +kernel
theorem dX10_layOrders_143 : decode cX10_layOrders 143 = .ok (.getfield 31, 3) := by decide +kernel
theorem dX10_layOrders_146 : decode cX10_layOrders 146 = .ok (.iload_n 3, 1) := by decide +kernel
theorem dX10_layOrders_147 : decode cX10_layOrders 147 = .ok (.iaload, 1) := by decide +kernel
theorem dX10_layOrders_148 : decode cX10_layOrders 148 = .ok (.aload_n 0, 1) := by decide +kernel
theorem dX10_layOrders_149 : decode cX10_layOrders 149 = .ok (.getfield 31, 3) := by decide +kernel
theorem dX10_layOrders_152 : decode cX10_layOrders 152 = .ok (.iload_n 3, 1) := by decide +kernel
theorem dX10_layOrders_153 : decode cX10_layOrders 153 = .ok (.iaload, 1) := by decide +kernel
theorem dX10_layOrders_154 : decode cX10_layOrders 154 = .ok (.aload_n 0, 1) := by decide +kernel
theorem dX10_layOrders_155 : decode cX10_layOrders 155 = .ok (.iload_n 2, 1) := by decide +kernel
theorem dX10_layOrders_156 : decode cX10_layOrders 156 = .ok (.iload_n 3, 1) := by decide +kernel
theorem dX10_layOrders_157 : decode cX10_layOrders 157 = .ok (.invokevirtual 128, 3) := by decide +kernel
theorem dX10_layOrders_160 : decode cX10_layOrders 160 = .ok (.isub, 1) := by decide +kernel
theorem dX10_layOrders_161 : decode cX10_layOrders 161 = .ok (.iconst 1, 1) := by decide +kernel
theorem dX10_layOrders_162 : decode cX10_layOrders 162 = .ok (.iadd, 1) := by decide +kernel
theorem dX10_layOrders_163 : decode cX10_layOrders 163 = .ok (.iastore, 1) := by decide +kernel
theorem dX10_layOrders_164 : decode cX10_layOrders 164 = .ok (.iinc 3 1, 3) := by decide +kernel
theorem dX10_layOrders_167 : decode cX10_layOrders 167 = .ok (.goto (-70), 3) := by decide +kernel
theorem dX10_layOrders_170 : decode cX10_layOrders 170 = .ok (.return_, 1) := by decide +kernel
theorem dX10_lesser_0 : decode cX10_lesser 0 = .ok (.iload_n 0, 1) := by decide +kernel
theorem dX10_lesser_1 : decode cX10_lesser 1 = .ok (.iload_n 1, 1) := by decide +kernel
theorem dX10_lesser_2 : decode cX10_lesser 2 = .ok (.if_icmp .ge 7, 3) := by decide +kernel
theorem dX10_lesser_5 : decode cX10_lesser 5 = .ok (.iload_n 0, 1) := by decide +kernel
theorem dX10_lesser_6 : decode cX10_lesser 6 = .ok (.goto 4, 3) := by decide +kernel
theorem dX10_lesser_9 : decode cX10_lesser 9 = .ok (.iload_n 1, 1) := by decide +kernel
theorem dX10_lesser_10 : decode cX10_lesser 10 = .ok (.ireturn, 1) := by decide +kernel
theorem dX10_work_0 : decode cX10_work 0 = .ok (.iconst 1, 1) := by decide +kernel
theorem dX10_work_1 : decode cX10_work 1 = .ok (.istore_n 1, 1) := by decide +kernel
theorem dX10_work_2 : decode cX10_work 2 = .ok (.iload_n 1, 1) := by decide +kernel
theorem dX10_work_3 : decode cX10_work 3 = .ok (.aload_n 0, 1) := by decide +kernel
theorem dX10_work_4 : decode cX10_work 4 = .ok (.getfield 157, 3) := by decide +kernel
theorem dX10_work_7 : decode cX10_work 7 = .ok (.if_icmp .gt 31, 3) := by decide +kernel
theorem dX10_work_10 : decode cX10_work 10 = .ok (.iconst 1, 1) := by decide +kernel
theorem dX10_work_11 : decode cX10_work 11 = .ok (.istore_n 2, 1) := by decide +kernel
theorem dX10_work_12 : decode cX10_work 12 = .ok (.iload_n 2, 1) := by decide +kernel
theorem dX10_work_13 : decode cX10_work 13 = .ok (.aload_n 0, 1) := by decide +kernel
theorem dX10_work_14 : decode cX10_work 14 = .ok (.getfield 160, 3) := by decide +kernel
theorem dX10_work_17 : decode cX10_work 17 = .ok (.if_icmp .gt 15, 3) := by decide +kernel
theorem dX10_work_20 : decode cX10_work 20 = .ok (.aload_n 0, 1) := by decide +kernel
theorem dX10_work_21 : decode cX10_work 21 = .ok (.iload_n 1, 1) := by decide +kernel
theorem dX10_work_22 : decode cX10_work 22 = .ok (.iload_n 2, 1) := by decide +kernel
theorem dX10_work_23 : decode cX10_work 23 = .ok (.invokevirtual 163, 3) := by decide +kernel
theorem dX10_work_26 : decode cX10_work 26 = .ok (.iinc 2 1, 3) := by decide +kernel
theorem dX10_work_29 : decode cX10_work 29 = .ok (.goto (-17), 3) := by decide +kernel
theorem dX10_work_32 : decode cX10_work 32 = .ok (.iinc 1 1, 3) := by decide +kernel
theorem dX10_work_35 : decode cX10_work 35 = .ok (.goto (-33), 3) := by decide +kernel
theorem dX10_work_38 : decode cX10_work 38 = .ok (.aload_n 0, 1) := by decide +kernel
theorem dX10_work_39 : decode cX10_work 39 = .ok (.getfield 52, 3) := by decide +kernel
theorem dX10_work_42 : decode cX10_work 42 = .ok (.bipush 17, 2) := by decide +kernel
theorem dX10_work_44 : decode cX10_work 44 = .ok (.aload_n 0, 1) := by decide +kernel
theorem dX10_work_45 : decode cX10_work 45 = .ok (.getfield 157, 3) := by decide +kernel
theorem dX10_work_48 : decode cX10_work 48 = .ok (.imul, 1) := by decide +kernel
theorem dX10_work_49 : decode cX10_work 49 = .ok (.aload_n 0, 1) := by decide +kernel
theorem dX10_work_50 : decode cX10_work 50 = .ok (.getfield 160, 3) := by decide +kernel
theorem dX10_work_53 : decode cX10_work 53 = .ok (.iadd, 1) := by decide +kernel
theorem dX10_work_54 : decode cX10_work 54 = .ok (.iaload, 1) := by decide +kernel
theorem dX10_work_55 : decode cX10_work 55 = .ok (.ireturn, 1) := by decide +kernel
theorem dX10_workForest_0 : decode cX10_workForest 0 = .ok (.aload_n 0, 1) := by decide +kernel
theorem dX10_workForest_1 : decode cX10_workForest 1 = .ok (.getfield 34, 3) := by decide +kernel
theorem dX10_workForest_4 : decode cX10_workForest 4 = .ok (.iload_n 1, 1) := by decide +kernel
theorem dX10_workForest_5 : decode cX10_workForest 5 = .ok (.iaload, 1) := by decide +kernel
theorem dX10_workForest_6 : decode cX10_workForest 6 = .ok (.istore_n 3, 1) := by decide +kernel
theorem dX10_workForest_7 : decode cX10_workForest 7 = .ok (.aload_n 0, 1) := by decide +kernel
theorem dX10_workForest_8 : decode cX10_workForest 8 = .ok (.getfield 37, 3) := by decide +kernel
theorem dX10_workForest_11 : decode cX10_workForest 11 = .ok (.iload_n 2, 1) := by decide +kernel
theorem dX10_workForest_12 : decode cX10_workForest 12 = .ok (.iaload, 1) := by decide +kernel
theorem dX10_workForest_13 : decode cX10_workForest 13 = .ok (.istore 4, 2) := by decide +kernel
theorem dX10_workForest_15 : decode cX10_workForest 15 = .ok (.aload_n 0, 1) := by decide +kernel
theorem dX10_workForest_16 : decode cX10_workForest 16 = .ok (.getfield 55, 3) := by decide +kernel
theorem dX10_workForest_19 : decode cX10_workForest 19 = .ok (.bipush 17, 2) := by decide +kernel
theorem dX10_workForest_21 : decode cX10_workForest 21 = .ok (.iload_n 3, 1) := by decide +kernel
theorem dX10_workForest_22 : decode cX10_workForest 22 = .ok (.iconst 1, 1) := by decide +kernel
theorem dX10_workForest_23 : decode cX10_workForest 23 = .ok (.isub, 1) := by decide +kernel
theorem dX10_workForest_24 : decode cX10_workForest 24 = .ok (.imul, 1) := by decide +kernel
theorem dX10_workForest_25 : decode cX10_workForest 25 = .ok (.iload 4, 2) := by decide +kernel
theorem dX10_workForest_27 : decode cX10_workForest 27 = .ok (.iadd, 1) := by decide +kernel
theorem dX10_workForest_28 : decode cX10_workForest 28 = .ok (.iconst 1, 1) := by decide +kernel
theorem dX10_workForest_29 : decode cX10_workForest 29 = .ok (.isub, 1) := by decide +kernel
theorem dX10_workForest_30 : decode cX10_workForest 30 = .ok (.iconst 0, 1) := by decide +kernel
theorem dX10_workForest_31 : decode cX10_workForest 31 = .ok (.iastore, 1) := by decide +kernel
theorem dX10_workForest_32 : decode cX10_workForest 32 = .ok (.iload_n 3, 1) := by decide +kernel
theorem dX10_workForest_33 : decode cX10_workForest 33 = .ok (.istore 5, 2) := by decide +kernel
theorem dX10_workForest_35 : decode cX10_workForest 35 = .ok (.iload 5, 2) := by decide +kernel
theorem dX10_workForest_37 : decode cX10_workForest 37 = .ok (.iload_n 1, 1) := by decide +kernel
theorem dX10_workForest_38 : decode cX10_workForest 38 = .ok (.if_icmp .gt 54, 3) := by decide +kernel
theorem dX10_workForest_41 : decode cX10_workForest 41 = .ok (.aload_n 0, 1) := by decide +kernel
theorem dX10_workForest_42 : decode cX10_workForest 42 = .ok (.getfield 55, 3) := by decide +kernel
theorem dX10_workForest_45 : decode cX10_workForest 45 = .ok (.bipush 17, 2) := by decide +kernel
theorem dX10_workForest_47 : decode cX10_workForest 47 = .ok (.iload 5, 2) := by decide +kernel
theorem dX10_workForest_49 : decode cX10_workForest 49 = .ok (.imul, 1) := by decide +kernel
theorem dX10_workForest_50 : decode cX10_workForest 50 = .ok (.iload 4, 2) := by decide +kernel
theorem dX10_workForest_52 : decode cX10_workForest 52 = .ok (.iadd, 1) := by decide +kernel
theorem dX10_workForest_53 : decode cX10_workForest 53 = .ok (.iconst 1, 1) := by decide +kernel
theorem dX10_workForest_54 : decode cX10_workForest 54 = .ok (.isub, 1) := by decide +kernel
theorem dX10_workForest_55 : decode cX10_workForest 55 = .ok (.aload_n 0, 1) := by decide +kernel
theorem dX10_workForest_56 : decode cX10_workForest 56 = .ok (.getfield 55, 3) := by decide +kernel
theorem dX10_workForest_59 : decode cX10_workForest 59 = .ok (.bipush 17, 2) := by decide +kernel
theorem dX10_workForest_61 : decode cX10_workForest 61 = .ok (.iload 5, 2) := by decide +kernel
theorem dX10_workForest_63 : decode cX10_workForest 63 = .ok (.iconst 1, 1) := by decide +kernel
theorem dX10_workForest_64 : decode cX10_workForest 64 = .ok (.isub, 1) := by decide +kernel
theorem dX10_workForest_65 : decode cX10_workForest 65 = .ok (.imul, 1) := by decide +kernel
theorem dX10_workForest_66 : decode cX10_workForest 66 = .ok (.iload 4, 2) := by decide +kernel
theorem dX10_workForest_68 : decode cX10_workForest 68 = .ok (.iadd, 1) := by decide +kernel
theorem dX10_workForest_69 : decode cX10_workForest 69 = .ok (.iconst 1, 1) := by decide +kernel
theorem dX10_workForest_70 : decode cX10_workForest 70 = .ok (.isub, 1) := by decide +kernel
theorem dX10_workForest_71 : decode cX10_workForest 71 = .ok (.iaload, 1) := by decide +kernel
theorem dX10_workForest_72 : decode cX10_workForest 72 = .ok (.aload_n 0, 1) := by decide +kernel
theorem dX10_workForest_73 : decode cX10_workForest 73 = .ok (.getfield 43, 3) := by decide +kernel
theorem dX10_workForest_76 : decode cX10_workForest 76 = .ok (.aload_n 0, 1) := by decide +kernel
theorem dX10_workForest_77 : decode cX10_workForest 77 = .ok (.getfield 46, 3) := by decide +kernel
theorem dX10_workForest_80 : decode cX10_workForest 80 = .ok (.iload 5, 2) := by decide +kernel
theorem dX10_workForest_82 : decode cX10_workForest 82 = .ok (.iaload, 1) := by decide +kernel
theorem dX10_workForest_83 : decode cX10_workForest 83 = .ok (.iaload, 1) := by decide +kernel
theorem dX10_workForest_84 : decode cX10_workForest 84 = .ok (.iadd, 1) := by decide +kernel
theorem dX10_workForest_85 : decode cX10_workForest 85 = .ok (.iastore, 1) := by decide +kernel
theorem dX10_workForest_86 : decode cX10_workForest 86 = .ok (.iinc 5 1, 3) := by decide +kernel
theorem dX10_workForest_89 : decode cX10_workForest 89 = .ok (.goto (-54), 3) := by decide +kernel
theorem dX10_workForest_92 : decode cX10_workForest 92 = .ok (.iload 4, 2) := by decide +kernel
theorem dX10_workForest_94 : decode cX10_workForest 94 = .ok (.istore 5, 2) := by decide +kernel
theorem dX10_workForest_96 : decode cX10_workForest 96 = .ok (.iload 5, 2) := by decide +kernel
theorem dX10_workForest_98 : decode cX10_workForest 98 = .ok (.iload_n 2, 1) := by decide +kernel
theorem dX10_workForest_99 : decode cX10_workForest 99 = .ok (.if_icmp .gt 46, 3) := by decide +kernel
theorem dX10_workForest_102 : decode cX10_workForest 102 = .ok (.aload_n 0, 1) := by decide +kernel
theorem dX10_workForest_103 : decode cX10_workForest 103 = .ok (.getfield 55, 3) := by decide +kernel
theorem dX10_workForest_106 : decode cX10_workForest 106 = .ok (.bipush 17, 2) := by decide +kernel
theorem dX10_workForest_108 : decode cX10_workForest 108 = .ok (.iload_n 3, 1) := by decide +kernel
theorem dX10_workForest_109 : decode cX10_workForest 109 = .ok (.iconst 1, 1) := by decide +kernel
theorem dX10_workForest_110 : decode cX10_workForest 110 = .ok (.isub, 1) := by decide +kernel
theorem dX10_workForest_111 : decode cX10_workForest 111 = .ok (.imul, 1) := by decide +kernel
theorem dX10_workForest_112 : decode cX10_workForest 112 = .ok (.iload 5, 2) := by decide +kernel
theorem dX10_workForest_114 : decode cX10_workForest 114 = .ok (.iadd, 1) := by decide +kernel
theorem dX10_workForest_115 : decode cX10_workForest 115 = .ok (.aload_n 0, 1) := by decide +kernel
theorem dX10_workForest_116 : decode cX10_workForest 116 = .ok (.getfield 55, 3) := by decide +kernel
theorem dX10_workForest_119 : decode cX10_workForest 119 = .ok (.bipush 17, 2) := by decide +kernel
theorem dX10_workForest_121 : decode cX10_workForest 121 = .ok (.iload_n 3, 1) := by decide +kernel
theorem dX10_workForest_122 : decode cX10_workForest 122 = .ok (.iconst 1, 1) := by decide +kernel
theorem dX10_workForest_123 : decode cX10_workForest 123 = .ok (.isub, 1) := by decide +kernel
theorem dX10_workForest_124 : decode cX10_workForest 124 = .ok (.imul, 1) := by decide +kernel
theorem dX10_workForest_125 : decode cX10_workForest 125 = .ok (.iload 5, 2) := by decide +kernel
theorem dX10_workForest_127 : decode cX10_workForest 127 = .ok (.iadd, 1) := by decide +kernel
theorem dX10_workForest_128 : decode cX10_workForest 128 = .ok (.iconst 1, 1) := by decide +kernel
theorem dX10_workForest_129 : decode cX10_workForest 129 = .ok (.isub, 1) := by decide +kernel
theorem dX10_workForest_130 : decode cX10_workForest 130 = .ok (.iaload, 1) := by decide +kernel
theorem dX10_workForest_131 : decode cX10_workForest 131 = .ok (.aload_n 0, 1) := by decide +kernel
theorem dX10_workForest_132 : decode cX10_workForest 132 = .ok (.getfield 22, 3) := by decide +kernel
theorem dX10_workForest_135 : decode cX10_workForest 135 = .ok (.iconst 1, 1) := by decide +kernel
theorem dX10_workForest_136 : decode cX10_workForest 136 = .ok (.iaload, 1) := by decide +kernel
theorem dX10_workForest_137 : decode cX10_workForest 137 = .ok (.iadd, 1) := by decide +kernel
theorem dX10_workForest_138 : decode cX10_workForest 138 = .ok (.iastore, 1) := by decide +kernel
theorem dX10_workForest_139 : decode cX10_workForest 139 = .ok (.iinc 5 1, 3) := by decide +kernel
theorem dX10_workForest_142 : decode cX10_workForest 142 = .ok (.goto (-46), 3) := by decide +kernel
theorem dX10_workForest_145 : decode cX10_workForest 145 = .ok (.iload_n 3, 1) := by decide +kernel
theorem dX10_workForest_146 : decode cX10_workForest 146 = .ok (.istore 5, 2) := by decide +kernel
theorem dX10_workForest_148 : decode cX10_workForest 148 = .ok (.iload 5, 2) := by decide +kernel
theorem dX10_workForest_150 : decode cX10_workForest 150 = .ok (.iload_n 1, 1) := by decide +kernel
theorem dX10_workForest_151 : decode cX10_workForest 151 = .ok (.if_icmp .gt 253, 3) := by decide +kernel
theorem dX10_workForest_154 : decode cX10_workForest 154 = .ok (.iload 4, 2) := by decide +kernel
theorem dX10_workForest_156 : decode cX10_workForest 156 = .ok (.istore 6, 2) := by decide +kernel
theorem dX10_workForest_158 : decode cX10_workForest 158 = .ok (.iload 6, 2) := by decide +kernel
theorem dX10_workForest_160 : decode cX10_workForest 160 = .ok (.iload_n 2, 1) := by decide +kernel
theorem dX10_workForest_161 : decode cX10_workForest 161 = .ok (.if_icmp .gt 237, 3) := by decide +kernel
theorem dX10_workForest_164 : decode cX10_workForest 164 = .ok (.aload_n 0, 1) := by decide +kernel
theorem dX10_workForest_165 : decode cX10_workForest 165 = .ok (.getfield 55, 3) := by decide +kernel
theorem dX10_workForest_168 : decode cX10_workForest 168 = .ok (.bipush 17, 2) := by decide +kernel
theorem dX10_workForest_170 : decode cX10_workForest 170 = .ok (.iload 5, 2) := by decide +kernel
theorem dX10_workForest_172 : decode cX10_workForest 172 = .ok (.iconst 1, 1) := by decide +kernel
theorem dX10_workForest_173 : decode cX10_workForest 173 = .ok (.isub, 1) := by decide +kernel
theorem dX10_workForest_174 : decode cX10_workForest 174 = .ok (.imul, 1) := by decide +kernel
theorem dX10_workForest_175 : decode cX10_workForest 175 = .ok (.iload 6, 2) := by decide +kernel
theorem dX10_workForest_177 : decode cX10_workForest 177 = .ok (.iadd, 1) := by decide +kernel
theorem dX10_workForest_178 : decode cX10_workForest 178 = .ok (.iaload, 1) := by decide +kernel
theorem dX10_workForest_179 : decode cX10_workForest 179 = .ok (.aload_n 0, 1) := by decide +kernel
theorem dX10_workForest_180 : decode cX10_workForest 180 = .ok (.getfield 43, 3) := by decide +kernel
theorem dX10_workForest_183 : decode cX10_workForest 183 = .ok (.aload_n 0, 1) := by decide +kernel
theorem dX10_workForest_184 : decode cX10_workForest 184 = .ok (.getfield 46, 3) := by decide +kernel
theorem dX10_workForest_187 : decode cX10_workForest 187 = .ok (.iload 5, 2) := by decide +kernel
theorem dX10_workForest_189 : decode cX10_workForest 189 = .ok (.iaload, 1) := by decide +kernel
theorem dX10_workForest_190 : decode cX10_workForest 190 = .ok (.iaload, 1) := by decide +kernel
theorem dX10_workForest_191 : decode cX10_workForest 191 = .ok (.iadd, 1) := by decide +kernel
theorem dX10_workForest_192 : decode cX10_workForest 192 = .ok (.aload_n 0, 1) := by decide +kernel
theorem dX10_workForest_193 : decode cX10_workForest 193 = .ok (.getfield 55, 3) := by decide +kernel
theorem dX10_workForest_196 : decode cX10_workForest 196 = .ok (.bipush 17, 2) := by decide +kernel
theorem dX10_workForest_198 : decode cX10_workForest 198 = .ok (.iload 5, 2) := by decide +kernel
theorem dX10_workForest_200 : decode cX10_workForest 200 = .ok (.imul, 1) := by decide +kernel
theorem dX10_workForest_201 : decode cX10_workForest 201 = .ok (.iload 6, 2) := by decide +kernel
theorem dX10_workForest_203 : decode cX10_workForest 203 = .ok (.iadd, 1) := by decide +kernel
theorem dX10_workForest_204 : decode cX10_workForest 204 = .ok (.iconst 1, 1) := by decide +kernel
theorem dX10_workForest_205 : decode cX10_workForest 205 = .ok (.isub, 1) := by decide +kernel
theorem dX10_workForest_206 : decode cX10_workForest 206 = .ok (.iaload, 1) := by decide +kernel
theorem dX10_workForest_207 : decode cX10_workForest 207 = .ok (.aload_n 0, 1) := by decide +kernel
theorem dX10_workForest_208 : decode cX10_workForest 208 = .ok (.getfield 22, 3) := by decide +kernel
theorem dX10_workForest_211 : decode cX10_workForest 211 = .ok (.iconst 1, 1) := by decide +kernel
theorem dX10_workForest_212 : decode cX10_workForest 212 = .ok (.iaload, 1) := by decide +kernel
theorem dX10_workForest_213 : decode cX10_workForest 213 = .ok (.iadd, 1) := by decide +kernel
theorem dX10_workForest_214 : decode cX10_workForest 214 = .ok (.invokestatic 167, 3) := by decide +kernel
theorem dX10_workForest_217 : decode cX10_workForest 217 = .ok (.istore 7, 2) := by decide +kernel
theorem dX10_workForest_219 : decode cX10_workForest 219 = .ok (.aload_n 0, 1) := by decide +kernel
theorem dX10_workForest_220 : decode cX10_workForest 220 = .ok (.getfield 34, 3) := by decide +kernel
theorem dX10_workForest_223 : decode cX10_workForest 223 = .ok (.iload 5, 2) := by decide +kernel
theorem dX10_workForest_225 : decode cX10_workForest 225 = .ok (.iaload, 1) := by decide +kernel
theorem dX10_workForest_226 : decode cX10_workForest 226 = .ok (.iload_n 3, 1) := by decide +kernel
theorem dX10_workForest_227 : decode cX10_workForest 227 = .ok (.if_icmp .ne 19, 3) := by decide +kernel
theorem dX10_workForest_230 : decode cX10_workForest 230 = .ok (.aload_n 0, 1) := by decide +kernel
theorem dX10_workForest_231 : decode cX10_workForest 231 = .ok (.getfield 37, 3) := by decide +kernel
theorem dX10_workForest_234 : decode cX10_workForest 234 = .ok (.iload 6, 2) := by decide +kernel
theorem dX10_workForest_236 : decode cX10_workForest 236 = .ok (.iaload, 1) := by decide +kernel
theorem dX10_workForest_237 : decode cX10_workForest 237 = .ok (.iload 4, 2) := by decide +kernel
theorem dX10_workForest_239 : decode cX10_workForest 239 = .ok (.if_icmp .ne 7, 3) := by decide +kernel
theorem dX10_workForest_242 : decode cX10_workForest 242 = .ok (.iconst 1, 1) := by decide +kernel
theorem dX10_workForest_243 : decode cX10_workForest 243 = .ok (.goto 4, 3) := by decide +kernel
theorem dX10_workForest_246 : decode cX10_workForest 246 = .ok (.iconst 0, 1) := by decide +kernel
theorem dX10_workForest_247 : decode cX10_workForest 247 = .ok (.istore 8, 2) := by decide +kernel
theorem dX10_workForest_249 : decode cX10_workForest 249 = .ok (.iload 8, 2) := by decide +kernel
theorem dX10_workForest_251 : decode cX10_workForest 251 = .ok (.ifCond .eq 47, 3) := by decide +kernel
theorem dX10_workForest_254 : decode cX10_workForest 254 = .ok (.aload_n 0, 1) := by decide +kernel
theorem dX10_workForest_255 : decode cX10_workForest 255 = .ok (.getfield 55, 3) := by decide +kernel
theorem dX10_workForest_258 : decode cX10_workForest 258 = .ok (.bipush 17, 2) := by decide +kernel
theorem dX10_workForest_260 : decode cX10_workForest 260 = .ok (.iload 5, 2) := by decide +kernel
theorem dX10_workForest_262 : decode cX10_workForest 262 = .ok (.iconst 1, 1) := by decide +kernel
theorem dX10_workForest_263 : decode cX10_workForest 263 = .ok (.isub, 1) := by decide +kernel
theorem dX10_workForest_264 : decode cX10_workForest 264 = .ok (.imul, 1) := by decide +kernel
theorem dX10_workForest_265 : decode cX10_workForest 265 = .ok (.iload 6, 2) := by decide +kernel
theorem dX10_workForest_267 : decode cX10_workForest 267 = .ok (.iadd, 1) := by decide +kernel
theorem dX10_workForest_268 : decode cX10_workForest 268 = .ok (.iconst 1, 1) := by decide +kernel
theorem dX10_workForest_269 : decode cX10_workForest 269 = .ok (.isub, 1) := by decide +kernel
theorem dX10_workForest_270 : decode cX10_workForest 270 = .ok (.iaload, 1) := by decide +kernel
theorem dX10_workForest_271 : decode cX10_workForest 271 = .ok (.aload_n 0, 1) := by decide +kernel
theorem dX10_workForest_272 : decode cX10_workForest 272 = .ok (.getfield 40, 3) := by decide +kernel
theorem dX10_workForest_275 : decode cX10_workForest 275 = .ok (.bipush 16, 2) := by decide +kernel
theorem dX10_workForest_277 : decode cX10_workForest 277 = .ok (.aload_n 0, 1) := by decide +kernel
theorem dX10_workForest_278 : decode cX10_workForest 278 = .ok (.getfield 46, 3) := by decide +kernel
theorem dX10_workForest_281 : decode cX10_workForest 281 = .ok (.iload 5, 2) := by decide +kernel
theorem dX10_workForest_283 : decode cX10_workForest 283 = .ok (.iaload, 1) := by decide +kernel
theorem dX10_workForest_284 : decode cX10_workForest 284 = .ok (.imul, 1) := by decide +kernel
theorem dX10_workForest_285 : decode cX10_workForest 285 = .ok (.aload_n 0, 1) := by decide +kernel
theorem dX10_workForest_286 : decode cX10_workForest 286 = .ok (.getfield 49, 3) := by decide +kernel
theorem dX10_workForest_289 : decode cX10_workForest 289 = .ok (.iload 6, 2) := by decide +kernel
theorem dX10_workForest_291 : decode cX10_workForest 291 = .ok (.iaload, 1) := by decide +kernel
theorem dX10_workForest_292 : decode cX10_workForest 292 = .ok (.iadd, 1) := by decide +kernel
theorem dX10_workForest_293 : decode cX10_workForest 293 = .ok (.iaload, 1) := by decide +kernel
theorem dX10_workForest_294 : decode cX10_workForest 294 = .ok (.iadd, 1) := by decide +kernel
theorem dX10_workForest_295 : decode cX10_workForest 295 = .ok (.goto 44, 3) := by decide +kernel
theorem dX10_workForest_298 : decode cX10_workForest 298 = .ok (.aload_n 0, 1) := by decide +kernel
theorem dX10_workForest_299 : decode cX10_workForest 299 = .ok (.getfield 55, 3) := by decide +kernel
theorem dX10_workForest_302 : decode cX10_workForest 302 = .ok (.bipush 17, 2) := by decide +kernel
theorem dX10_workForest_304 : decode cX10_workForest 304 = .ok (.aload_n 0, 1) := by decide +kernel
theorem dX10_workForest_305 : decode cX10_workForest 305 = .ok (.getfield 34, 3) := by decide +kernel
theorem dX10_workForest_308 : decode cX10_workForest 308 = .ok (.iload 5, 2) := by decide +kernel
theorem dX10_workForest_310 : decode cX10_workForest 310 = .ok (.iaload, 1) := by decide +kernel
theorem dX10_workForest_311 : decode cX10_workForest 311 = .ok (.iconst 1, 1) := by decide +kernel
theorem dX10_workForest_312 : decode cX10_workForest 312 = .ok (.isub, 1) := by decide +kernel
theorem dX10_workForest_313 : decode cX10_workForest 313 = .ok (.imul, 1) := by decide +kernel
theorem dX10_workForest_314 : decode cX10_workForest 314 = .ok (.aload_n 0, 1) := by decide +kernel
theorem dX10_workForest_315 : decode cX10_workForest 315 = .ok (.getfield 37, 3) := by decide +kernel
theorem dX10_workForest_318 : decode cX10_workForest 318 = .ok (.iload 6, 2) := by decide +kernel
theorem dX10_workForest_320 : decode cX10_workForest 320 = .ok (.iaload, 1) := by decide +kernel
theorem dX10_workForest_321 : decode cX10_workForest 321 = .ok (.iadd, 1) := by decide +kernel
theorem dX10_workForest_322 : decode cX10_workForest 322 = .ok (.iconst 1, 1) := by decide +kernel
theorem dX10_workForest_323 : decode cX10_workForest 323 = .ok (.isub, 1) := by decide +kernel
theorem dX10_workForest_324 : decode cX10_workForest 324 = .ok (.iaload, 1) := by decide +kernel
theorem dX10_workForest_325 : decode cX10_workForest 325 = .ok (.aload_n 0, 1) := by decide +kernel
theorem dX10_workForest_326 : decode cX10_workForest 326 = .ok (.getfield 52, 3) := by decide +kernel
theorem dX10_workForest_329 : decode cX10_workForest 329 = .ok (.bipush 17, 2) := by decide +kernel
theorem dX10_workForest_331 : decode cX10_workForest 331 = .ok (.iload 5, 2) := by decide +kernel
theorem dX10_workForest_333 : decode cX10_workForest 333 = .ok (.imul, 1) := by decide +kernel
theorem dX10_workForest_334 : decode cX10_workForest 334 = .ok (.iload 6, 2) := by decide +kernel
theorem dX10_workForest_336 : decode cX10_workForest 336 = .ok (.iadd, 1) := by decide +kernel
theorem dX10_workForest_337 : decode cX10_workForest 337 = .ok (.iaload, 1) := by decide +kernel
theorem dX10_workForest_338 : decode cX10_workForest 338 = .ok (.iadd, 1) := by decide +kernel
theorem dX10_workForest_339 : decode cX10_workForest 339 = .ok (.istore 9, 2) := by decide +kernel
theorem dX10_workForest_341 : decode cX10_workForest 341 = .ok (.aload_n 0, 1) := by decide +kernel
theorem dX10_workForest_342 : decode cX10_workForest 342 = .ok (.getfield 55, 3) := by decide +kernel
theorem dX10_workForest_345 : decode cX10_workForest 345 = .ok (.bipush 17, 2) := by decide +kernel
theorem dX10_workForest_347 : decode cX10_workForest 347 = .ok (.iload 5, 2) := by decide +kernel
theorem dX10_workForest_349 : decode cX10_workForest 349 = .ok (.imul, 1) := by decide +kernel
theorem dX10_workForest_350 : decode cX10_workForest 350 = .ok (.iload 6, 2) := by decide +kernel
theorem dX10_workForest_352 : decode cX10_workForest 352 = .ok (.iadd, 1) := by decide +kernel
theorem dX10_workForest_353 : decode cX10_workForest 353 = .ok (.iload 7, 2) := by decide +kernel
theorem dX10_workForest_355 : decode cX10_workForest 355 = .ok (.iload 9, 2) := by decide +kernel
theorem dX10_workForest_357 : decode cX10_workForest 357 = .ok (.invokestatic 167, 3) := by decide +kernel
theorem dX10_workForest_360 : decode cX10_workForest 360 = .ok (.iastore, 1) := by decide +kernel
theorem dX10_workForest_361 : decode cX10_workForest 361 = .ok (.iload 8, 2) := by decide +kernel
theorem dX10_workForest_363 : decode cX10_workForest 363 = .ok (.ifCond .eq 29, 3) := by decide +kernel
theorem dX10_workForest_366 : decode cX10_workForest 366 = .ok (.aload_n 0, 1) := by decide +kernel
theorem dX10_workForest_367 : decode cX10_workForest 367 = .ok (.getfield 52, 3) := by decide +kernel
theorem dX10_workForest_370 : decode cX10_workForest 370 = .ok (.bipush 17, 2) := by decide +kernel
theorem dX10_workForest_372 : decode cX10_workForest 372 = .ok (.iload 5, 2) := by decide +kernel
theorem dX10_workForest_374 : decode cX10_workForest 374 = .ok (.imul, 1) := by decide +kernel
theorem dX10_workForest_375 : decode cX10_workForest 375 = .ok (.iload 6, 2) := by decide +kernel
theorem dX10_workForest_377 : decode cX10_workForest 377 = .ok (.iadd, 1) := by decide +kernel
theorem dX10_workForest_378 : decode cX10_workForest 378 = .ok (.aload_n 0, 1) := by decide +kernel
theorem dX10_workForest_379 : decode cX10_workForest 379 = .ok (.getfield 55, 3) := by decide +kernel
theorem dX10_workForest_382 : decode cX10_workForest 382 = .ok (.bipush 17, 2) := by decide +kernel
theorem dX10_workForest_384 : decode cX10_workForest 384 = .ok (.iload 5, 2) := by decide +kernel
theorem dX10_workForest_386 : decode cX10_workForest 386 = .ok (.imul, 1) := by decide +kernel
theorem dX10_workForest_387 : decode cX10_workForest 387 = .ok (.iload 6, 2) := by decide +kernel
theorem dX10_workForest_389 : decode cX10_workForest 389 = .ok (.iadd, 1) := by decide +kernel
theorem dX10_workForest_390 : decode cX10_workForest 390 = .ok (.iaload, 1) := by decide +kernel
theorem dX10_workForest_391 : decode cX10_workForest 391 = .ok (.iastore, 1) := by decide +kernel
theorem dX10_workForest_392 : decode cX10_workForest 392 = .ok (.iinc 6 1, 3) := by decide +kernel
theorem dX10_workForest_395 : decode cX10_workForest 395 = .ok (.goto (-237), 3) := by decide +kernel
theorem dX10_workForest_398 : decode cX10_workForest 398 = .ok (.iinc 5 1, 3) := by decide +kernel
theorem dX10_workForest_401 : decode cX10_workForest 401 = .ok (.goto (-253), 3) := by decide +kernel
theorem dX10_workForest_404 : decode cX10_workForest 404 = .ok (.return_, 1) := by decide +kernel
theorem dX10_layPrices_0 : decode cX10_layPrices 0 = .ok (.iconst 0, 1) := by decide +kernel
theorem dX10_layPrices_1 : decode cX10_layPrices 1 = .ok (.istore_n 3, 1) := by decide +kernel
theorem dX10_layPrices_2 : decode cX10_layPrices 2 = .ok (.iload_n 3, 1) := by decide +kernel
theorem dX10_layPrices_3 : decode cX10_layPrices 3 = .ok (.aload_n 0, 1) := by decide +kernel
theorem dX10_layPrices_4 : decode cX10_layPrices 4 = .ok (.getfield 157, 3) := by decide +kernel
theorem dX10_layPrices_7 : decode cX10_layPrices 7 = .ok (.if_icmp .ge 87, 3) := by decide +kernel
theorem dX10_layPrices_10 : decode cX10_layPrices 10 = .ok (.aload_n 0, 1) := by decide +kernel
theorem dX10_layPrices_11 : decode cX10_layPrices 11 = .ok (.getfield 43, 3) := by decide +kernel
theorem dX10_layPrices_14 : decode cX10_layPrices 14 = .ok (.iload_n 3, 1) := by decide +kernel
theorem dX10_layPrices_15 : decode cX10_layPrices 15 = .ok (.aload_n 0, 1) := by decide +kernel
theorem dX10_layPrices_16 : decode cX10_layPrices 16 = .ok (.getfield 22, 3) := by decide +kernel
theorem dX10_layPrices_19 : decode cX10_layPrices 19 = .ok (.iconst 0, 1) := by decide +kernel
theorem dX10_layPrices_20 : decode cX10_layPrices 20 = .ok (.iaload, 1) := by decide +kernel
theorem dX10_layPrices_21 : decode cX10_layPrices 21 = .ok (.iastore, 1) := by decide +kernel
theorem dX10_layPrices_22 : decode cX10_layPrices 22 = .ok (.iconst 0, 1) := by decide +kernel
theorem dX10_layPrices_23 : decode cX10_layPrices 23 = .ok (.istore 4, 2) := by decide +kernel
theorem dX10_layPrices_25 : decode cX10_layPrices 25 = .ok (.iload 4, 2) := by decide +kernel
theorem dX10_layPrices_27 : decode cX10_layPrices 27 = .ok (.aload_n 0, 1) := by decide +kernel
theorem dX10_layPrices_28 : decode cX10_layPrices 28 = .ok (.getfield 160, 3) := by decide +kernel
theorem dX10_layPrices_31 : decode cX10_layPrices 31 = .ok (.if_icmp .ge 57, 3) := by decide +kernel
theorem dX10_layPrices_34 : decode cX10_layPrices 34 = .ok (.aload_n 0, 1) := by decide +kernel
theorem dX10_layPrices_35 : decode cX10_layPrices 35 = .ok (.getfield 40, 3) := by decide +kernel
theorem dX10_layPrices_38 : decode cX10_layPrices 38 = .ok (.bipush 16, 2) := by decide +kernel
theorem dX10_layPrices_40 : decode cX10_layPrices 40 = .ok (.iload_n 3, 1) := by decide +kernel
theorem dX10_layPrices_41 : decode cX10_layPrices 41 = .ok (.imul, 1) := by decide +kernel
theorem dX10_layPrices_42 : decode cX10_layPrices 42 = .ok (.iload 4, 2) := by decide +kernel
theorem dX10_layPrices_44 : decode cX10_layPrices 44 = .ok (.iadd, 1) := by decide +kernel
theorem dX10_layPrices_45 : decode cX10_layPrices 45 = .ok (.aload_n 0, 1) := by decide +kernel
theorem dX10_layPrices_46 : decode cX10_layPrices 46 = .ok (.getfield 13, 3) := by decide +kernel
theorem dX10_layPrices_49 : decode cX10_layPrices 49 = .ok (.bipush 32, 2) := by decide +kernel
theorem dX10_layPrices_51 : decode cX10_layPrices 51 = .ok (.iload_n 1, 1) := by decide +kernel
theorem dX10_layPrices_52 : decode cX10_layPrices 52 = .ok (.imul, 1) := by decide +kernel
theorem dX10_layPrices_53 : decode cX10_layPrices 53 = .ok (.iload_n 3, 1) := by decide +kernel
theorem dX10_layPrices_54 : decode cX10_layPrices 54 = .ok (.iadd, 1) := by decide +kernel
theorem dX10_layPrices_55 : decode cX10_layPrices 55 = .ok (.iaload, 1) := by decide +kernel
theorem dX10_layPrices_56 : decode cX10_layPrices 56 = .ok (.aload_n 0, 1) := by decide +kernel
theorem dX10_layPrices_57 : decode cX10_layPrices 57 = .ok (.getfield 13, 3) := by decide +kernel
theorem dX10_layPrices_60 : decode cX10_layPrices 60 = .ok (.bipush 32, 2) := by decide +kernel
theorem dX10_layPrices_62 : decode cX10_layPrices 62 = .ok (.iload_n 2, 1) := by decide +kernel
theorem dX10_layPrices_63 : decode cX10_layPrices 63 = .ok (.imul, 1) := by decide +kernel
theorem dX10_layPrices_64 : decode cX10_layPrices 64 = .ok (.iload 4, 2) := by decide +kernel
theorem dX10_layPrices_66 : decode cX10_layPrices 66 = .ok (.iadd, 1) := by decide +kernel
theorem dX10_layPrices_67 : decode cX10_layPrices 67 = .ok (.iaload, 1) := by decide +kernel
theorem dX10_layPrices_68 : decode cX10_layPrices 68 = .ok (.if_icmp .ne 7, 3) := by decide +kernel
theorem dX10_layPrices_71 : decode cX10_layPrices 71 = .ok (.iconst 0, 1) := by decide +kernel
theorem dX10_layPrices_72 : decode cX10_layPrices 72 = .ok (.goto 9, 3) := by decide +kernel
theorem dX10_layPrices_75 : decode cX10_layPrices 75 = .ok (.aload_n 0, 1) := by decide +kernel
theorem dX10_layPrices_76 : decode cX10_layPrices 76 = .ok (.getfield 22, 3) := by decide +kernel
theorem dX10_layPrices_79 : decode cX10_layPrices 79 = .ok (.iconst 2, 1) := by decide +kernel
theorem dX10_layPrices_80 : decode cX10_layPrices 80 = .ok (.iaload, 1) := by decide +kernel
theorem dX10_layPrices_81 : decode cX10_layPrices 81 = .ok (.iastore, 1) := by decide +kernel
theorem dX10_layPrices_82 : decode cX10_layPrices 82 = .ok (.iinc 4 1, 3) := by decide +kernel
theorem dX10_layPrices_85 : decode cX10_layPrices 85 = .ok (.goto (-60), 3) := by decide +kernel
theorem dX10_layPrices_88 : decode cX10_layPrices 88 = .ok (.iinc 3 1, 3) := by decide +kernel
theorem dX10_layPrices_91 : decode cX10_layPrices 91 = .ok (.goto (-89), 3) := by decide +kernel
theorem dX10_layPrices_94 : decode cX10_layPrices 94 = .ok (.return_, 1) := by decide +kernel
theorem dX10_leastOf_0 : decode cX10_leastOf 0 = .ok (.aload_n 0, 1) := by decide +kernel
theorem dX10_leastOf_1 : decode cX10_leastOf 1 = .ok (.iload_n 1, 1) := by decide +kernel
theorem dX10_leastOf_2 : decode cX10_leastOf 2 = .ok (.iload_n 2, 1) := by decide +kernel
theorem dX10_leastOf_3 : decode cX10_leastOf 3 = .ok (.invokevirtual 170, 3) := by decide +kernel
theorem dX10_leastOf_6 : decode cX10_leastOf 6 = .ok (.aload_n 0, 1) := by decide +kernel
theorem dX10_leastOf_7 : decode cX10_leastOf 7 = .ok (.iload_n 1, 1) := by decide +kernel
theorem dX10_leastOf_8 : decode cX10_leastOf 8 = .ok (.iload_n 2, 1) := by decide +kernel
theorem dX10_leastOf_9 : decode cX10_leastOf 9 = .ok (.invokevirtual 173, 3) := by decide +kernel
theorem dX10_leastOf_12 : decode cX10_leastOf 12 = .ok (.aload_n 0, 1) := by decide +kernel
theorem dX10_leastOf_13 : decode cX10_leastOf 13 = .ok (.invokevirtual 176, 3) := by decide +kernel
theorem dX10_leastOf_16 : decode cX10_leastOf 16 = .ok (.ireturn, 1) := by decide +kernel
theorem dX10_areBoth_0 : decode cX10_areBoth 0 = .ok (.iload_n 1, 1) := by decide +kernel
theorem dX10_areBoth_1 : decode cX10_areBoth 1 = .ok (.invokestatic 114, 3) := by decide +kernel
theorem dX10_areBoth_4 : decode cX10_areBoth 4 = .ok (.ifCond .eq 32, 3) := by decide +kernel
theorem dX10_areBoth_7 : decode cX10_areBoth 7 = .ok (.iload_n 2, 1) := by decide +kernel
theorem dX10_areBoth_8 : decode cX10_areBoth 8 = .ok (.invokestatic 114, 3) := by decide +kernel
theorem dX10_areBoth_11 : decode cX10_areBoth 11 = .ok (.ifCond .eq 25, 3) := by decide +kernel
theorem dX10_areBoth_14 : decode cX10_areBoth 14 = .ok (.aload_n 0, 1) := by decide +kernel
theorem dX10_areBoth_15 : decode cX10_areBoth 15 = .ok (.getfield 7, 3) := by decide +kernel
theorem dX10_areBoth_18 : decode cX10_areBoth 18 = .ok (.iload_n 1, 1) := by decide +kernel
theorem dX10_areBoth_19 : decode cX10_areBoth 19 = .ok (.iaload, 1) := by decide +kernel
theorem dX10_areBoth_20 : decode cX10_areBoth 20 = .ok (.ifCond .le 16, 3) := by decide +kernel
theorem dX10_areBoth_23 : decode cX10_areBoth 23 = .ok (.aload_n 0, 1) := by decide +kernel
theorem dX10_areBoth_24 : decode cX10_areBoth 24 = .ok (.getfield 7, 3) := by decide +kernel
theorem dX10_areBoth_27 : decode cX10_areBoth 27 = .ok (.iload_n 2, 1) := by decide +kernel
theorem dX10_areBoth_28 : decode cX10_areBoth 28 = .ok (.iaload, 1) := by decide +kernel
theorem dX10_areBoth_29 : decode cX10_areBoth 29 = .ok (.ifCond .le 7, 3) := by decide +kernel
theorem dX10_areBoth_32 : decode cX10_areBoth 32 = .ok (.iconst 1, 1) := by decide +kernel
theorem dX10_areBoth_33 : decode cX10_areBoth 33 = .ok (.goto 4, 3) := by decide +kernel
theorem dX10_areBoth_36 : decode cX10_areBoth 36 = .ok (.iconst 0, 1) := by decide +kernel
theorem dX10_areBoth_37 : decode cX10_areBoth 37 = .ok (.ireturn, 1) := by decide +kernel
theorem dX10_least_0 : decode cX10_least 0 = .ok (.aload_n 0, 1) := by decide +kernel
theorem dX10_least_1 : decode cX10_least 1 = .ok (.iload_n 1, 1) := by decide +kernel
theorem dX10_least_2 : decode cX10_least 2 = .ok (.iload_n 2, 1) := by decide +kernel
theorem dX10_least_3 : decode cX10_least 3 = .ok (.invokevirtual 179, 3) := by decide +kernel
theorem dX10_least_6 : decode cX10_least 6 = .ok (.ifCond .eq 12, 3) := by decide +kernel
theorem dX10_least_9 : decode cX10_least 9 = .ok (.aload_n 0, 1) := by decide +kernel
theorem dX10_least_10 : decode cX10_least 10 = .ok (.iload_n 1, 1) := by decide +kernel
theorem dX10_least_11 : decode cX10_least 11 = .ok (.iload_n 2, 1) := by decide +kernel
theorem dX10_least_12 : decode cX10_least 12 = .ok (.invokevirtual 182, 3) := by decide +kernel
theorem dX10_least_15 : decode cX10_least 15 = .ok (.goto 4, 3) := by decide +kernel
theorem dX10_least_18 : decode cX10_least 18 = .ok (.iconst (-1), 1) := by decide +kernel
theorem dX10_least_19 : decode cX10_least 19 = .ok (.ireturn, 1) := by decide +kernel
theorem dX10_layLed_0 : decode cX10_layLed 0 = .ok (.aload_n 0, 1) := by decide +kernel
theorem dX10_layLed_1 : decode cX10_layLed 1 = .ok (.iload_n 1, 1) := by decide +kernel
theorem dX10_layLed_2 : decode cX10_layLed 2 = .ok (.iload_n 2, 1) := by decide +kernel
theorem dX10_layLed_3 : decode cX10_layLed 3 = .ok (.invokevirtual 182, 3) := by decide +kernel
theorem dX10_layLed_6 : decode cX10_layLed 6 = .ok (.istore_n 3, 1) := by decide +kernel
theorem dX10_layLed_7 : decode cX10_layLed 7 = .ok (.iconst 0, 1) := by decide +kernel
theorem dX10_layLed_8 : decode cX10_layLed 8 = .ok (.istore 4, 2) := by decide +kernel
theorem dX10_layLed_10 : decode cX10_layLed 10 = .ok (.iload 4, 2) := by decide +kernel
theorem dX10_layLed_12 : decode cX10_layLed 12 = .ok (.aload_n 0, 1) := by decide +kernel
theorem dX10_layLed_13 : decode cX10_layLed 13 = .ok (.getfield 160, 3) := by decide +kernel
theorem dX10_layLed_16 : decode cX10_layLed 16 = .ok (.if_icmp .ge 18, 3) := by decide +kernel
theorem dX10_layLed_19 : decode cX10_layLed 19 = .ok (.aload_n 0, 1) := by decide +kernel
theorem dX10_layLed_20 : decode cX10_layLed 20 = .ok (.getfield 61, 3) := by decide +kernel
theorem dX10_layLed_23 : decode cX10_layLed 23 = .ok (.iload 4, 2) := by decide +kernel
theorem dX10_layLed_25 : decode cX10_layLed 25 = .ok (.bipush (-6), 2) := by decide +kernel
theorem dX10_layLed_27 : decode cX10_layLed 27 = .ok (.iastore, 1) := by decide +kernel
theorem dX10_layLed_28 : decode cX10_layLed 28 = .ok (.iinc 4 1, 3) := by decide +kernel
theorem dX10_layLed_31 : decode cX10_layLed 31 = .ok (.goto (-21), 3) := by decide +kernel
theorem dX10_layLed_34 : decode cX10_layLed 34 = .ok (.iconst 0, 1) := by decide +kernel
theorem dX10_layLed_35 : decode cX10_layLed 35 = .ok (.istore 4, 2) := by decide +kernel
theorem dX10_layLed_37 : decode cX10_layLed 37 = .ok (.iload 4, 2) := by decide +kernel
theorem dX10_layLed_39 : decode cX10_layLed 39 = .ok (.aload_n 0, 1) := by decide +kernel
theorem dX10_layLed_40 : decode cX10_layLed 40 = .ok (.getfield 157, 3) := by decide +kernel
theorem dX10_layLed_43 : decode cX10_layLed 43 = .ok (.if_icmp .ge 194, 3) := by decide +kernel
theorem dX10_layLed_46 : decode cX10_layLed 46 = .ok (.bipush 99, 2) := by decide +kernel
theorem dX10_layLed_48 : decode cX10_layLed 48 = .ok (.istore 5, 2) := by decide +kernel
theorem dX10_layLed_50 : decode cX10_layLed 50 = .ok (.aload_n 0, 1) := by decide +kernel
theorem dX10_layLed_51 : decode cX10_layLed 51 = .ok (.getfield 43, 3) := by decide +kernel
theorem dX10_layLed_54 : decode cX10_layLed 54 = .ok (.iload 4, 2) := by decide +kernel
theorem dX10_layLed_56 : decode cX10_layLed 56 = .ok (.iaload, 1) := by decide +kernel
theorem dX10_layLed_57 : decode cX10_layLed 57 = .ok (.istore 6, 2) := by decide +kernel
theorem dX10_layLed_59 : decode cX10_layLed 59 = .ok (.aload_n 0, 1) := by decide +kernel
theorem dX10_layLed_60 : decode cX10_layLed 60 = .ok (.getfield 43, 3) := by decide +kernel
theorem dX10_layLed_63 : decode cX10_layLed 63 = .ok (.iload 4, 2) := by decide +kernel
theorem dX10_layLed_65 : decode cX10_layLed 65 = .ok (.ldc 185, 2) := by decide +kernel
theorem dX10_layLed_67 : decode cX10_layLed 67 = .ok (.iastore, 1) := by decide +kernel
theorem dX10_layLed_68 : decode cX10_layLed 68 = .ok (.iconst 0, 1) := by decide +kernel
theorem dX10_layLed_69 : decode cX10_layLed 69 = .ok (.istore 7, 2) := by decide +kernel
theorem dX10_layLed_71 : decode cX10_layLed 71 = .ok (.iload 7, 2) := by decide +kernel
theorem dX10_layLed_73 : decode cX10_layLed 73 = .ok (.aload_n 0, 1) := by decide +kernel
theorem dX10_layLed_74 : decode cX10_layLed 74 = .ok (.getfield 160, 3) := by decide +kernel
theorem dX10_layLed_77 : decode cX10_layLed 77 = .ok (.if_icmp .ge 84, 3) := by decide +kernel
theorem dX10_layLed_80 : decode cX10_layLed 80 = .ok (.iload 5, 2) := by decide +kernel
theorem dX10_layLed_82 : decode cX10_layLed 82 = .ok (.bipush 99, 2) := by decide +kernel
theorem dX10_layLed_84 : decode cX10_layLed 84 = .ok (.if_icmp .ne 77, 3) := by decide +kernel
theorem dX10_layLed_87 : decode cX10_layLed 87 = .ok (.aload_n 0, 1) := by decide +kernel
theorem dX10_layLed_88 : decode cX10_layLed 88 = .ok (.getfield 61, 3) := by decide +kernel
theorem dX10_layLed_91 : decode cX10_layLed 91 = .ok (.iload 7, 2) := by decide +kernel
theorem dX10_layLed_93 : decode cX10_layLed 93 = .ok (.iaload, 1) := by decide +kernel
theorem dX10_layLed_94 : decode cX10_layLed 94 = .ok (.ifCond .ge 61, 3) := by decide +kernel
theorem dX10_layLed_97 : decode cX10_layLed 97 = .ok (.aload_n 0, 1) := by decide +kernel
theorem dX10_layLed_98 : decode cX10_layLed 98 = .ok (.getfield 40, 3) := by decide +kernel
theorem dX10_layLed_101 : decode cX10_layLed 101 = .ok (.bipush 16, 2) := by decide +kernel
theorem dX10_layLed_103 : decode cX10_layLed 103 = .ok (.iload 4, 2) := by decide +kernel
theorem dX10_layLed_105 : decode cX10_layLed 105 = .ok (.imul, 1) := by decide +kernel
theorem dX10_layLed_106 : decode cX10_layLed 106 = .ok (.iload 7, 2) := by decide +kernel
theorem dX10_layLed_108 : decode cX10_layLed 108 = .ok (.iadd, 1) := by decide +kernel
theorem dX10_layLed_109 : decode cX10_layLed 109 = .ok (.iaload, 1) := by decide +kernel
theorem dX10_layLed_110 : decode cX10_layLed 110 = .ok (.ldc 185, 2) := by decide +kernel
theorem dX10_layLed_112 : decode cX10_layLed 112 = .ok (.if_icmp .ge 43, 3) := by decide +kernel
theorem dX10_layLed_115 : decode cX10_layLed 115 = .ok (.aload_n 0, 1) := by decide +kernel
theorem dX10_layLed_116 : decode cX10_layLed 116 = .ok (.iload 4, 2) := by decide +kernel
theorem dX10_layLed_118 : decode cX10_layLed 118 = .ok (.iload 7, 2) := by decide +kernel
theorem dX10_layLed_120 : decode cX10_layLed 120 = .ok (.invokevirtual 186, 3) := by decide +kernel
theorem dX10_layLed_123 : decode cX10_layLed 123 = .ok (.aload_n 0, 1) := by decide +kernel
theorem dX10_layLed_124 : decode cX10_layLed 124 = .ok (.invokevirtual 176, 3) := by decide +kernel
theorem dX10_layLed_127 : decode cX10_layLed 127 = .ok (.iload_n 3, 1) := by decide +kernel
theorem dX10_layLed_128 : decode cX10_layLed 128 = .ok (.if_icmp .ne 8, 3) := by decide +kernel
theorem dX10_layLed_131 : decode cX10_layLed 131 = .ok (.iload 7, 2) := by decide +kernel
theorem dX10_layLed_133 : decode cX10_layLed 133 = .ok (.goto 5, 3) := by decide +kernel
theorem dX10_layLed_136 : decode cX10_layLed 136 = .ok (.bipush 99, 2) := by decide +kernel
theorem dX10_layLed_138 : decode cX10_layLed 138 = .ok (.istore 5, 2) := by decide +kernel
theorem dX10_layLed_140 : decode cX10_layLed 140 = .ok (.iload 5, 2) := by decide +kernel
theorem dX10_layLed_142 : decode cX10_layLed 142 = .ok (.bipush 99, 2) := by decide +kernel
theorem dX10_layLed_144 : decode cX10_layLed 144 = .ok (.if_icmp .ne 11, 3) := by decide +kernel
theorem dX10_layLed_147 : decode cX10_layLed 147 = .ok (.aload_n 0, 1) := by decide +kernel
theorem dX10_layLed_148 : decode cX10_layLed 148 = .ok (.iload_n 1, 1) := by decide +kernel
theorem dX10_layLed_149 : decode cX10_layLed 149 = .ok (.iload_n 2, 1) := by decide +kernel
theorem dX10_layLed_150 : decode cX10_layLed 150 = .ok (.iload 4, 2) := by decide +kernel
theorem dX10_layLed_152 : decode cX10_layLed 152 = .ok (.invokevirtual 189, 3) := by decide +kernel
theorem dX10_layLed_155 : decode cX10_layLed 155 = .ok (.iinc 7 1, 3) := by decide +kernel
theorem dX10_layLed_158 : decode cX10_layLed 158 = .ok (.goto (-87), 3) := by decide +kernel
theorem dX10_layLed_161 : decode cX10_layLed 161 = .ok (.aload_n 0, 1) := by decide +kernel
theorem dX10_layLed_162 : decode cX10_layLed 162 = .ok (.getfield 58, 3) := by decide +kernel
theorem dX10_layLed_165 : decode cX10_layLed 165 = .ok (.iload 4, 2) := by decide +kernel
theorem dX10_layLed_167 : decode cX10_layLed 167 = .ok (.iload 5, 2) := by decide +kernel
theorem dX10_layLed_169 : decode cX10_layLed 169 = .ok (.iastore, 1) := by decide +kernel
theorem dX10_layLed_170 : decode cX10_layLed 170 = .ok (.iload 5, 2) := by decide +kernel
theorem dX10_layLed_172 : decode cX10_layLed 172 = .ok (.bipush 99, 2) := by decide +kernel
theorem dX10_layLed_174 : decode cX10_layLed 174 = .ok (.if_icmp .ne 48, 3) := by decide +kernel
theorem dX10_layLed_177 : decode cX10_layLed 177 = .ok (.aload_n 0, 1) := by decide +kernel
theorem dX10_layLed_178 : decode cX10_layLed 178 = .ok (.getfield 43, 3) := by decide +kernel
theorem dX10_layLed_181 : decode cX10_layLed 181 = .ok (.iload 4, 2) := by decide +kernel
theorem dX10_layLed_183 : decode cX10_layLed 183 = .ok (.iload 6, 2) := by decide +kernel
theorem dX10_layLed_185 : decode cX10_layLed 185 = .ok (.iastore, 1) := by decide +kernel
theorem dX10_layLed_186 : decode cX10_layLed 186 = .ok (.iconst 0, 1) := by decide +kernel
theorem dX10_layLed_187 : decode cX10_layLed 187 = .ok (.istore 7, 2) := by decide +kernel
theorem dX10_layLed_189 : decode cX10_layLed 189 = .ok (.iload 7, 2) := by decide +kernel
theorem dX10_layLed_191 : decode cX10_layLed 191 = .ok (.aload_n 0, 1) := by decide +kernel
theorem dX10_layLed_192 : decode cX10_layLed 192 = .ok (.getfield 160, 3) := by decide +kernel
theorem dX10_layLed_195 : decode cX10_layLed 195 = .ok (.if_icmp .ge 24, 3) := by decide +kernel
theorem dX10_layLed_198 : decode cX10_layLed 198 = .ok (.aload_n 0, 1) := by decide +kernel
theorem dX10_layLed_199 : decode cX10_layLed 199 = .ok (.getfield 40, 3) := by decide +kernel
theorem dX10_layLed_202 : decode cX10_layLed 202 = .ok (.bipush 16, 2) := by decide +kernel
theorem dX10_layLed_204 : decode cX10_layLed 204 = .ok (.iload 4, 2) := by decide +kernel
theorem dX10_layLed_206 : decode cX10_layLed 206 = .ok (.imul, 1) := by decide +kernel
theorem dX10_layLed_207 : decode cX10_layLed 207 = .ok (.iload 7, 2) := by decide +kernel
theorem dX10_layLed_209 : decode cX10_layLed 209 = .ok (.iadd, 1) := by decide +kernel
theorem dX10_layLed_210 : decode cX10_layLed 210 = .ok (.ldc 185, 2) := by decide +kernel
theorem dX10_layLed_212 : decode cX10_layLed 212 = .ok (.iastore, 1) := by decide +kernel
theorem dX10_layLed_213 : decode cX10_layLed 213 = .ok (.iinc 7 1, 3) := by decide +kernel
theorem dX10_layLed_216 : decode cX10_layLed 216 = .ok (.goto (-27), 3) := by decide +kernel
theorem dX10_layLed_219 : decode cX10_layLed 219 = .ok (.goto 12, 3) := by decide +kernel
theorem dX10_layLed_222 : decode cX10_layLed 222 = .ok (.aload_n 0, 1) := by decide +kernel
theorem dX10_layLed_223 : decode cX10_layLed 223 = .ok (.getfield 61, 3) := by decide +kernel
theorem dX10_layLed_226 : decode cX10_layLed 226 = .ok (.iload 5, 2) := by decide +kernel
theorem dX10_layLed_228 : decode cX10_layLed 228 = .ok (.iload 4, 2) := by decide +kernel
theorem dX10_layLed_230 : decode cX10_layLed 230 = .ok (.iastore, 1) := by decide +kernel
theorem dX10_layLed_231 : decode cX10_layLed 231 = .ok (.iinc 4 1, 3) := by decide +kernel
theorem dX10_layLed_234 : decode cX10_layLed 234 = .ok (.goto (-197), 3) := by decide +kernel
theorem dX10_layLed_237 : decode cX10_layLed 237 = .ok (.return_, 1) := by decide +kernel
theorem dX10_keepOnly_0 : decode cX10_keepOnly 0 = .ok (.iconst 0, 1) := by decide +kernel
theorem dX10_keepOnly_1 : decode cX10_keepOnly 1 = .ok (.istore_n 3, 1) := by decide +kernel
theorem dX10_keepOnly_2 : decode cX10_keepOnly 2 = .ok (.iload_n 3, 1) := by decide +kernel
theorem dX10_keepOnly_3 : decode cX10_keepOnly 3 = .ok (.aload_n 0, 1) := by decide +kernel
theorem dX10_keepOnly_4 : decode cX10_keepOnly 4 = .ok (.getfield 160, 3) := by decide +kernel
theorem dX10_keepOnly_7 : decode cX10_keepOnly 7 = .ok (.if_icmp .ge 41, 3) := by decide +kernel
theorem dX10_keepOnly_10 : decode cX10_keepOnly 10 = .ok (.aload_n 0, 1) := by decide +kernel
theorem dX10_keepOnly_11 : decode cX10_keepOnly 11 = .ok (.getfield 40, 3) := by decide +kernel
theorem dX10_keepOnly_14 : decode cX10_keepOnly 14 = .ok (.bipush 16, 2) := by decide +kernel
theorem dX10_keepOnly_16 : decode cX10_keepOnly 16 = .ok (.iload_n 1, 1) := by decide +kernel
theorem dX10_keepOnly_17 : decode cX10_keepOnly 17 = .ok (.imul, 1) := by decide +kernel
theorem dX10_keepOnly_18 : decode cX10_keepOnly 18 = .ok (.iload_n 3, 1) := by decide +kernel
theorem dX10_keepOnly_19 : decode cX10_keepOnly 19 = .ok (.iadd, 1) := by decide +kernel
theorem dX10_keepOnly_20 : decode cX10_keepOnly 20 = .ok (.iload_n 3, 1) := by decide +kernel
theorem dX10_keepOnly_21 : decode cX10_keepOnly 21 = .ok (.iload_n 2, 1) := by decide +kernel
theorem dX10_keepOnly_22 : decode cX10_keepOnly 22 = .ok (.if_icmp .ne 17, 3) := by decide +kernel
theorem dX10_keepOnly_25 : decode cX10_keepOnly 25 = .ok (.aload_n 0, 1) := by decide +kernel
theorem dX10_keepOnly_26 : decode cX10_keepOnly 26 = .ok (.getfield 40, 3) := by decide +kernel
theorem dX10_keepOnly_29 : decode cX10_keepOnly 29 = .ok (.bipush 16, 2) := by decide +kernel
theorem dX10_keepOnly_31 : decode cX10_keepOnly 31 = .ok (.iload_n 1, 1) := by decide +kernel
theorem dX10_keepOnly_32 : decode cX10_keepOnly 32 = .ok (.imul, 1) := by decide +kernel
theorem dX10_keepOnly_33 : decode cX10_keepOnly 33 = .ok (.iload_n 3, 1) := by decide +kernel
theorem dX10_keepOnly_34 : decode cX10_keepOnly 34 = .ok (.iadd, 1) := by decide +kernel
theorem dX10_keepOnly_35 : decode cX10_keepOnly 35 = .ok (.iaload, 1) := by decide +kernel
theorem dX10_keepOnly_36 : decode cX10_keepOnly 36 = .ok (.goto 5, 3) := by decide +kernel
theorem dX10_keepOnly_39 : decode cX10_keepOnly 39 = .ok (.ldc 185, 2) := by decide +kernel
theorem dX10_keepOnly_41 : decode cX10_keepOnly 41 = .ok (.iastore, 1) := by decide +kernel
theorem dX10_keepOnly_42 : decode cX10_keepOnly 42 = .ok (.iinc 3 1, 3) := by decide +kernel
theorem dX10_keepOnly_45 : decode cX10_keepOnly 45 = .ok (.goto (-43), 3) := by decide +kernel
theorem dX10_keepOnly_48 : decode cX10_keepOnly 48 = .ok (.return_, 1) := by decide +kernel
theorem dX10_bringBack_0 : decode cX10_bringBack 0 = .ok (.iconst 0, 1) := by decide +kernel
theorem dX10_bringBack_1 : decode cX10_bringBack 1 = .ok (.istore 4, 2) := by decide +kernel
theorem dX10_bringBack_3 : decode cX10_bringBack 3 = .ok (.iload 4, 2) := by decide +kernel
theorem dX10_bringBack_5 : decode cX10_bringBack 5 = .ok (.aload_n 0, 1) := by decide +kernel
theorem dX10_bringBack_6 : decode cX10_bringBack 6 = .ok (.getfield 160, 3) := by decide +kernel
theorem dX10_bringBack_9 : decode cX10_bringBack 9 = .ok (.if_icmp .ge 57, 3) := by decide +kernel
theorem dX10_bringBack_12 : decode cX10_bringBack 12 = .ok (.aload_n 0, 1) := by decide +kernel
theorem dX10_bringBack_13 : decode cX10_bringBack 13 = .ok (.getfield 40, 3) := by decide +kernel
theorem dX10_bringBack_16 : decode cX10_bringBack 16 = .ok (.bipush 16, 2) := by decide +kernel
theorem dX10_bringBack_18 : decode cX10_bringBack 18 = .ok (.iload_n 3, 1) := by decide +kernel
theorem dX10_bringBack_19 : decode cX10_bringBack 19 = .ok (.imul, 1) := by decide +kernel
theorem dX10_bringBack_20 : decode cX10_bringBack 20 = .ok (.iload 4, 2) := by decide +kernel
theorem dX10_bringBack_22 : decode cX10_bringBack 22 = .ok (.iadd, 1) := by decide +kernel
theorem dX10_bringBack_23 : decode cX10_bringBack 23 = .ok (.aload_n 0, 1) := by decide +kernel
theorem dX10_bringBack_24 : decode cX10_bringBack 24 = .ok (.getfield 13, 3) := by decide +kernel
theorem dX10_bringBack_27 : decode cX10_bringBack 27 = .ok (.bipush 32, 2) := by decide +kernel
theorem dX10_bringBack_29 : decode cX10_bringBack 29 = .ok (.iload_n 1, 1) := by decide +kernel
theorem dX10_bringBack_30 : decode cX10_bringBack 30 = .ok (.imul, 1) := by decide +kernel
theorem dX10_bringBack_31 : decode cX10_bringBack 31 = .ok (.iload_n 3, 1) := by decide +kernel
theorem dX10_bringBack_32 : decode cX10_bringBack 32 = .ok (.iadd, 1) := by decide +kernel
theorem dX10_bringBack_33 : decode cX10_bringBack 33 = .ok (.iaload, 1) := by decide +kernel
theorem dX10_bringBack_34 : decode cX10_bringBack 34 = .ok (.aload_n 0, 1) := by decide +kernel
theorem dX10_bringBack_35 : decode cX10_bringBack 35 = .ok (.getfield 13, 3) := by decide +kernel
theorem dX10_bringBack_38 : decode cX10_bringBack 38 = .ok (.bipush 32, 2) := by decide +kernel
theorem dX10_bringBack_40 : decode cX10_bringBack 40 = .ok (.iload_n 2, 1) := by decide +kernel
theorem dX10_bringBack_41 : decode cX10_bringBack 41 = .ok (.imul, 1) := by decide +kernel
theorem dX10_bringBack_42 : decode cX10_bringBack 42 = .ok (.iload 4, 2) := by decide +kernel
theorem dX10_bringBack_44 : decode cX10_bringBack 44 = .ok (.iadd, 1) := by decide +kernel
theorem dX10_bringBack_45 : decode cX10_bringBack 45 = .ok (.iaload, 1) := by decide +kernel
theorem dX10_bringBack_46 : decode cX10_bringBack 46 = .ok (.if_icmp .ne 7, 3) := by decide +kernel
theorem dX10_bringBack_49 : decode cX10_bringBack 49 = .ok (.iconst 0, 1) := by decide +kernel
theorem dX10_bringBack_50 : decode cX10_bringBack 50 = .ok (.goto 9, 3) := by decide +kernel
theorem dX10_bringBack_53 : decode cX10_bringBack 53 = .ok (.aload_n 0, 1) := by decide +kernel
theorem dX10_bringBack_54 : decode cX10_bringBack 54 = .ok (.getfield 22, 3) := by decide +kernel
theorem dX10_bringBack_57 : decode cX10_bringBack 57 = .ok (.iconst 2, 1) := by decide +kernel
theorem dX10_bringBack_58 : decode cX10_bringBack 58 = .ok (.iaload, 1) := by decide +kernel
theorem dX10_bringBack_59 : decode cX10_bringBack 59 = .ok (.iastore, 1) := by decide +kernel
theorem dX10_bringBack_60 : decode cX10_bringBack 60 = .ok (.iinc 4 1, 3) := by decide +kernel
theorem dX10_bringBack_63 : decode cX10_bringBack 63 = .ok (.goto (-60), 3) := by decide +kernel
theorem dX10_bringBack_66 : decode cX10_bringBack 66 = .ok (.return_, 1) := by decide +kernel
theorem dX10_led_0 : decode cX10_led 0 = .ok (.aload_n 0, 1) := by decide +kernel
theorem dX10_led_1 : decode cX10_led 1 = .ok (.iload_n 1, 1) := by decide +kernel
theorem dX10_led_2 : decode cX10_led 2 = .ok (.iload_n 2, 1) := by decide +kernel
theorem dX10_led_3 : decode cX10_led 3 = .ok (.invokevirtual 179, 3) := by decide +kernel
theorem dX10_led_6 : decode cX10_led 6 = .ok (.ifCond .eq 19, 3) := by decide +kernel
theorem dX10_led_9 : decode cX10_led 9 = .ok (.iload_n 3, 1) := by decide +kernel
theorem dX10_led_10 : decode cX10_led 10 = .ok (.iconst 0, 1) := by decide +kernel
theorem dX10_led_11 : decode cX10_led 11 = .ok (.aload_n 0, 1) := by decide +kernel
theorem dX10_led_12 : decode cX10_led 12 = .ok (.getfield 7, 3) := by decide +kernel
theorem dX10_led_15 : decode cX10_led 15 = .ok (.iload_n 1, 1) := by decide +kernel
theorem dX10_led_16 : decode cX10_led 16 = .ok (.iaload, 1) := by decide +kernel
theorem dX10_led_17 : decode cX10_led 17 = .ok (.iconst 1, 1) := by decide +kernel
theorem dX10_led_18 : decode cX10_led 18 = .ok (.isub, 1) := by decide +kernel
theorem dX10_led_19 : decode cX10_led 19 = .ok (.invokestatic 110, 3) := by decide +kernel
theorem dX10_led_22 : decode cX10_led 22 = .ok (.ifCond .ne 5, 3) := by decide +kernel
theorem dX10_led_25 : decode cX10_led 25 = .ok (.iconst (-1), 1) := by decide +kernel
theorem dX10_led_26 : decode cX10_led 26 = .ok (.ireturn, 1) := by decide +kernel
theorem dX10_led_27 : decode cX10_led 27 = .ok (.aload_n 0, 1) := by decide +kernel
theorem dX10_led_28 : decode cX10_led 28 = .ok (.iload_n 1, 1) := by decide +kernel
theorem dX10_led_29 : decode cX10_led 29 = .ok (.iload_n 2, 1) := by decide +kernel
theorem dX10_led_30 : decode cX10_led 30 = .ok (.invokevirtual 193, 3) := by decide +kernel
theorem dX10_led_33 : decode cX10_led 33 = .ok (.aload_n 0, 1) := by decide +kernel
theorem dX10_led_34 : decode cX10_led 34 = .ok (.getfield 58, 3) := by decide +kernel
theorem dX10_led_37 : decode cX10_led 37 = .ok (.iload_n 3, 1) := by decide +kernel
theorem dX10_led_38 : decode cX10_led 38 = .ok (.iaload, 1) := by decide +kernel
theorem dX10_led_39 : decode cX10_led 39 = .ok (.ireturn, 1) := by decide +kernel
theorem dX10_layMoved_0 : decode cX10_layMoved 0 = .ok (.aload_n 0, 1) := by decide +kernel
theorem dX10_layMoved_1 : decode cX10_layMoved 1 = .ok (.iload_n 1, 1) := by decide +kernel
theorem dX10_layMoved_2 : decode cX10_layMoved 2 = .ok (.iload_n 2, 1) := by decide +kernel
theorem dX10_layMoved_3 : decode cX10_layMoved 3 = .ok (.invokevirtual 193, 3) := by decide +kernel
theorem dX10_layMoved_6 : decode cX10_layMoved 6 = .ok (.iconst 0, 1) := by decide +kernel
theorem dX10_layMoved_7 : decode cX10_layMoved 7 = .ok (.istore_n 3, 1) := by decide +kernel
theorem dX10_layMoved_8 : decode cX10_layMoved 8 = .ok (.iconst 0, 1) := by decide +kernel
theorem dX10_layMoved_9 : decode cX10_layMoved 9 = .ok (.istore 4, 2) := by decide +kernel
theorem dX10_layMoved_11 : decode cX10_layMoved 11 = .ok (.iconst 0, 1) := by decide +kernel
theorem dX10_layMoved_12 : decode cX10_layMoved 12 = .ok (.istore 5, 2) := by decide +kernel
theorem dX10_layMoved_14 : decode cX10_layMoved 14 = .ok (.iload 5, 2) := by decide +kernel
theorem dX10_layMoved_16 : decode cX10_layMoved 16 = .ok (.aload_n 0, 1) := by decide +kernel
theorem dX10_layMoved_17 : decode cX10_layMoved 17 = .ok (.getfield 157, 3) := by decide +kernel
theorem dX10_layMoved_20 : decode cX10_layMoved 20 = .ok (.if_icmp .ge 32, 3) := by decide +kernel
theorem dX10_layMoved_23 : decode cX10_layMoved 23 = .ok (.iload_n 3, 1) := by decide +kernel
theorem dX10_layMoved_24 : decode cX10_layMoved 24 = .ok (.aload_n 0, 1) := by decide +kernel
theorem dX10_layMoved_25 : decode cX10_layMoved 25 = .ok (.getfield 58, 3) := by decide +kernel
theorem dX10_layMoved_28 : decode cX10_layMoved 28 = .ok (.iload 5, 2) := by decide +kernel
theorem dX10_layMoved_30 : decode cX10_layMoved 30 = .ok (.iaload, 1) := by decide +kernel
theorem dX10_layMoved_31 : decode cX10_layMoved 31 = .ok (.bipush 99, 2) := by decide +kernel
theorem dX10_layMoved_33 : decode cX10_layMoved 33 = .ok (.if_icmp .ne 10, 3) := by decide +kernel
theorem dX10_layMoved_36 : decode cX10_layMoved 36 = .ok (.iconst 1, 1) := by decide +kernel
theorem dX10_layMoved_37 : decode cX10_layMoved 37 = .ok (.iload 5, 2) := by decide +kernel
theorem dX10_layMoved_39 : decode cX10_layMoved 39 = .ok (.ishl, 1) := by decide +kernel
theorem dX10_layMoved_40 : decode cX10_layMoved 40 = .ok (.goto 4, 3) := by decide +kernel
theorem dX10_layMoved_43 : decode cX10_layMoved 43 = .ok (.iconst 0, 1) := by decide +kernel
theorem dX10_layMoved_44 : decode cX10_layMoved 44 = .ok (.ior, 1) := by decide +kernel
theorem dX10_layMoved_45 : decode cX10_layMoved 45 = .ok (.istore_n 3, 1) := by decide +kernel
theorem dX10_layMoved_46 : decode cX10_layMoved 46 = .ok (.iinc 5 1, 3) := by decide +kernel
theorem dX10_layMoved_49 : decode cX10_layMoved 49 = .ok (.goto (-35), 3) := by decide +kernel
theorem dX10_layMoved_52 : decode cX10_layMoved 52 = .ok (.iconst 0, 1) := by decide +kernel
theorem dX10_layMoved_53 : decode cX10_layMoved 53 = .ok (.istore 5, 2) := by decide +kernel
theorem dX10_layMoved_55 : decode cX10_layMoved 55 = .ok (.iload 5, 2) := by decide +kernel
theorem dX10_layMoved_57 : decode cX10_layMoved 57 = .ok (.aload_n 0, 1) := by decide +kernel
theorem dX10_layMoved_58 : decode cX10_layMoved 58 = .ok (.getfield 160, 3) := by decide +kernel
theorem dX10_layMoved_61 : decode cX10_layMoved 61 = .ok (.if_icmp .ge 32, 3) := by decide +kernel
theorem dX10_layMoved_64 : decode cX10_layMoved 64 = .ok (.iload 4, 2) := by decide +kernel
theorem dX10_layMoved_66 : decode cX10_layMoved 66 = .ok (.aload_n 0, 1) := by decide +kernel
theorem dX10_layMoved_67 : decode cX10_layMoved 67 = .ok (.getfield 61, 3) := by decide +kernel
theorem dX10_layMoved_70 : decode cX10_layMoved 70 = .ok (.iload 5, 2) := by decide +kernel
theorem dX10_layMoved_72 : decode cX10_layMoved 72 = .ok (.iaload, 1) := by decide +kernel
theorem dX10_layMoved_73 : decode cX10_layMoved 73 = .ok (.ifCond .ge 10, 3) := by decide +kernel
theorem dX10_layMoved_76 : decode cX10_layMoved 76 = .ok (.iconst 1, 1) := by decide +kernel
theorem dX10_layMoved_77 : decode cX10_layMoved 77 = .ok (.iload 5, 2) := by decide +kernel
theorem dX10_layMoved_79 : decode cX10_layMoved 79 = .ok (.ishl, 1) := by decide +kernel
theorem dX10_layMoved_80 : decode cX10_layMoved 80 = .ok (.goto 4, 3) := by decide +kernel
theorem dX10_layMoved_83 : decode cX10_layMoved 83 = .ok (.iconst 0, 1) := by decide +kernel
theorem dX10_layMoved_84 : decode cX10_layMoved 84 = .ok (.ior, 1) := by decide +kernel
theorem dX10_layMoved_85 : decode cX10_layMoved 85 = .ok (.istore 4, 2) := by decide +kernel
theorem dX10_layMoved_87 : decode cX10_layMoved 87 = .ok (.iinc 5 1, 3) := by decide +kernel
theorem dX10_layMoved_90 : decode cX10_layMoved 90 = .ok (.goto (-35), 3) := by decide +kernel
theorem dX10_layMoved_93 : decode cX10_layMoved 93 = .ok (.aload_n 0, 1) := by decide +kernel
theorem dX10_layMoved_94 : decode cX10_layMoved 94 = .ok (.iconst 0, 1) := by decide +kernel
theorem dX10_layMoved_95 : decode cX10_layMoved 95 = .ok (.putfield 196, 3) := by decide +kernel
theorem dX10_layMoved_98 : decode cX10_layMoved 98 = .ok (.aload_n 0, 1) := by decide +kernel
theorem dX10_layMoved_99 : decode cX10_layMoved 99 = .ok (.iconst 0, 1) := by decide +kernel
theorem dX10_layMoved_100 : decode cX10_layMoved 100 = .ok (.putfield 199, 3) := by decide +kernel
theorem dX10_layMoved_103 : decode cX10_layMoved 103 = .ok (.iconst 1, 1) := by decide +kernel
theorem dX10_layMoved_104 : decode cX10_layMoved 104 = .ok (.istore 5, 2) := by decide +kernel
theorem dX10_layMoved_106 : decode cX10_layMoved 106 = .ok (.iload 5, 2) := by decide +kernel
theorem dX10_layMoved_108 : decode cX10_layMoved 108 = .ok (.ifCond .eq 254, 3) := by decide +kernel
theorem dX10_layMoved_111 : decode cX10_layMoved 111 = .ok (.bipush (-6), 2) := by decide +kernel
theorem dX10_layMoved_113 : decode cX10_layMoved 113 = .ok (.istore 6, 2) := by decide +kernel
theorem dX10_layMoved_115 : decode cX10_layMoved 115 = .ok (.bipush (-6), 2) := by decide +kernel
theorem dX10_layMoved_117 : decode cX10_layMoved 117 = .ok (.istore 7, 2) := by decide +kernel
theorem dX10_layMoved_119 : decode cX10_layMoved 119 = .ok (.iconst 0, 1) := by decide +kernel
theorem dX10_layMoved_120 : decode cX10_layMoved 120 = .ok (.istore 8, 2) := by decide +kernel
theorem dX10_layMoved_122 : decode cX10_layMoved 122 = .ok (.iconst 0, 1) := by decide +kernel
theorem dX10_layMoved_123 : decode cX10_layMoved 123 = .ok (.istore 9, 2) := by decide +kernel
theorem dX10_layMoved_125 : decode cX10_layMoved 125 = .ok (.iload 9, 2) := by decide +kernel
theorem dX10_layMoved_127 : decode cX10_layMoved 127 = .ok (.aload_n 0, 1) := by decide +kernel
theorem dX10_layMoved_128 : decode cX10_layMoved 128 = .ok (.getfield 157, 3) := by decide +kernel
theorem dX10_layMoved_131 : decode cX10_layMoved 131 = .ok (.if_icmp .ge 138, 3) := by decide +kernel
theorem dX10_layMoved_134 : decode cX10_layMoved 134 = .ok (.iconst 0, 1) := by decide +kernel
theorem dX10_layMoved_135 : decode cX10_layMoved 135 = .ok (.istore 10, 2) := by decide +kernel
theorem dX10_layMoved_137 : decode cX10_layMoved 137 = .ok (.iload 10, 2) := by decide +kernel
theorem dX10_layMoved_139 : decode cX10_layMoved 139 = .ok (.aload_n 0, 1) := by decide +kernel
theorem dX10_layMoved_140 : decode cX10_layMoved 140 = .ok (.getfield 160, 3) := by decide +kernel
theorem dX10_layMoved_143 : decode cX10_layMoved 143 = .ok (.if_icmp .ge 120, 3) := by decide +kernel
theorem dX10_layMoved_146 : decode cX10_layMoved 146 = .ok (.aload_n 0, 1) := by decide +kernel
theorem dX10_layMoved_147 : decode cX10_layMoved 147 = .ok (.iload_n 1, 1) := by decide +kernel
theorem dX10_layMoved_148 : decode cX10_layMoved 148 = .ok (.iload 9, 2) := by decide +kernel
theorem dX10_layMoved_150 : decode cX10_layMoved 150 = .ok (.invokevirtual 128, 3) := by decide +kernel
theorem dX10_layMoved_153 : decode cX10_layMoved 153 = .ok (.istore 11, 2) := by decide +kernel
theorem dX10_layMoved_155 : decode cX10_layMoved 155 = .ok (.iconst 1, 1) := by decide +kernel
theorem dX10_layMoved_156 : decode cX10_layMoved 156 = .ok (.iload 11, 2) := by decide +kernel
theorem dX10_layMoved_158 : decode cX10_layMoved 158 = .ok (.ishl, 1) := by decide +kernel
theorem dX10_layMoved_159 : decode cX10_layMoved 159 = .ok (.iconst 1, 1) := by decide +kernel
theorem dX10_layMoved_160 : decode cX10_layMoved 160 = .ok (.isub, 1) := by decide +kernel
theorem dX10_layMoved_161 : decode cX10_layMoved 161 = .ok (.istore 12, 2) := by decide +kernel
theorem dX10_layMoved_163 : decode cX10_layMoved 163 = .ok (.iload 11, 2) := by decide +kernel
theorem dX10_layMoved_165 : decode cX10_layMoved 165 = .ok (.iload 8, 2) := by decide +kernel
theorem dX10_layMoved_167 : decode cX10_layMoved 167 = .ok (.if_icmp .le 45, 3) := by decide +kernel
theorem dX10_layMoved_170 : decode cX10_layMoved 170 = .ok (.iload_n 3, 1) := by decide +kernel
theorem dX10_layMoved_171 : decode cX10_layMoved 171 = .ok (.iload 9, 2) := by decide +kernel
theorem dX10_layMoved_173 : decode cX10_layMoved 173 = .ok (.ishr, 1) := by decide +kernel
theorem dX10_layMoved_174 : decode cX10_layMoved 174 = .ok (.iload 12, 2) := by decide +kernel
theorem dX10_layMoved_176 : decode cX10_layMoved 176 = .ok (.iand, 1) := by decide +kernel
theorem dX10_layMoved_177 : decode cX10_layMoved 177 = .ok (.iload 12, 2) := by decide +kernel
theorem dX10_layMoved_179 : decode cX10_layMoved 179 = .ok (.if_icmp .ne 33, 3) := by decide +kernel
theorem dX10_layMoved_182 : decode cX10_layMoved 182 = .ok (.iload 4, 2) := by decide +kernel
theorem dX10_layMoved_184 : decode cX10_layMoved 184 = .ok (.iload 10, 2) := by decide +kernel
theorem dX10_layMoved_186 : decode cX10_layMoved 186 = .ok (.ishr, 1) := by decide +kernel
theorem dX10_layMoved_187 : decode cX10_layMoved 187 = .ok (.iload 12, 2) := by decide +kernel
theorem dX10_layMoved_189 : decode cX10_layMoved 189 = .ok (.iand, 1) := by decide +kernel
theorem dX10_layMoved_190 : decode cX10_layMoved 190 = .ok (.iload 12, 2) := by decide +kernel
theorem dX10_layMoved_192 : decode cX10_layMoved 192 = .ok (.if_icmp .ne 20, 3) := by decide +kernel
theorem dX10_layMoved_195 : decode cX10_layMoved 195 = .ok (.aload_n 0, 1) := by decide +kernel
theorem dX10_layMoved_196 : decode cX10_layMoved 196 = .ok (.iload_n 1, 1) := by decide +kernel
theorem dX10_layMoved_197 : decode cX10_layMoved 197 = .ok (.iload 9, 2) := by decide +kernel
theorem dX10_layMoved_199 : decode cX10_layMoved 199 = .ok (.iload_n 2, 1) := by decide +kernel
theorem dX10_layMoved_200 : decode cX10_layMoved 200 = .ok (.iload 10, 2) := by decide +kernel
theorem dX10_layMoved_202 : decode cX10_layMoved 202 = .ok (.invokevirtual 153, 3) := by decide +kernel
theorem dX10_layMoved_205 : decode cX10_layMoved 205 = .ok (.ifCond .eq 7, 3) := by decide +kernel
theorem dX10_layMoved_208 : decode cX10_layMoved 208 = .ok (.iconst 1, 1) := by decide +kernel
theorem dX10_layMoved_209 : decode cX10_layMoved 209 = .ok (.goto 4, 3) := by decide +kernel
theorem dX10_layMoved_212 : decode cX10_layMoved 212 = .ok (.iconst 0, 1) := by decide +kernel
theorem dX10_layMoved_213 : decode cX10_layMoved 213 = .ok (.istore 13, 2) := by decide +kernel
theorem dX10_layMoved_215 : decode cX10_layMoved 215 = .ok (.iload 13, 2) := by decide +kernel
theorem dX10_layMoved_217 : decode cX10_layMoved 217 = .ok (.ifCond .eq 8, 3) := by decide +kernel
theorem dX10_layMoved_220 : decode cX10_layMoved 220 = .ok (.iload 9, 2) := by decide +kernel
theorem dX10_layMoved_222 : decode cX10_layMoved 222 = .ok (.goto 5, 3) := by decide +kernel
theorem dX10_layMoved_225 : decode cX10_layMoved 225 = .ok (.iload 6, 2) := by decide +kernel
theorem dX10_layMoved_227 : decode cX10_layMoved 227 = .ok (.istore 6, 2) := by decide +kernel
theorem dX10_layMoved_229 : decode cX10_layMoved 229 = .ok (.iload 13, 2) := by decide +kernel
theorem dX10_layMoved_231 : decode cX10_layMoved 231 = .ok (.ifCond .eq 8, 3) := by decide +kernel
theorem dX10_layMoved_234 : decode cX10_layMoved 234 = .ok (.iload 10, 2) := by decide +kernel
theorem dX10_layMoved_236 : decode cX10_layMoved 236 = .ok (.goto 5, 3) := by decide +kernel
theorem dX10_layMoved_239 : decode cX10_layMoved 239 = .ok (.iload 7, 2) := by decide +kernel
theorem dX10_layMoved_241 : decode cX10_layMoved 241 = .ok (.istore 7, 2) := by decide +kernel
theorem dX10_layMoved_243 : decode cX10_layMoved 243 = .ok (.iload 13, 2) := by decide +kernel
theorem dX10_layMoved_245 : decode cX10_layMoved 245 = .ok (.ifCond .eq 8, 3) := by decide +kernel
theorem dX10_layMoved_248 : decode cX10_layMoved 248 = .ok (.iload 11, 2) := by decide +kernel
theorem dX10_layMoved_250 : decode cX10_layMoved 250 = .ok (.goto 5, 3) := by decide +kernel
theorem dX10_layMoved_253 : decode cX10_layMoved 253 = .ok (.iload 8, 2) := by decide +kernel
theorem dX10_layMoved_255 : decode cX10_layMoved 255 = .ok (.istore 8, 2) := by decide +kernel
theorem dX10_layMoved_257 : decode cX10_layMoved 257 = .ok (.iinc 10 1, 3) := by decide +kernel
theorem dX10_layMoved_260 : decode cX10_layMoved 260 = .ok (.goto (-123), 3) := by decide +kernel
theorem dX10_layMoved_263 : decode cX10_layMoved 263 = .ok (.iinc 9 1, 3) := by decide +kernel
theorem dX10_layMoved_266 : decode cX10_layMoved 266 = .ok (.goto (-141), 3) := by decide +kernel
theorem dX10_layMoved_269 : decode cX10_layMoved 269 = .ok (.iload 6, 2) := by decide +kernel
theorem dX10_layMoved_271 : decode cX10_layMoved 271 = .ok (.ifCond .lt 7, 3) := by decide +kernel
theorem dX10_layMoved_274 : decode cX10_layMoved 274 = .ok (.iconst 1, 1) := by decide +kernel
theorem dX10_layMoved_275 : decode cX10_layMoved 275 = .ok (.goto 4, 3) := by decide +kernel
theorem dX10_layMoved_278 : decode cX10_layMoved 278 = .ok (.iconst 0, 1) := by decide +kernel
theorem dX10_layMoved_279 : decode cX10_layMoved 279 = .ok (.istore 5, 2) := by decide +kernel
theorem dX10_layMoved_281 : decode cX10_layMoved 281 = .ok (.iload 5, 2) := by decide +kernel
theorem dX10_layMoved_283 : decode cX10_layMoved 283 = .ok (.ifCond .eq 76, 3) := by decide +kernel
theorem dX10_layMoved_286 : decode cX10_layMoved 286 = .ok (.iconst 1, 1) := by decide +kernel
theorem dX10_layMoved_287 : decode cX10_layMoved 287 = .ok (.iload 8, 2) := by decide +kernel
theorem dX10_layMoved_289 : decode cX10_layMoved 289 = .ok (.ishl, 1) := by decide +kernel
theorem dX10_layMoved_290 : decode cX10_layMoved 290 = .ok (.iconst 1, 1) := by decide +kernel
theorem dX10_layMoved_291 : decode cX10_layMoved 291 = .ok (.isub, 1) := by decide +kernel
theorem dX10_layMoved_292 : decode cX10_layMoved 292 = .ok (.istore 9, 2) := by decide +kernel
theorem dX10_layMoved_294 : decode cX10_layMoved 294 = .ok (.iload_n 3, 1) := by decide +kernel
theorem dX10_layMoved_295 : decode cX10_layMoved 295 = .ok (.iload 9, 2) := by decide +kernel
theorem dX10_layMoved_297 : decode cX10_layMoved 297 = .ok (.iload 6, 2) := by decide +kernel
theorem dX10_layMoved_299 : decode cX10_layMoved 299 = .ok (.ishl, 1) := by decide +kernel
theorem dX10_layMoved_300 : decode cX10_layMoved 300 = .ok (.iconst (-1), 1) := by decide +kernel
theorem dX10_layMoved_301 : decode cX10_layMoved 301 = .ok (.ixor, 1) := by decide +kernel
theorem dX10_layMoved_302 : decode cX10_layMoved 302 = .ok (.iand, 1) := by decide +kernel
theorem dX10_layMoved_303 : decode cX10_layMoved 303 = .ok (.istore_n 3, 1) := by decide +kernel
theorem dX10_layMoved_304 : decode cX10_layMoved 304 = .ok (.iload 4, 2) := by decide +kernel
theorem dX10_layMoved_306 : decode cX10_layMoved 306 = .ok (.iload 9, 2) := by decide +kernel
theorem dX10_layMoved_308 : decode cX10_layMoved 308 = .ok (.iload 7, 2) := by decide +kernel
theorem dX10_layMoved_310 : decode cX10_layMoved 310 = .ok (.ishl, 1) := by decide +kernel
theorem dX10_layMoved_311 : decode cX10_layMoved 311 = .ok (.iconst (-1), 1) := by decide +kernel
theorem dX10_layMoved_312 : decode cX10_layMoved 312 = .ok (.ixor, 1) := by decide +kernel
theorem dX10_layMoved_313 : decode cX10_layMoved 313 = .ok (.iand, 1) := by decide +kernel
theorem dX10_layMoved_314 : decode cX10_layMoved 314 = .ok (.istore 4, 2) := by decide +kernel
theorem dX10_layMoved_316 : decode cX10_layMoved 316 = .ok (.aload_n 0, 1) := by decide +kernel
theorem dX10_layMoved_317 : decode cX10_layMoved 317 = .ok (.getfield 64, 3) := by decide +kernel
theorem dX10_layMoved_320 : decode cX10_layMoved 320 = .ok (.aload_n 0, 1) := by decide +kernel
theorem dX10_layMoved_321 : decode cX10_layMoved 321 = .ok (.getfield 196, 3) := by decide +kernel
theorem dX10_layMoved_324 : decode cX10_layMoved 324 = .ok (.iload 6, 2) := by decide +kernel
theorem dX10_layMoved_326 : decode cX10_layMoved 326 = .ok (.iastore, 1) := by decide +kernel
theorem dX10_layMoved_327 : decode cX10_layMoved 327 = .ok (.aload_n 0, 1) := by decide +kernel
theorem dX10_layMoved_328 : decode cX10_layMoved 328 = .ok (.getfield 67, 3) := by decide +kernel
theorem dX10_layMoved_331 : decode cX10_layMoved 331 = .ok (.aload_n 0, 1) := by decide +kernel
theorem dX10_layMoved_332 : decode cX10_layMoved 332 = .ok (.getfield 196, 3) := by decide +kernel
theorem dX10_layMoved_335 : decode cX10_layMoved 335 = .ok (.iload 7, 2) := by decide +kernel
theorem dX10_layMoved_337 : decode cX10_layMoved 337 = .ok (.iastore, 1) := by decide +kernel
theorem dX10_layMoved_338 : decode cX10_layMoved 338 = .ok (.aload_n 0, 1) := by decide +kernel
theorem dX10_layMoved_339 : decode cX10_layMoved 339 = .ok (.dup, 1) := by decide +kernel
theorem dX10_layMoved_340 : decode cX10_layMoved 340 = .ok (.getfield 196, 3) := by decide +kernel
theorem dX10_layMoved_343 : decode cX10_layMoved 343 = .ok (.iconst 1, 1) := by decide +kernel
theorem dX10_layMoved_344 : decode cX10_layMoved 344 = .ok (.iadd, 1) := by decide +kernel
theorem dX10_layMoved_345 : decode cX10_layMoved 345 = .ok (.putfield 196, 3) := by decide +kernel
theorem dX10_layMoved_348 : decode cX10_layMoved 348 = .ok (.aload_n 0, 1) := by decide +kernel
theorem dX10_layMoved_349 : decode cX10_layMoved 349 = .ok (.dup, 1) := by decide +kernel
theorem dX10_layMoved_350 : decode cX10_layMoved 350 = .ok (.getfield 199, 3) := by decide +kernel
theorem dX10_layMoved_353 : decode cX10_layMoved 353 = .ok (.iload 8, 2) := by decide +kernel
theorem dX10_layMoved_355 : decode cX10_layMoved 355 = .ok (.iadd, 1) := by decide +kernel
theorem dX10_layMoved_356 : decode cX10_layMoved 356 = .ok (.putfield 199, 3) := by decide +kernel
theorem dX10_layMoved_359 : decode cX10_layMoved 359 = .ok (.goto (-253), 3) := by decide +kernel
theorem dX10_layMoved_362 : decode cX10_layMoved 362 = .ok (.return_, 1) := by decide +kernel
theorem dX10_edits_0 : decode cX10_edits 0 = .ok (.aload_n 0, 1) := by decide +kernel
theorem dX10_edits_1 : decode cX10_edits 1 = .ok (.iload_n 1, 1) := by decide +kernel
theorem dX10_edits_2 : decode cX10_edits 2 = .ok (.iload_n 2, 1) := by decide +kernel
theorem dX10_edits_3 : decode cX10_edits 3 = .ok (.invokevirtual 179, 3) := by decide +kernel
theorem dX10_edits_6 : decode cX10_edits 6 = .ok (.ifCond .ne 5, 3) := by decide +kernel
theorem dX10_edits_9 : decode cX10_edits 9 = .ok (.iconst (-1), 1) := by decide +kernel
theorem dX10_edits_10 : decode cX10_edits 10 = .ok (.ireturn, 1) := by decide +kernel
theorem dX10_edits_11 : decode cX10_edits 11 = .ok (.iload_n 3, 1) := by decide +kernel
theorem dX10_edits_12 : decode cX10_edits 12 = .ok (.iconst 0, 1) := by decide +kernel
theorem dX10_edits_13 : decode cX10_edits 13 = .ok (.iconst 5, 1) := by decide +kernel
theorem dX10_edits_14 : decode cX10_edits 14 = .ok (.invokestatic 110, 3) := by decide +kernel
theorem dX10_edits_17 : decode cX10_edits 17 = .ok (.ifCond .ne 6, 3) := by decide +kernel
theorem dX10_edits_20 : decode cX10_edits 20 = .ok (.bipush (-2), 2) := by decide +kernel
theorem dX10_edits_22 : decode cX10_edits 22 = .ok (.ireturn, 1) := by decide +kernel
theorem dX10_edits_23 : decode cX10_edits 23 = .ok (.aload_n 0, 1) := by decide +kernel
theorem dX10_edits_24 : decode cX10_edits 24 = .ok (.iload_n 1, 1) := by decide +kernel
theorem dX10_edits_25 : decode cX10_edits 25 = .ok (.iload_n 2, 1) := by decide +kernel
theorem dX10_edits_26 : decode cX10_edits 26 = .ok (.invokevirtual 202, 3) := by decide +kernel
theorem dX10_edits_29 : decode cX10_edits 29 = .ok (.iconst 0, 1) := by decide +kernel
theorem dX10_edits_30 : decode cX10_edits 30 = .ok (.istore 4, 2) := by decide +kernel
theorem dX10_edits_32 : decode cX10_edits 32 = .ok (.iconst 0, 1) := by decide +kernel
theorem dX10_edits_33 : decode cX10_edits 33 = .ok (.istore 5, 2) := by decide +kernel
theorem dX10_edits_35 : decode cX10_edits 35 = .ok (.iconst 0, 1) := by decide +kernel
theorem dX10_edits_36 : decode cX10_edits 36 = .ok (.istore 6, 2) := by decide +kernel
theorem dX10_edits_38 : decode cX10_edits 38 = .ok (.iload 6, 2) := by decide +kernel
theorem dX10_edits_40 : decode cX10_edits 40 = .ok (.aload_n 0, 1) := by decide +kernel
theorem dX10_edits_41 : decode cX10_edits 41 = .ok (.getfield 157, 3) := by decide +kernel
theorem dX10_edits_44 : decode cX10_edits 44 = .ok (.if_icmp .ge 85, 3) := by decide +kernel
theorem dX10_edits_47 : decode cX10_edits 47 = .ok (.iload 4, 2) := by decide +kernel
theorem dX10_edits_49 : decode cX10_edits 49 = .ok (.aload_n 0, 1) := by decide +kernel
theorem dX10_edits_50 : decode cX10_edits 50 = .ok (.getfield 58, 3) := by decide +kernel
theorem dX10_edits_53 : decode cX10_edits 53 = .ok (.iload 6, 2) := by decide +kernel
theorem dX10_edits_55 : decode cX10_edits 55 = .ok (.iaload, 1) := by decide +kernel
theorem dX10_edits_56 : decode cX10_edits 56 = .ok (.bipush 99, 2) := by decide +kernel
theorem dX10_edits_58 : decode cX10_edits 58 = .ok (.if_icmp .ge 7, 3) := by decide +kernel
theorem dX10_edits_61 : decode cX10_edits 61 = .ok (.iconst 1, 1) := by decide +kernel
theorem dX10_edits_62 : decode cX10_edits 62 = .ok (.goto 4, 3) := by decide +kernel
theorem dX10_edits_65 : decode cX10_edits 65 = .ok (.iconst 0, 1) := by decide +kernel
theorem dX10_edits_66 : decode cX10_edits 66 = .ok (.iadd, 1) := by decide +kernel
theorem dX10_edits_67 : decode cX10_edits 67 = .ok (.istore 4, 2) := by decide +kernel
theorem dX10_edits_69 : decode cX10_edits 69 = .ok (.iload 5, 2) := by decide +kernel
theorem dX10_edits_71 : decode cX10_edits 71 = .ok (.aload_n 0, 1) := by decide +kernel
theorem dX10_edits_72 : decode cX10_edits 72 = .ok (.getfield 58, 3) := by decide +kernel
theorem dX10_edits_75 : decode cX10_edits 75 = .ok (.iload 6, 2) := by decide +kernel
theorem dX10_edits_77 : decode cX10_edits 77 = .ok (.iaload, 1) := by decide +kernel
theorem dX10_edits_78 : decode cX10_edits 78 = .ok (.bipush 99, 2) := by decide +kernel
theorem dX10_edits_80 : decode cX10_edits 80 = .ok (.if_icmp .ge 39, 3) := by decide +kernel
theorem dX10_edits_83 : decode cX10_edits 83 = .ok (.aload_n 0, 1) := by decide +kernel
theorem dX10_edits_84 : decode cX10_edits 84 = .ok (.getfield 13, 3) := by decide +kernel
theorem dX10_edits_87 : decode cX10_edits 87 = .ok (.bipush 32, 2) := by decide +kernel
theorem dX10_edits_89 : decode cX10_edits 89 = .ok (.iload_n 1, 1) := by decide +kernel
theorem dX10_edits_90 : decode cX10_edits 90 = .ok (.imul, 1) := by decide +kernel
theorem dX10_edits_91 : decode cX10_edits 91 = .ok (.iload 6, 2) := by decide +kernel
theorem dX10_edits_93 : decode cX10_edits 93 = .ok (.iadd, 1) := by decide +kernel
theorem dX10_edits_94 : decode cX10_edits 94 = .ok (.iaload, 1) := by decide +kernel
theorem dX10_edits_95 : decode cX10_edits 95 = .ok (.aload_n 0, 1) := by decide +kernel
theorem dX10_edits_96 : decode cX10_edits 96 = .ok (.getfield 13, 3) := by decide +kernel
theorem dX10_edits_99 : decode cX10_edits 99 = .ok (.bipush 32, 2) := by decide +kernel
theorem dX10_edits_101 : decode cX10_edits 101 = .ok (.iload_n 2, 1) := by decide +kernel
theorem dX10_edits_102 : decode cX10_edits 102 = .ok (.imul, 1) := by decide +kernel
theorem dX10_edits_103 : decode cX10_edits 103 = .ok (.aload_n 0, 1) := by decide +kernel
theorem dX10_edits_104 : decode cX10_edits 104 = .ok (.getfield 58, 3) := by decide +kernel
theorem dX10_edits_107 : decode cX10_edits 107 = .ok (.iload 6, 2) := by decide +kernel
theorem dX10_edits_109 : decode cX10_edits 109 = .ok (.iaload, 1) := by decide +kernel
theorem dX10_edits_110 : decode cX10_edits 110 = .ok (.iadd, 1) := by decide +kernel
theorem dX10_edits_111 : decode cX10_edits 111 = .ok (.iaload, 1) := by decide +kernel
theorem dX10_edits_112 : decode cX10_edits 112 = .ok (.if_icmp .eq 7, 3) := by decide +kernel
theorem dX10_edits_115 : decode cX10_edits 115 = .ok (.iconst 1, 1) := by decide +kernel
theorem dX10_edits_116 : decode cX10_edits 116 = .ok (.goto 4, 3) := by decide +kernel
theorem dX10_edits_119 : decode cX10_edits 119 = .ok (.iconst 0, 1) := by decide +kernel
theorem dX10_edits_120 : decode cX10_edits 120 = .ok (.iadd, 1) := by decide +kernel
theorem dX10_edits_121 : decode cX10_edits 121 = .ok (.istore 5, 2) := by decide +kernel
theorem dX10_edits_123 : decode cX10_edits 123 = .ok (.iinc 6 1, 3) := by decide +kernel
theorem dX10_edits_126 : decode cX10_edits 126 = .ok (.goto (-88), 3) := by decide +kernel
theorem dX10_edits_129 : decode cX10_edits 129 = .ok (.iload_n 3, 1) := by decide +kernel
theorem dX10_edits_130 : decode cX10_edits 130 = .ok (.ifCond .ne 8, 3) := by decide +kernel
theorem dX10_edits_133 : decode cX10_edits 133 = .ok (.iload 4, 2) := by decide +kernel
theorem dX10_edits_135 : decode cX10_edits 135 = .ok (.goto 59, 3) := by decide +kernel
theorem dX10_edits_138 : decode cX10_edits 138 = .ok (.iload_n 3, 1) := by decide +kernel
theorem dX10_edits_139 : decode cX10_edits 139 = .ok (.iconst 1, 1) := by decide +kernel
theorem dX10_edits_140 : decode cX10_edits 140 = .ok (.if_icmp .ne 8, 3) := by decide +kernel
theorem dX10_edits_143 : decode cX10_edits 143 = .ok (.iload 5, 2) := by decide +kernel
theorem dX10_edits_145 : decode cX10_edits 145 = .ok (.goto 49, 3) := by decide +kernel
theorem dX10_edits_148 : decode cX10_edits 148 = .ok (.iload_n 3, 1) := by decide +kernel
theorem dX10_edits_149 : decode cX10_edits 149 = .ok (.iconst 2, 1) := by decide +kernel
theorem dX10_edits_150 : decode cX10_edits 150 = .ok (.if_icmp .ne 13, 3) := by decide +kernel
theorem dX10_edits_153 : decode cX10_edits 153 = .ok (.aload_n 0, 1) := by decide +kernel
theorem dX10_edits_154 : decode cX10_edits 154 = .ok (.getfield 157, 3) := by decide +kernel
theorem dX10_edits_157 : decode cX10_edits 157 = .ok (.iload 4, 2) := by decide +kernel
theorem dX10_edits_159 : decode cX10_edits 159 = .ok (.isub, 1) := by decide +kernel
theorem dX10_edits_160 : decode cX10_edits 160 = .ok (.goto 34, 3) := by decide +kernel
theorem dX10_edits_163 : decode cX10_edits 163 = .ok (.iload_n 3, 1) := by decide +kernel
theorem dX10_edits_164 : decode cX10_edits 164 = .ok (.iconst 3, 1) := by decide +kernel
theorem dX10_edits_165 : decode cX10_edits 165 = .ok (.if_icmp .ne 13, 3) := by decide +kernel
theorem dX10_edits_168 : decode cX10_edits 168 = .ok (.aload_n 0, 1) := by decide +kernel
theorem dX10_edits_169 : decode cX10_edits 169 = .ok (.getfield 160, 3) := by decide +kernel
theorem dX10_edits_172 : decode cX10_edits 172 = .ok (.iload 4, 2) := by decide +kernel
theorem dX10_edits_174 : decode cX10_edits 174 = .ok (.isub, 1) := by decide +kernel
theorem dX10_edits_175 : decode cX10_edits 175 = .ok (.goto 19, 3) := by decide +kernel
theorem dX10_edits_178 : decode cX10_edits 178 = .ok (.iload_n 3, 1) := by decide +kernel
theorem dX10_edits_179 : decode cX10_edits 179 = .ok (.iconst 4, 1) := by decide +kernel
theorem dX10_edits_180 : decode cX10_edits 180 = .ok (.if_icmp .ne 10, 3) := by decide +kernel
theorem dX10_edits_183 : decode cX10_edits 183 = .ok (.aload_n 0, 1) := by decide +kernel
theorem dX10_edits_184 : decode cX10_edits 184 = .ok (.getfield 196, 3) := by decide +kernel
theorem dX10_edits_187 : decode cX10_edits 187 = .ok (.goto 7, 3) := by decide +kernel
theorem dX10_edits_190 : decode cX10_edits 190 = .ok (.aload_n 0, 1) := by decide +kernel
theorem dX10_edits_191 : decode cX10_edits 191 = .ok (.getfield 199, 3) := by decide +kernel
theorem dX10_edits_194 : decode cX10_edits 194 = .ok (.ireturn, 1) := by decide +kernel
theorem dX10_moved_0 : decode cX10_moved 0 = .ok (.aload_n 0, 1) := by decide +kernel
theorem dX10_moved_1 : decode cX10_moved 1 = .ok (.iload_n 1, 1) := by decide +kernel
theorem dX10_moved_2 : decode cX10_moved 2 = .ok (.iload_n 2, 1) := by decide +kernel
theorem dX10_moved_3 : decode cX10_moved 3 = .ok (.invokevirtual 179, 3) := by decide +kernel
theorem dX10_moved_6 : decode cX10_moved 6 = .ok (.ifCond .ne 5, 3) := by decide +kernel
theorem dX10_moved_9 : decode cX10_moved 9 = .ok (.iconst (-1), 1) := by decide +kernel
theorem dX10_moved_10 : decode cX10_moved 10 = .ok (.ireturn, 1) := by decide +kernel
theorem dX10_moved_11 : decode cX10_moved 11 = .ok (.aload_n 0, 1) := by decide +kernel
theorem dX10_moved_12 : decode cX10_moved 12 = .ok (.iload_n 1, 1) := by decide +kernel
theorem dX10_moved_13 : decode cX10_moved 13 = .ok (.iload_n 2, 1) := by decide +kernel
theorem dX10_moved_14 : decode cX10_moved 14 = .ok (.invokevirtual 202, 3) := by decide +kernel
theorem dX10_moved_17 : decode cX10_moved 17 = .ok (.iload_n 3, 1) := by decide +kernel
theorem dX10_moved_18 : decode cX10_moved 18 = .ok (.iconst 0, 1) := by decide +kernel
theorem dX10_moved_19 : decode cX10_moved 19 = .ok (.aload_n 0, 1) := by decide +kernel
theorem dX10_moved_20 : decode cX10_moved 20 = .ok (.getfield 196, 3) := by decide +kernel
theorem dX10_moved_23 : decode cX10_moved 23 = .ok (.iconst 1, 1) := by decide +kernel
theorem dX10_moved_24 : decode cX10_moved 24 = .ok (.isub, 1) := by decide +kernel
theorem dX10_moved_25 : decode cX10_moved 25 = .ok (.invokestatic 110, 3) := by decide +kernel
theorem dX10_moved_28 : decode cX10_moved 28 = .ok (.ifCond .eq 22, 3) := by decide +kernel
theorem dX10_moved_31 : decode cX10_moved 31 = .ok (.bipush 100, 2) := by decide +kernel
theorem dX10_moved_33 : decode cX10_moved 33 = .ok (.aload_n 0, 1) := by decide +kernel
theorem dX10_moved_34 : decode cX10_moved 34 = .ok (.getfield 64, 3) := by decide +kernel
theorem dX10_moved_37 : decode cX10_moved 37 = .ok (.iload_n 3, 1) := by decide +kernel
theorem dX10_moved_38 : decode cX10_moved 38 = .ok (.iaload, 1) := by decide +kernel
theorem dX10_moved_39 : decode cX10_moved 39 = .ok (.imul, 1) := by decide +kernel
theorem dX10_moved_40 : decode cX10_moved 40 = .ok (.aload_n 0, 1) := by decide +kernel
theorem dX10_moved_41 : decode cX10_moved 41 = .ok (.getfield 67, 3) := by decide +kernel
theorem dX10_moved_44 : decode cX10_moved 44 = .ok (.iload_n 3, 1) := by decide +kernel
theorem dX10_moved_45 : decode cX10_moved 45 = .ok (.iaload, 1) := by decide +kernel
theorem dX10_moved_46 : decode cX10_moved 46 = .ok (.iadd, 1) := by decide +kernel
theorem dX10_moved_47 : decode cX10_moved 47 = .ok (.goto 5, 3) := by decide +kernel
theorem dX10_moved_50 : decode cX10_moved 50 = .ok (.bipush (-6), 2) := by decide +kernel
theorem dX10_moved_52 : decode cX10_moved 52 = .ok (.ireturn, 1) := by decide +kernel
theorem dX10_isPlain_0 : decode cX10_isPlain 0 = .ok (.iconst 1, 1) := by decide +kernel
theorem dX10_isPlain_1 : decode cX10_isPlain 1 = .ok (.istore_n 2, 1) := by decide +kernel
theorem dX10_isPlain_2 : decode cX10_isPlain 2 = .ok (.iconst 0, 1) := by decide +kernel
theorem dX10_isPlain_3 : decode cX10_isPlain 3 = .ok (.istore_n 3, 1) := by decide +kernel
theorem dX10_isPlain_4 : decode cX10_isPlain 4 = .ok (.iload_n 3, 1) := by decide +kernel
theorem dX10_isPlain_5 : decode cX10_isPlain 5 = .ok (.aload_n 0, 1) := by decide +kernel
theorem dX10_isPlain_6 : decode cX10_isPlain 6 = .ok (.getfield 7, 3) := by decide +kernel
theorem dX10_isPlain_9 : decode cX10_isPlain 9 = .ok (.iload_n 1, 1) := by decide +kernel
theorem dX10_isPlain_10 : decode cX10_isPlain 10 = .ok (.iaload, 1) := by decide +kernel
theorem dX10_isPlain_11 : decode cX10_isPlain 11 = .ok (.if_icmp .ge 36, 3) := by decide +kernel
theorem dX10_isPlain_14 : decode cX10_isPlain 14 = .ok (.iload_n 2, 1) := by decide +kernel
theorem dX10_isPlain_15 : decode cX10_isPlain 15 = .ok (.ifCond .eq 24, 3) := by decide +kernel
theorem dX10_isPlain_18 : decode cX10_isPlain 18 = .ok (.aload_n 0, 1) := by decide +kernel
theorem dX10_isPlain_19 : decode cX10_isPlain 19 = .ok (.getfield 13, 3) := by decide +kernel
theorem dX10_isPlain_22 : decode cX10_isPlain 22 = .ok (.bipush 32, 2) := by decide +kernel
theorem dX10_isPlain_24 : decode cX10_isPlain 24 = .ok (.iload_n 1, 1) := by decide +kernel
theorem dX10_isPlain_25 : decode cX10_isPlain 25 = .ok (.imul, 1) := by decide +kernel
theorem dX10_isPlain_26 : decode cX10_isPlain 26 = .ok (.iload_n 3, 1) := by decide +kernel
theorem dX10_isPlain_27 : decode cX10_isPlain 27 = .ok (.iadd, 1) := by decide +kernel
theorem dX10_isPlain_28 : decode cX10_isPlain 28 = .ok (.iaload, 1) := by decide +kernel
theorem dX10_isPlain_29 : decode cX10_isPlain 29 = .ok (.invokestatic 121, 3) := by decide +kernel
theorem dX10_isPlain_32 : decode cX10_isPlain 32 = .ok (.ifCond .ne 7, 3) := by decide +kernel
theorem dX10_isPlain_35 : decode cX10_isPlain 35 = .ok (.iconst 1, 1) := by decide +kernel
theorem dX10_isPlain_36 : decode cX10_isPlain 36 = .ok (.goto 4, 3) := by decide +kernel
theorem dX10_isPlain_39 : decode cX10_isPlain 39 = .ok (.iconst 0, 1) := by decide +kernel
theorem dX10_isPlain_40 : decode cX10_isPlain 40 = .ok (.istore_n 2, 1) := by decide +kernel
theorem dX10_isPlain_41 : decode cX10_isPlain 41 = .ok (.iinc 3 1, 3) := by decide +kernel
theorem dX10_isPlain_44 : decode cX10_isPlain 44 = .ok (.goto (-40), 3) := by decide +kernel
theorem dX10_isPlain_47 : decode cX10_isPlain 47 = .ok (.iload_n 2, 1) := by decide +kernel
theorem dX10_isPlain_48 : decode cX10_isPlain 48 = .ok (.ireturn, 1) := by decide +kernel
theorem dX10_common_0 : decode cX10_common 0 = .ok (.aload_n 0, 1) := by decide +kernel
theorem dX10_common_1 : decode cX10_common 1 = .ok (.iload_n 1, 1) := by decide +kernel
theorem dX10_common_2 : decode cX10_common 2 = .ok (.iload_n 2, 1) := by decide +kernel
theorem dX10_common_3 : decode cX10_common 3 = .ok (.invokevirtual 132, 3) := by decide +kernel
theorem dX10_common_6 : decode cX10_common 6 = .ok (.ifCond .eq 21, 3) := by decide +kernel
theorem dX10_common_9 : decode cX10_common 9 = .ok (.aload_n 0, 1) := by decide +kernel
theorem dX10_common_10 : decode cX10_common 10 = .ok (.iload_n 3, 1) := by decide +kernel
theorem dX10_common_11 : decode cX10_common 11 = .ok (.iload 4, 2) := by decide +kernel
theorem dX10_common_13 : decode cX10_common 13 = .ok (.invokevirtual 132, 3) := by decide +kernel
theorem dX10_common_16 : decode cX10_common 16 = .ok (.ifCond .eq 11, 3) := by decide +kernel
theorem dX10_common_19 : decode cX10_common 19 = .ok (.iload 5, 2) := by decide +kernel
theorem dX10_common_21 : decode cX10_common 21 = .ok (.invokestatic 114, 3) := by decide +kernel
theorem dX10_common_24 : decode cX10_common 24 = .ok (.ifCond .ne 5, 3) := by decide +kernel
theorem dX10_common_27 : decode cX10_common 27 = .ok (.iconst (-1), 1) := by decide +kernel
theorem dX10_common_28 : decode cX10_common 28 = .ok (.ireturn, 1) := by decide +kernel
theorem dX10_common_29 : decode cX10_common 29 = .ok (.aload_n 0, 1) := by decide +kernel
theorem dX10_common_30 : decode cX10_common 30 = .ok (.iload_n 1, 1) := by decide +kernel
theorem dX10_common_31 : decode cX10_common 31 = .ok (.invokevirtual 205, 3) := by decide +kernel
theorem dX10_common_34 : decode cX10_common 34 = .ok (.ifCond .eq 11, 3) := by decide +kernel
theorem dX10_common_37 : decode cX10_common 37 = .ok (.aload_n 0, 1) := by decide +kernel
theorem dX10_common_38 : decode cX10_common 38 = .ok (.iload_n 3, 1) := by decide +kernel
theorem dX10_common_39 : decode cX10_common 39 = .ok (.invokevirtual 205, 3) := by decide +kernel
theorem dX10_common_42 : decode cX10_common 42 = .ok (.ifCond .ne 6, 3) := by decide +kernel
theorem dX10_common_45 : decode cX10_common 45 = .ok (.bipush (-3), 2) := by decide +kernel
theorem dX10_common_47 : decode cX10_common 47 = .ok (.ireturn, 1) := by decide +kernel
theorem dX10_common_48 : decode cX10_common 48 = .ok (.iconst 0, 1) := by decide +kernel
theorem dX10_common_49 : decode cX10_common 49 = .ok (.istore 6, 2) := by decide +kernel
theorem dX10_common_51 : decode cX10_common 51 = .ok (.iconst 0, 1) := by decide +kernel
theorem dX10_common_52 : decode cX10_common 52 = .ok (.istore 7, 2) := by decide +kernel
theorem dX10_common_54 : decode cX10_common 54 = .ok (.iconst 1, 1) := by decide +kernel
theorem dX10_common_55 : decode cX10_common 55 = .ok (.istore 8, 2) := by decide +kernel
theorem dX10_common_57 : decode cX10_common 57 = .ok (.aload_n 0, 1) := by decide +kernel
theorem dX10_common_58 : decode cX10_common 58 = .ok (.getfield 70, 3) := by decide +kernel
theorem dX10_common_61 : decode cX10_common 61 = .ok (.iconst 0, 1) := by decide +kernel
theorem dX10_common_62 : decode cX10_common 62 = .ok (.iload_n 2, 1) := by decide +kernel
theorem dX10_common_63 : decode cX10_common 63 = .ok (.iastore, 1) := by decide +kernel
theorem dX10_common_64 : decode cX10_common 64 = .ok (.aload_n 0, 1) := by decide +kernel
theorem dX10_common_65 : decode cX10_common 65 = .ok (.getfield 73, 3) := by decide +kernel
theorem dX10_common_68 : decode cX10_common 68 = .ok (.iconst 0, 1) := by decide +kernel
theorem dX10_common_69 : decode cX10_common 69 = .ok (.iload 4, 2) := by decide +kernel
theorem dX10_common_71 : decode cX10_common 71 = .ok (.iastore, 1) := by decide +kernel
theorem dX10_common_72 : decode cX10_common 72 = .ok (.iload 8, 2) := by decide +kernel
theorem dX10_common_74 : decode cX10_common 74 = .ok (.ifCond .le 360, 3) := by decide +kernel
theorem dX10_common_77 : decode cX10_common 77 = .ok (.iinc 8 (-1), 3) := by decide +kernel
theorem dX10_common_80 : decode cX10_common 80 = .ok (.aload_n 0, 1) := by decide +kernel
theorem dX10_common_81 : decode cX10_common 81 = .ok (.getfield 70, 3) := by decide +kernel
theorem dX10_common_84 : decode cX10_common 84 = .ok (.iload 8, 2) := by decide +kernel
theorem dX10_common_86 : decode cX10_common 86 = .ok (.iaload, 1) := by decide +kernel
theorem dX10_common_87 : decode cX10_common 87 = .ok (.istore 9, 2) := by decide +kernel
theorem dX10_common_89 : decode cX10_common 89 = .ok (.aload_n 0, 1) := by decide +kernel
theorem dX10_common_90 : decode cX10_common 90 = .ok (.getfield 73, 3) := by decide +kernel
theorem dX10_common_93 : decode cX10_common 93 = .ok (.iload 8, 2) := by decide +kernel
theorem dX10_common_95 : decode cX10_common 95 = .ok (.iaload, 1) := by decide +kernel
theorem dX10_common_96 : decode cX10_common 96 = .ok (.istore 10, 2) := by decide +kernel
theorem dX10_common_98 : decode cX10_common 98 = .ok (.aload_n 0, 1) := by decide +kernel
theorem dX10_common_99 : decode cX10_common 99 = .ok (.getfield 13, 3) := by decide +kernel
theorem dX10_common_102 : decode cX10_common 102 = .ok (.bipush 32, 2) := by decide +kernel
theorem dX10_common_104 : decode cX10_common 104 = .ok (.iload_n 1, 1) := by decide +kernel
theorem dX10_common_105 : decode cX10_common 105 = .ok (.imul, 1) := by decide +kernel
theorem dX10_common_106 : decode cX10_common 106 = .ok (.iload 9, 2) := by decide +kernel
theorem dX10_common_108 : decode cX10_common 108 = .ok (.iadd, 1) := by decide +kernel
theorem dX10_common_109 : decode cX10_common 109 = .ok (.iaload, 1) := by decide +kernel
theorem dX10_common_110 : decode cX10_common 110 = .ok (.aload_n 0, 1) := by decide +kernel
theorem dX10_common_111 : decode cX10_common 111 = .ok (.getfield 13, 3) := by decide +kernel
theorem dX10_common_114 : decode cX10_common 114 = .ok (.bipush 32, 2) := by decide +kernel
theorem dX10_common_116 : decode cX10_common 116 = .ok (.iload_n 3, 1) := by decide +kernel
theorem dX10_common_117 : decode cX10_common 117 = .ok (.imul, 1) := by decide +kernel
theorem dX10_common_118 : decode cX10_common 118 = .ok (.iload 10, 2) := by decide +kernel
theorem dX10_common_120 : decode cX10_common 120 = .ok (.iadd, 1) := by decide +kernel
theorem dX10_common_121 : decode cX10_common 121 = .ok (.iaload, 1) := by decide +kernel
theorem dX10_common_122 : decode cX10_common 122 = .ok (.if_icmp .ne 34, 3) := by decide +kernel
theorem dX10_common_125 : decode cX10_common 125 = .ok (.aload_n 0, 1) := by decide +kernel
theorem dX10_common_126 : decode cX10_common 126 = .ok (.getfield 16, 3) := by decide +kernel
theorem dX10_common_129 : decode cX10_common 129 = .ok (.bipush 32, 2) := by decide +kernel
theorem dX10_common_131 : decode cX10_common 131 = .ok (.iload_n 1, 1) := by decide +kernel
theorem dX10_common_132 : decode cX10_common 132 = .ok (.imul, 1) := by decide +kernel
theorem dX10_common_133 : decode cX10_common 133 = .ok (.iload 9, 2) := by decide +kernel
theorem dX10_common_135 : decode cX10_common 135 = .ok (.iadd, 1) := by decide +kernel
theorem dX10_common_136 : decode cX10_common 136 = .ok (.iaload, 1) := by decide +kernel
theorem dX10_common_137 : decode cX10_common 137 = .ok (.aload_n 0, 1) := by decide +kernel
theorem dX10_common_138 : decode cX10_common 138 = .ok (.getfield 16, 3) := by decide +kernel
theorem dX10_common_141 : decode cX10_common 141 = .ok (.bipush 32, 2) := by decide +kernel
theorem dX10_common_143 : decode cX10_common 143 = .ok (.iload_n 3, 1) := by decide +kernel
theorem dX10_common_144 : decode cX10_common 144 = .ok (.imul, 1) := by decide +kernel
theorem dX10_common_145 : decode cX10_common 145 = .ok (.iload 10, 2) := by decide +kernel
theorem dX10_common_147 : decode cX10_common 147 = .ok (.iadd, 1) := by decide +kernel
theorem dX10_common_148 : decode cX10_common 148 = .ok (.iaload, 1) := by decide +kernel
theorem dX10_common_149 : decode cX10_common 149 = .ok (.if_icmp .ne 7, 3) := by decide +kernel
theorem dX10_common_152 : decode cX10_common 152 = .ok (.iconst 1, 1) := by decide +kernel
theorem dX10_common_153 : decode cX10_common 153 = .ok (.goto 4, 3) := by decide +kernel
theorem dX10_common_156 : decode cX10_common 156 = .ok (.iconst 0, 1) := by decide +kernel
theorem dX10_common_157 : decode cX10_common 157 = .ok (.istore 11, 2) := by decide +kernel
theorem dX10_common_159 : decode cX10_common 159 = .ok (.iload 11, 2) := by decide +kernel
theorem dX10_common_161 : decode cX10_common 161 = .ok (.ifCond .eq 159, 3) := by decide +kernel
theorem dX10_common_164 : decode cX10_common 164 = .ok (.aload_n 0, 1) := by decide +kernel
theorem dX10_common_165 : decode cX10_common 165 = .ok (.getfield 13, 3) := by decide +kernel
theorem dX10_common_168 : decode cX10_common 168 = .ok (.sipush 576, 3) := by decide +kernel
theorem dX10_common_171 : decode cX10_common 171 = .ok (.iload 7, 2) := by decide +kernel
theorem dX10_common_173 : decode cX10_common 173 = .ok (.iadd, 1) := by decide +kernel
theorem dX10_common_174 : decode cX10_common 174 = .ok (.aload_n 0, 1) := by decide +kernel
theorem dX10_common_175 : decode cX10_common 175 = .ok (.getfield 13, 3) := by decide +kernel
theorem dX10_common_178 : decode cX10_common 178 = .ok (.bipush 32, 2) := by decide +kernel
theorem dX10_common_180 : decode cX10_common 180 = .ok (.iload_n 1, 1) := by decide +kernel
theorem dX10_common_181 : decode cX10_common 181 = .ok (.imul, 1) := by decide +kernel
theorem dX10_common_182 : decode cX10_common 182 = .ok (.iload 9, 2) := by decide +kernel
theorem dX10_common_184 : decode cX10_common 184 = .ok (.iadd, 1) := by decide +kernel
theorem dX10_common_185 : decode cX10_common 185 = .ok (.iaload, 1) := by decide +kernel
theorem dX10_common_186 : decode cX10_common 186 = .ok (.iastore, 1) := by decide +kernel
theorem dX10_common_187 : decode cX10_common 187 = .ok (.aload_n 0, 1) := by decide +kernel
theorem dX10_common_188 : decode cX10_common 188 = .ok (.getfield 16, 3) := by decide +kernel
theorem dX10_common_191 : decode cX10_common 191 = .ok (.sipush 576, 3) := by decide +kernel
theorem dX10_common_194 : decode cX10_common 194 = .ok (.iload 7, 2) := by decide +kernel
theorem dX10_common_196 : decode cX10_common 196 = .ok (.iadd, 1) := by decide +kernel
theorem dX10_common_197 : decode cX10_common 197 = .ok (.aload_n 0, 1) := by decide +kernel
theorem dX10_common_198 : decode cX10_common 198 = .ok (.getfield 16, 3) := by decide +kernel
theorem dX10_common_201 : decode cX10_common 201 = .ok (.bipush 32, 2) := by decide +kernel
theorem dX10_common_203 : decode cX10_common 203 = .ok (.iload_n 1, 1) := by decide +kernel
theorem dX10_common_204 : decode cX10_common 204 = .ok (.imul, 1) := by decide +kernel
theorem dX10_common_205 : decode cX10_common 205 = .ok (.iload 9, 2) := by decide +kernel
theorem dX10_common_207 : decode cX10_common 207 = .ok (.iadd, 1) := by decide +kernel
theorem dX10_common_208 : decode cX10_common 208 = .ok (.iaload, 1) := by decide +kernel
theorem dX10_common_209 : decode cX10_common 209 = .ok (.iastore, 1) := by decide +kernel
theorem dX10_common_210 : decode cX10_common 210 = .ok (.aload_n 0, 1) := by decide +kernel
theorem dX10_common_211 : decode cX10_common 211 = .ok (.getfield 16, 3) := by decide +kernel
theorem dX10_common_214 : decode cX10_common 214 = .ok (.bipush 32, 2) := by decide +kernel
theorem dX10_common_216 : decode cX10_common 216 = .ok (.iload_n 1, 1) := by decide +kernel
theorem dX10_common_217 : decode cX10_common 217 = .ok (.imul, 1) := by decide +kernel
theorem dX10_common_218 : decode cX10_common 218 = .ok (.iload 9, 2) := by decide +kernel
theorem dX10_common_220 : decode cX10_common 220 = .ok (.iadd, 1) := by decide +kernel
theorem dX10_common_221 : decode cX10_common 221 = .ok (.iaload, 1) := by decide +kernel
theorem dX10_common_222 : decode cX10_common 222 = .ok (.istore 12, 2) := by decide +kernel
theorem dX10_common_224 : decode cX10_common 224 = .ok (.iload 9, 2) := by decide +kernel
theorem dX10_common_226 : decode cX10_common 226 = .ok (.iconst 1, 1) := by decide +kernel
theorem dX10_common_227 : decode cX10_common 227 = .ok (.iadd, 1) := by decide +kernel
theorem dX10_common_228 : decode cX10_common 228 = .ok (.istore 13, 2) := by decide +kernel
theorem dX10_common_230 : decode cX10_common 230 = .ok (.iload 10, 2) := by decide +kernel
theorem dX10_common_232 : decode cX10_common 232 = .ok (.iconst 1, 1) := by decide +kernel
theorem dX10_common_233 : decode cX10_common 233 = .ok (.iadd, 1) := by decide +kernel
theorem dX10_common_234 : decode cX10_common 234 = .ok (.istore 14, 2) := by decide +kernel
theorem dX10_common_236 : decode cX10_common 236 = .ok (.iconst 0, 1) := by decide +kernel
theorem dX10_common_237 : decode cX10_common 237 = .ok (.istore 15, 2) := by decide +kernel
theorem dX10_common_239 : decode cX10_common 239 = .ok (.iload 15, 2) := by decide +kernel
theorem dX10_common_241 : decode cX10_common 241 = .ok (.iload 12, 2) := by decide +kernel
theorem dX10_common_243 : decode cX10_common 243 = .ok (.if_icmp .ge 67, 3) := by decide +kernel
theorem dX10_common_246 : decode cX10_common 246 = .ok (.aload_n 0, 1) := by decide +kernel
theorem dX10_common_247 : decode cX10_common 247 = .ok (.getfield 70, 3) := by decide +kernel
theorem dX10_common_250 : decode cX10_common 250 = .ok (.iload 8, 2) := by decide +kernel
theorem dX10_common_252 : decode cX10_common 252 = .ok (.iload 12, 2) := by decide +kernel
theorem dX10_common_254 : decode cX10_common 254 = .ok (.iadd, 1) := by decide +kernel
theorem dX10_common_255 : decode cX10_common 255 = .ok (.iconst 1, 1) := by decide +kernel
theorem dX10_common_256 : decode cX10_common 256 = .ok (.isub, 1) := by decide +kernel
theorem dX10_common_257 : decode cX10_common 257 = .ok (.iload 15, 2) := by decide +kernel
theorem dX10_common_259 : decode cX10_common 259 = .ok (.isub, 1) := by decide +kernel
theorem dX10_common_260 : decode cX10_common 260 = .ok (.iload 13, 2) := by decide +kernel
theorem dX10_common_262 : decode cX10_common 262 = .ok (.iastore, 1) := by decide +kernel
theorem dX10_common_263 : decode cX10_common 263 = .ok (.aload_n 0, 1) := by decide +kernel
theorem dX10_common_264 : decode cX10_common 264 = .ok (.getfield 73, 3) := by decide +kernel
theorem dX10_common_267 : decode cX10_common 267 = .ok (.iload 8, 2) := by decide +kernel
theorem dX10_common_269 : decode cX10_common 269 = .ok (.iload 12, 2) := by decide +kernel
theorem dX10_common_271 : decode cX10_common 271 = .ok (.iadd, 1) := by decide +kernel
theorem dX10_common_272 : decode cX10_common 272 = .ok (.iconst 1, 1) := by decide +kernel
theorem dX10_common_273 : decode cX10_common 273 = .ok (.isub, 1) := by decide +kernel
theorem dX10_common_274 : decode cX10_common 274 = .ok (.iload 15, 2) := by decide +kernel
theorem dX10_common_276 : decode cX10_common 276 = .ok (.isub, 1) := by decide +kernel
theorem dX10_common_277 : decode cX10_common 277 = .ok (.iload 14, 2) := by decide +kernel
theorem dX10_common_279 : decode cX10_common 279 = .ok (.iastore, 1) := by decide +kernel
theorem dX10_common_280 : decode cX10_common 280 = .ok (.iload 13, 2) := by decide +kernel
theorem dX10_common_282 : decode cX10_common 282 = .ok (.aload_n 0, 1) := by decide +kernel
theorem dX10_common_283 : decode cX10_common 283 = .ok (.iload_n 1, 1) := by decide +kernel
theorem dX10_common_284 : decode cX10_common 284 = .ok (.iload 13, 2) := by decide +kernel
theorem dX10_common_286 : decode cX10_common 286 = .ok (.invokevirtual 128, 3) := by decide +kernel
theorem dX10_common_289 : decode cX10_common 289 = .ok (.iadd, 1) := by decide +kernel
theorem dX10_common_290 : decode cX10_common 290 = .ok (.istore 13, 2) := by decide +kernel
theorem dX10_common_292 : decode cX10_common 292 = .ok (.iload 14, 2) := by decide +kernel
theorem dX10_common_294 : decode cX10_common 294 = .ok (.aload_n 0, 1) := by decide +kernel
theorem dX10_common_295 : decode cX10_common 295 = .ok (.iload_n 3, 1) := by decide +kernel
theorem dX10_common_296 : decode cX10_common 296 = .ok (.iload 14, 2) := by decide +kernel
theorem dX10_common_298 : decode cX10_common 298 = .ok (.invokevirtual 128, 3) := by decide +kernel
theorem dX10_common_301 : decode cX10_common 301 = .ok (.iadd, 1) := by decide +kernel
theorem dX10_common_302 : decode cX10_common 302 = .ok (.istore 14, 2) := by decide +kernel
theorem dX10_common_304 : decode cX10_common 304 = .ok (.iinc 15 1, 3) := by decide +kernel
theorem dX10_common_307 : decode cX10_common 307 = .ok (.goto (-68), 3) := by decide +kernel
theorem dX10_common_310 : decode cX10_common 310 = .ok (.iload 8, 2) := by decide +kernel
theorem dX10_common_312 : decode cX10_common 312 = .ok (.iload 12, 2) := by decide +kernel
theorem dX10_common_314 : decode cX10_common 314 = .ok (.iadd, 1) := by decide +kernel
theorem dX10_common_315 : decode cX10_common 315 = .ok (.istore 8, 2) := by decide +kernel
theorem dX10_common_317 : decode cX10_common 317 = .ok (.goto 111, 3) := by decide +kernel
theorem dX10_common_320 : decode cX10_common 320 = .ok (.iconst 0, 1) := by decide +kernel
theorem dX10_common_321 : decode cX10_common 321 = .ok (.istore 12, 2) := by decide +kernel
theorem dX10_common_323 : decode cX10_common 323 = .ok (.iload 12, 2) := by decide +kernel
theorem dX10_common_325 : decode cX10_common 325 = .ok (.iload 6, 2) := by decide +kernel
theorem dX10_common_327 : decode cX10_common 327 = .ok (.if_icmp .ge 45, 3) := by decide +kernel
theorem dX10_common_330 : decode cX10_common 330 = .ok (.aload_n 0, 1) := by decide +kernel
theorem dX10_common_331 : decode cX10_common 331 = .ok (.iload_n 1, 1) := by decide +kernel
theorem dX10_common_332 : decode cX10_common 332 = .ok (.aload_n 0, 1) := by decide +kernel
theorem dX10_common_333 : decode cX10_common 333 = .ok (.getfield 76, 3) := by decide +kernel
theorem dX10_common_336 : decode cX10_common 336 = .ok (.iload 12, 2) := by decide +kernel
theorem dX10_common_338 : decode cX10_common 338 = .ok (.iaload, 1) := by decide +kernel
theorem dX10_common_339 : decode cX10_common 339 = .ok (.iload_n 1, 1) := by decide +kernel
theorem dX10_common_340 : decode cX10_common 340 = .ok (.iload 9, 2) := by decide +kernel
theorem dX10_common_342 : decode cX10_common 342 = .ok (.invokevirtual 153, 3) := by decide +kernel
theorem dX10_common_345 : decode cX10_common 345 = .ok (.ifCond .eq 21, 3) := by decide +kernel
theorem dX10_common_348 : decode cX10_common 348 = .ok (.aload_n 0, 1) := by decide +kernel
theorem dX10_common_349 : decode cX10_common 349 = .ok (.iload_n 3, 1) := by decide +kernel
theorem dX10_common_350 : decode cX10_common 350 = .ok (.aload_n 0, 1) := by decide +kernel
theorem dX10_common_351 : decode cX10_common 351 = .ok (.getfield 79, 3) := by decide +kernel
theorem dX10_common_354 : decode cX10_common 354 = .ok (.iload 12, 2) := by decide +kernel
theorem dX10_common_356 : decode cX10_common 356 = .ok (.iaload, 1) := by decide +kernel
theorem dX10_common_357 : decode cX10_common 357 = .ok (.iload_n 3, 1) := by decide +kernel
theorem dX10_common_358 : decode cX10_common 358 = .ok (.iload 10, 2) := by decide +kernel
theorem dX10_common_360 : decode cX10_common 360 = .ok (.invokevirtual 153, 3) := by decide +kernel
theorem dX10_common_363 : decode cX10_common 363 = .ok (.ifCond .ne 9, 3) := by decide +kernel
theorem dX10_common_366 : decode cX10_common 366 = .ok (.iinc 12 1, 3) := by decide +kernel
theorem dX10_common_369 : decode cX10_common 369 = .ok (.goto (-46), 3) := by decide +kernel
theorem dX10_common_372 : decode cX10_common 372 = .ok (.iload 12, 2) := by decide +kernel
theorem dX10_common_374 : decode cX10_common 374 = .ok (.iload 6, 2) := by decide +kernel
theorem dX10_common_376 : decode cX10_common 376 = .ok (.if_icmp .ne 24, 3) := by decide +kernel
theorem dX10_common_379 : decode cX10_common 379 = .ok (.aload_n 0, 1) := by decide +kernel
theorem dX10_common_380 : decode cX10_common 380 = .ok (.getfield 76, 3) := by decide +kernel
theorem dX10_common_383 : decode cX10_common 383 = .ok (.iload 12, 2) := by decide +kernel
theorem dX10_common_385 : decode cX10_common 385 = .ok (.iload 9, 2) := by decide +kernel
theorem dX10_common_387 : decode cX10_common 387 = .ok (.iastore, 1) := by decide +kernel
theorem dX10_common_388 : decode cX10_common 388 = .ok (.aload_n 0, 1) := by decide +kernel
theorem dX10_common_389 : decode cX10_common 389 = .ok (.getfield 79, 3) := by decide +kernel
theorem dX10_common_392 : decode cX10_common 392 = .ok (.iload 12, 2) := by decide +kernel
theorem dX10_common_394 : decode cX10_common 394 = .ok (.iload 10, 2) := by decide +kernel
theorem dX10_common_396 : decode cX10_common 396 = .ok (.iastore, 1) := by decide +kernel
theorem dX10_common_397 : decode cX10_common 397 = .ok (.iinc 6 1, 3) := by decide +kernel
theorem dX10_common_400 : decode cX10_common 400 = .ok (.aload_n 0, 1) := by decide +kernel
theorem dX10_common_401 : decode cX10_common 401 = .ok (.getfield 13, 3) := by decide +kernel
theorem dX10_common_404 : decode cX10_common 404 = .ok (.sipush 576, 3) := by decide +kernel
theorem dX10_common_407 : decode cX10_common 407 = .ok (.iload 7, 2) := by decide +kernel
theorem dX10_common_409 : decode cX10_common 409 = .ok (.iadd, 1) := by decide +kernel
theorem dX10_common_410 : decode cX10_common 410 = .ok (.bipush 65, 2) := by decide +kernel
theorem dX10_common_412 : decode cX10_common 412 = .ok (.iload 12, 2) := by decide +kernel
theorem dX10_common_414 : decode cX10_common 414 = .ok (.iadd, 1) := by decide +kernel
theorem dX10_common_415 : decode cX10_common 415 = .ok (.iastore, 1) := by decide +kernel
theorem dX10_common_416 : decode cX10_common 416 = .ok (.aload_n 0, 1) := by decide +kernel
theorem dX10_common_417 : decode cX10_common 417 = .ok (.getfield 16, 3) := by decide +kernel
theorem dX10_common_420 : decode cX10_common 420 = .ok (.sipush 576, 3) := by decide +kernel
theorem dX10_common_423 : decode cX10_common 423 = .ok (.iload 7, 2) := by decide +kernel
theorem dX10_common_425 : decode cX10_common 425 = .ok (.iadd, 1) := by decide +kernel
theorem dX10_common_426 : decode cX10_common 426 = .ok (.iconst 0, 1) := by decide +kernel
theorem dX10_common_427 : decode cX10_common 427 = .ok (.iastore, 1) := by decide +kernel
theorem dX10_common_428 : decode cX10_common 428 = .ok (.iinc 7 1, 3) := by decide +kernel
theorem dX10_common_431 : decode cX10_common 431 = .ok (.goto (-359), 3) := by decide +kernel
theorem dX10_common_434 : decode cX10_common 434 = .ok (.iload 6, 2) := by decide +kernel
theorem dX10_common_436 : decode cX10_common 436 = .ok (.bipush 8, 2) := by decide +kernel
theorem dX10_common_438 : decode cX10_common 438 = .ok (.if_icmp .le 6, 3) := by decide +kernel
theorem dX10_common_441 : decode cX10_common 441 = .ok (.bipush (-5), 2) := by decide +kernel
theorem dX10_common_443 : decode cX10_common 443 = .ok (.ireturn, 1) := by decide +kernel
theorem dX10_common_444 : decode cX10_common 444 = .ok (.aload_n 0, 1) := by decide +kernel
theorem dX10_common_445 : decode cX10_common 445 = .ok (.bipush 18, 2) := by decide +kernel
theorem dX10_common_447 : decode cX10_common 447 = .ok (.iconst 0, 1) := by decide +kernel
theorem dX10_common_448 : decode cX10_common 448 = .ok (.iload 7, 2) := by decide +kernel
theorem dX10_common_450 : decode cX10_common 450 = .ok (.iload 5, 2) := by decide +kernel
theorem dX10_common_452 : decode cX10_common 452 = .ok (.invokevirtual 149, 3) := by decide +kernel
theorem dX10_common_455 : decode cX10_common 455 = .ok (.iload 6, 2) := by decide +kernel
theorem dX10_common_457 : decode cX10_common 457 = .ok (.ireturn, 1) := by decide +kernel
theorem dX10_twice_0 : decode cX10_twice 0 = .ok (.iload_n 1, 1) := by decide +kernel
theorem dX10_twice_1 : decode cX10_twice 1 = .ok (.invokestatic 114, 3) := by decide +kernel
theorem dX10_twice_4 : decode cX10_twice 4 = .ok (.ifCond .eq 12, 3) := by decide +kernel
theorem dX10_twice_7 : decode cX10_twice 7 = .ok (.aload_n 0, 1) := by decide +kernel
theorem dX10_twice_8 : decode cX10_twice 8 = .ok (.getfield 7, 3) := by decide +kernel
theorem dX10_twice_11 : decode cX10_twice 11 = .ok (.iload_n 1, 1) := by decide +kernel
theorem dX10_twice_12 : decode cX10_twice 12 = .ok (.iaload, 1) := by decide +kernel
theorem dX10_twice_13 : decode cX10_twice 13 = .ok (.ifCond .ne 5, 3) := by decide +kernel
theorem dX10_twice_16 : decode cX10_twice 16 = .ok (.iconst (-1), 1) := by decide +kernel
theorem dX10_twice_17 : decode cX10_twice 17 = .ok (.ireturn, 1) := by decide +kernel
theorem dX10_twice_18 : decode cX10_twice 18 = .ok (.iload_n 2, 1) := by decide +kernel
theorem dX10_twice_19 : decode cX10_twice 19 = .ok (.iconst 0, 1) := by decide +kernel
theorem dX10_twice_20 : decode cX10_twice 20 = .ok (.iconst 2, 1) := by decide +kernel
theorem dX10_twice_21 : decode cX10_twice 21 = .ok (.invokestatic 110, 3) := by decide +kernel
theorem dX10_twice_24 : decode cX10_twice 24 = .ok (.ifCond .ne 6, 3) := by decide +kernel
theorem dX10_twice_27 : decode cX10_twice 27 = .ok (.bipush (-2), 2) := by decide +kernel
theorem dX10_twice_29 : decode cX10_twice 29 = .ok (.ireturn, 1) := by decide +kernel
theorem dX10_twice_30 : decode cX10_twice 30 = .ok (.iconst 0, 1) := by decide +kernel
theorem dX10_twice_31 : decode cX10_twice 31 = .ok (.istore_n 3, 1) := by decide +kernel
theorem dX10_twice_32 : decode cX10_twice 32 = .ok (.bipush (-6), 2) := by decide +kernel
theorem dX10_twice_34 : decode cX10_twice 34 = .ok (.istore 4, 2) := by decide +kernel
theorem dX10_twice_36 : decode cX10_twice 36 = .ok (.bipush (-6), 2) := by decide +kernel
theorem dX10_twice_38 : decode cX10_twice 38 = .ok (.istore 5, 2) := by decide +kernel
theorem dX10_twice_40 : decode cX10_twice 40 = .ok (.iconst 0, 1) := by decide +kernel
theorem dX10_twice_41 : decode cX10_twice 41 = .ok (.istore 6, 2) := by decide +kernel
theorem dX10_twice_43 : decode cX10_twice 43 = .ok (.iload 6, 2) := by decide +kernel
theorem dX10_twice_45 : decode cX10_twice 45 = .ok (.aload_n 0, 1) := by decide +kernel
theorem dX10_twice_46 : decode cX10_twice 46 = .ok (.getfield 7, 3) := by decide +kernel
theorem dX10_twice_49 : decode cX10_twice 49 = .ok (.iload_n 1, 1) := by decide +kernel
theorem dX10_twice_50 : decode cX10_twice 50 = .ok (.iaload, 1) := by decide +kernel
theorem dX10_twice_51 : decode cX10_twice 51 = .ok (.if_icmp .ge 72, 3) := by decide +kernel
theorem dX10_twice_54 : decode cX10_twice 54 = .ok (.aload_n 0, 1) := by decide +kernel
theorem dX10_twice_55 : decode cX10_twice 55 = .ok (.iload_n 1, 1) := by decide +kernel
theorem dX10_twice_56 : decode cX10_twice 56 = .ok (.iload 6, 2) := by decide +kernel
theorem dX10_twice_58 : decode cX10_twice 58 = .ok (.invokevirtual 128, 3) := by decide +kernel
theorem dX10_twice_61 : decode cX10_twice 61 = .ok (.istore 7, 2) := by decide +kernel
theorem dX10_twice_63 : decode cX10_twice 63 = .ok (.iload 6, 2) := by decide +kernel
theorem dX10_twice_65 : decode cX10_twice 65 = .ok (.iload 7, 2) := by decide +kernel
theorem dX10_twice_67 : decode cX10_twice 67 = .ok (.iadd, 1) := by decide +kernel
theorem dX10_twice_68 : decode cX10_twice 68 = .ok (.istore 8, 2) := by decide +kernel
theorem dX10_twice_70 : decode cX10_twice 70 = .ok (.iload 8, 2) := by decide +kernel
theorem dX10_twice_72 : decode cX10_twice 72 = .ok (.aload_n 0, 1) := by decide +kernel
theorem dX10_twice_73 : decode cX10_twice 73 = .ok (.getfield 7, 3) := by decide +kernel
theorem dX10_twice_76 : decode cX10_twice 76 = .ok (.iload_n 1, 1) := by decide +kernel
theorem dX10_twice_77 : decode cX10_twice 77 = .ok (.iaload, 1) := by decide +kernel
theorem dX10_twice_78 : decode cX10_twice 78 = .ok (.if_icmp .ge 39, 3) := by decide +kernel
theorem dX10_twice_81 : decode cX10_twice 81 = .ok (.iload 7, 2) := by decide +kernel
theorem dX10_twice_83 : decode cX10_twice 83 = .ok (.iload_n 3, 1) := by decide +kernel
theorem dX10_twice_84 : decode cX10_twice 84 = .ok (.if_icmp .le 27, 3) := by decide +kernel
theorem dX10_twice_87 : decode cX10_twice 87 = .ok (.aload_n 0, 1) := by decide +kernel
theorem dX10_twice_88 : decode cX10_twice 88 = .ok (.iload_n 1, 1) := by decide +kernel
theorem dX10_twice_89 : decode cX10_twice 89 = .ok (.iload 6, 2) := by decide +kernel
theorem dX10_twice_91 : decode cX10_twice 91 = .ok (.iload_n 1, 1) := by decide +kernel
theorem dX10_twice_92 : decode cX10_twice 92 = .ok (.iload 8, 2) := by decide +kernel
theorem dX10_twice_94 : decode cX10_twice 94 = .ok (.invokevirtual 153, 3) := by decide +kernel
theorem dX10_twice_97 : decode cX10_twice 97 = .ok (.ifCond .eq 14, 3) := by decide +kernel
theorem dX10_twice_100 : decode cX10_twice 100 = .ok (.iload 7, 2) := by decide +kernel
theorem dX10_twice_102 : decode cX10_twice 102 = .ok (.istore_n 3, 1) := by decide +kernel
theorem dX10_twice_103 : decode cX10_twice 103 = .ok (.iload 6, 2) := by decide +kernel
theorem dX10_twice_105 : decode cX10_twice 105 = .ok (.istore 4, 2) := by decide +kernel
theorem dX10_twice_107 : decode cX10_twice 107 = .ok (.iload 8, 2) := by decide +kernel
theorem dX10_twice_109 : decode cX10_twice 109 = .ok (.istore 5, 2) := by decide +kernel
theorem dX10_twice_111 : decode cX10_twice 111 = .ok (.iinc 8 1, 3) := by decide +kernel
theorem dX10_twice_114 : decode cX10_twice 114 = .ok (.goto (-44), 3) := by decide +kernel
theorem dX10_twice_117 : decode cX10_twice 117 = .ok (.iinc 6 1, 3) := by decide +kernel
theorem dX10_twice_120 : decode cX10_twice 120 = .ok (.goto (-77), 3) := by decide +kernel
theorem dX10_twice_123 : decode cX10_twice 123 = .ok (.iload 4, 2) := by decide +kernel
theorem dX10_twice_125 : decode cX10_twice 125 = .ok (.ifCond .ge 8, 3) := by decide +kernel
theorem dX10_twice_128 : decode cX10_twice 128 = .ok (.bipush (-6), 2) := by decide +kernel
theorem dX10_twice_130 : decode cX10_twice 130 = .ok (.goto 23, 3) := by decide +kernel
theorem dX10_twice_133 : decode cX10_twice 133 = .ok (.iload_n 2, 1) := by decide +kernel
theorem dX10_twice_134 : decode cX10_twice 134 = .ok (.ifCond .ne 7, 3) := by decide +kernel
theorem dX10_twice_137 : decode cX10_twice 137 = .ok (.iload_n 3, 1) := by decide +kernel
theorem dX10_twice_138 : decode cX10_twice 138 = .ok (.goto 15, 3) := by decide +kernel
theorem dX10_twice_141 : decode cX10_twice 141 = .ok (.iload_n 2, 1) := by decide +kernel
theorem dX10_twice_142 : decode cX10_twice 142 = .ok (.iconst 1, 1) := by decide +kernel
theorem dX10_twice_143 : decode cX10_twice 143 = .ok (.if_icmp .ne 8, 3) := by decide +kernel
theorem dX10_twice_146 : decode cX10_twice 146 = .ok (.iload 4, 2) := by decide +kernel
theorem dX10_twice_148 : decode cX10_twice 148 = .ok (.goto 5, 3) := by decide +kernel
theorem dX10_twice_151 : decode cX10_twice 151 = .ok (.iload 5, 2) := by decide +kernel
theorem dX10_twice_153 : decode cX10_twice 153 = .ok (.ireturn, 1) := by decide +kernel
theorem dX10_hasLabel_0 : decode cX10_hasLabel 0 = .ok (.iconst 0, 1) := by decide +kernel
theorem dX10_hasLabel_1 : decode cX10_hasLabel 1 = .ok (.istore_n 3, 1) := by decide +kernel
theorem dX10_hasLabel_2 : decode cX10_hasLabel 2 = .ok (.iconst 0, 1) := by decide +kernel
theorem dX10_hasLabel_3 : decode cX10_hasLabel 3 = .ok (.istore 4, 2) := by decide +kernel
theorem dX10_hasLabel_5 : decode cX10_hasLabel 5 = .ok (.iload 4, 2) := by decide +kernel
theorem dX10_hasLabel_7 : decode cX10_hasLabel 7 = .ok (.aload_n 0, 1) := by decide +kernel
theorem dX10_hasLabel_8 : decode cX10_hasLabel 8 = .ok (.getfield 7, 3) := by decide +kernel
theorem dX10_hasLabel_11 : decode cX10_hasLabel 11 = .ok (.iload_n 1, 1) := by decide +kernel
theorem dX10_hasLabel_12 : decode cX10_hasLabel 12 = .ok (.iaload, 1) := by decide +kernel
theorem dX10_hasLabel_13 : decode cX10_hasLabel 13 = .ok (.if_icmp .ge 35, 3) := by decide +kernel
theorem dX10_hasLabel_16 : decode cX10_hasLabel 16 = .ok (.iload_n 3, 1) := by decide +kernel
theorem dX10_hasLabel_17 : decode cX10_hasLabel 17 = .ok (.ifCond .ne 19, 3) := by decide +kernel
theorem dX10_hasLabel_20 : decode cX10_hasLabel 20 = .ok (.aload_n 0, 1) := by decide +kernel
theorem dX10_hasLabel_21 : decode cX10_hasLabel 21 = .ok (.getfield 13, 3) := by decide +kernel
theorem dX10_hasLabel_24 : decode cX10_hasLabel 24 = .ok (.bipush 32, 2) := by decide +kernel
theorem dX10_hasLabel_26 : decode cX10_hasLabel 26 = .ok (.iload_n 1, 1) := by decide +kernel
theorem dX10_hasLabel_27 : decode cX10_hasLabel 27 = .ok (.imul, 1) := by decide +kernel
theorem dX10_hasLabel_28 : decode cX10_hasLabel 28 = .ok (.iload 4, 2) := by decide +kernel
theorem dX10_hasLabel_30 : decode cX10_hasLabel 30 = .ok (.iadd, 1) := by decide +kernel
theorem dX10_hasLabel_31 : decode cX10_hasLabel 31 = .ok (.iaload, 1) := by decide +kernel
theorem dX10_hasLabel_32 : decode cX10_hasLabel 32 = .ok (.iload_n 2, 1) := by decide +kernel
theorem dX10_hasLabel_33 : decode cX10_hasLabel 33 = .ok (.if_icmp .ne 7, 3) := by decide +kernel
theorem dX10_hasLabel_36 : decode cX10_hasLabel 36 = .ok (.iconst 1, 1) := by decide +kernel
theorem dX10_hasLabel_37 : decode cX10_hasLabel 37 = .ok (.goto 4, 3) := by decide +kernel
theorem dX10_hasLabel_40 : decode cX10_hasLabel 40 = .ok (.iconst 0, 1) := by decide +kernel
theorem dX10_hasLabel_41 : decode cX10_hasLabel 41 = .ok (.istore_n 3, 1) := by decide +kernel
theorem dX10_hasLabel_42 : decode cX10_hasLabel 42 = .ok (.iinc 4 1, 3) := by decide +kernel
theorem dX10_hasLabel_45 : decode cX10_hasLabel 45 = .ok (.goto (-40), 3) := by decide +kernel
theorem dX10_hasLabel_48 : decode cX10_hasLabel 48 = .ok (.iload_n 3, 1) := by decide +kernel
theorem dX10_hasLabel_49 : decode cX10_hasLabel 49 = .ok (.ireturn, 1) := by decide +kernel
theorem dX10_rule_0 : decode cX10_rule 0 = .ok (.aload_n 0, 1) := by decide +kernel
theorem dX10_rule_1 : decode cX10_rule 1 = .ok (.iload_n 1, 1) := by decide +kernel
theorem dX10_rule_2 : decode cX10_rule 2 = .ok (.iload_n 2, 1) := by decide +kernel
theorem dX10_rule_3 : decode cX10_rule 3 = .ok (.invokevirtual 179, 3) := by decide +kernel
theorem dX10_rule_6 : decode cX10_rule 6 = .ok (.ifCond .ne 5, 3) := by decide +kernel
theorem dX10_rule_9 : decode cX10_rule 9 = .ok (.iconst (-1), 1) := by decide +kernel
theorem dX10_rule_10 : decode cX10_rule 10 = .ok (.ireturn, 1) := by decide +kernel
theorem dX10_rule_11 : decode cX10_rule 11 = .ok (.aload_n 0, 1) := by decide +kernel
theorem dX10_rule_12 : decode cX10_rule 12 = .ok (.getfield 208, 3) := by decide +kernel
theorem dX10_rule_15 : decode cX10_rule 15 = .ok (.bipush 6, 2) := by decide +kernel
theorem dX10_rule_17 : decode cX10_rule 17 = .ok (.if_icmp .ne 6, 3) := by decide +kernel
theorem dX10_rule_20 : decode cX10_rule 20 = .ok (.bipush (-4), 2) := by decide +kernel
theorem dX10_rule_22 : decode cX10_rule 22 = .ok (.ireturn, 1) := by decide +kernel
theorem dX10_rule_23 : decode cX10_rule 23 = .ok (.aload_n 0, 1) := by decide +kernel
theorem dX10_rule_24 : decode cX10_rule 24 = .ok (.getfield 13, 3) := by decide +kernel
theorem dX10_rule_27 : decode cX10_rule 27 = .ok (.bipush 32, 2) := by decide +kernel
theorem dX10_rule_29 : decode cX10_rule 29 = .ok (.iload_n 1, 1) := by decide +kernel
theorem dX10_rule_30 : decode cX10_rule 30 = .ok (.imul, 1) := by decide +kernel
theorem dX10_rule_31 : decode cX10_rule 31 = .ok (.iaload, 1) := by decide +kernel
theorem dX10_rule_32 : decode cX10_rule 32 = .ok (.invokestatic 121, 3) := by decide +kernel
theorem dX10_rule_35 : decode cX10_rule 35 = .ok (.ifCond .ne 7, 3) := by decide +kernel
theorem dX10_rule_38 : decode cX10_rule 38 = .ok (.iconst 1, 1) := by decide +kernel
theorem dX10_rule_39 : decode cX10_rule 39 = .ok (.goto 4, 3) := by decide +kernel
theorem dX10_rule_42 : decode cX10_rule 42 = .ok (.iconst 0, 1) := by decide +kernel
theorem dX10_rule_43 : decode cX10_rule 43 = .ok (.istore_n 3, 1) := by decide +kernel
theorem dX10_rule_44 : decode cX10_rule 44 = .ok (.iconst 0, 1) := by decide +kernel
theorem dX10_rule_45 : decode cX10_rule 45 = .ok (.istore 4, 2) := by decide +kernel
theorem dX10_rule_47 : decode cX10_rule 47 = .ok (.iload 4, 2) := by decide +kernel
theorem dX10_rule_49 : decode cX10_rule 49 = .ok (.aload_n 0, 1) := by decide +kernel
theorem dX10_rule_50 : decode cX10_rule 50 = .ok (.getfield 7, 3) := by decide +kernel
theorem dX10_rule_53 : decode cX10_rule 53 = .ok (.iload_n 2, 1) := by decide +kernel
theorem dX10_rule_54 : decode cX10_rule 54 = .ok (.iaload, 1) := by decide +kernel
theorem dX10_rule_55 : decode cX10_rule 55 = .ok (.if_icmp .ge 51, 3) := by decide +kernel
theorem dX10_rule_58 : decode cX10_rule 58 = .ok (.aload_n 0, 1) := by decide +kernel
theorem dX10_rule_59 : decode cX10_rule 59 = .ok (.getfield 13, 3) := by decide +kernel
theorem dX10_rule_62 : decode cX10_rule 62 = .ok (.bipush 32, 2) := by decide +kernel
theorem dX10_rule_64 : decode cX10_rule 64 = .ok (.iload_n 2, 1) := by decide +kernel
theorem dX10_rule_65 : decode cX10_rule 65 = .ok (.imul, 1) := by decide +kernel
theorem dX10_rule_66 : decode cX10_rule 66 = .ok (.iload 4, 2) := by decide +kernel
theorem dX10_rule_68 : decode cX10_rule 68 = .ok (.iadd, 1) := by decide +kernel
theorem dX10_rule_69 : decode cX10_rule 69 = .ok (.iaload, 1) := by decide +kernel
theorem dX10_rule_70 : decode cX10_rule 70 = .ok (.istore 5, 2) := by decide +kernel
theorem dX10_rule_72 : decode cX10_rule 72 = .ok (.iload_n 3, 1) := by decide +kernel
theorem dX10_rule_73 : decode cX10_rule 73 = .ok (.ifCond .eq 25, 3) := by decide +kernel
theorem dX10_rule_76 : decode cX10_rule 76 = .ok (.iload 5, 2) := by decide +kernel
theorem dX10_rule_78 : decode cX10_rule 78 = .ok (.invokestatic 121, 3) := by decide +kernel
theorem dX10_rule_81 : decode cX10_rule 81 = .ok (.ifCond .eq 13, 3) := by decide +kernel
theorem dX10_rule_84 : decode cX10_rule 84 = .ok (.aload_n 0, 1) := by decide +kernel
theorem dX10_rule_85 : decode cX10_rule 85 = .ok (.iload_n 1, 1) := by decide +kernel
theorem dX10_rule_86 : decode cX10_rule 86 = .ok (.iload 5, 2) := by decide +kernel
theorem dX10_rule_88 : decode cX10_rule 88 = .ok (.invokevirtual 211, 3) := by decide +kernel
theorem dX10_rule_91 : decode cX10_rule 91 = .ok (.ifCond .eq 7, 3) := by decide +kernel
theorem dX10_rule_94 : decode cX10_rule 94 = .ok (.iconst 1, 1) := by decide +kernel
theorem dX10_rule_95 : decode cX10_rule 95 = .ok (.goto 4, 3) := by decide +kernel
theorem dX10_rule_98 : decode cX10_rule 98 = .ok (.iconst 0, 1) := by decide +kernel
theorem dX10_rule_99 : decode cX10_rule 99 = .ok (.istore_n 3, 1) := by decide +kernel
theorem dX10_rule_100 : decode cX10_rule 100 = .ok (.iinc 4 1, 3) := by decide +kernel
theorem dX10_rule_103 : decode cX10_rule 103 = .ok (.goto (-56), 3) := by decide +kernel
theorem dX10_rule_106 : decode cX10_rule 106 = .ok (.iload_n 3, 1) := by decide +kernel
theorem dX10_rule_107 : decode cX10_rule 107 = .ok (.ifCond .ne 6, 3) := by decide +kernel
theorem dX10_rule_110 : decode cX10_rule 110 = .ok (.bipush (-5), 2) := by decide +kernel
theorem dX10_rule_112 : decode cX10_rule 112 = .ok (.ireturn, 1) := by decide +kernel
theorem dX10_rule_113 : decode cX10_rule 113 = .ok (.aload_n 0, 1) := by decide +kernel
theorem dX10_rule_114 : decode cX10_rule 114 = .ok (.iload_n 1, 1) := by decide +kernel
theorem dX10_rule_115 : decode cX10_rule 115 = .ok (.iconst 0, 1) := by decide +kernel
theorem dX10_rule_116 : decode cX10_rule 116 = .ok (.aload_n 0, 1) := by decide +kernel
theorem dX10_rule_117 : decode cX10_rule 117 = .ok (.getfield 7, 3) := by decide +kernel
theorem dX10_rule_120 : decode cX10_rule 120 = .ok (.iload_n 1, 1) := by decide +kernel
theorem dX10_rule_121 : decode cX10_rule 121 = .ok (.iaload, 1) := by decide +kernel
theorem dX10_rule_122 : decode cX10_rule 122 = .ok (.bipush 6, 2) := by decide +kernel
theorem dX10_rule_124 : decode cX10_rule 124 = .ok (.aload_n 0, 1) := by decide +kernel
theorem dX10_rule_125 : decode cX10_rule 125 = .ok (.getfield 208, 3) := by decide +kernel
theorem dX10_rule_128 : decode cX10_rule 128 = .ok (.iadd, 1) := by decide +kernel
theorem dX10_rule_129 : decode cX10_rule 129 = .ok (.invokevirtual 149, 3) := by decide +kernel
theorem dX10_rule_132 : decode cX10_rule 132 = .ok (.aload_n 0, 1) := by decide +kernel
theorem dX10_rule_133 : decode cX10_rule 133 = .ok (.iload_n 2, 1) := by decide +kernel
theorem dX10_rule_134 : decode cX10_rule 134 = .ok (.iconst 0, 1) := by decide +kernel
theorem dX10_rule_135 : decode cX10_rule 135 = .ok (.aload_n 0, 1) := by decide +kernel
theorem dX10_rule_136 : decode cX10_rule 136 = .ok (.getfield 7, 3) := by decide +kernel
theorem dX10_rule_139 : decode cX10_rule 139 = .ok (.iload_n 2, 1) := by decide +kernel
theorem dX10_rule_140 : decode cX10_rule 140 = .ok (.iaload, 1) := by decide +kernel
theorem dX10_rule_141 : decode cX10_rule 141 = .ok (.bipush 12, 2) := by decide +kernel
theorem dX10_rule_143 : decode cX10_rule 143 = .ok (.aload_n 0, 1) := by decide +kernel
theorem dX10_rule_144 : decode cX10_rule 144 = .ok (.getfield 208, 3) := by decide +kernel
theorem dX10_rule_147 : decode cX10_rule 147 = .ok (.iadd, 1) := by decide +kernel
theorem dX10_rule_148 : decode cX10_rule 148 = .ok (.invokevirtual 149, 3) := by decide +kernel
theorem dX10_rule_151 : decode cX10_rule 151 = .ok (.aload_n 0, 1) := by decide +kernel
theorem dX10_rule_152 : decode cX10_rule 152 = .ok (.dup, 1) := by decide +kernel
theorem dX10_rule_153 : decode cX10_rule 153 = .ok (.getfield 208, 3) := by decide +kernel
theorem dX10_rule_156 : decode cX10_rule 156 = .ok (.iconst 1, 1) := by decide +kernel
theorem dX10_rule_157 : decode cX10_rule 157 = .ok (.iadd, 1) := by decide +kernel
theorem dX10_rule_158 : decode cX10_rule 158 = .ok (.putfield 208, 3) := by decide +kernel
theorem dX10_rule_161 : decode cX10_rule 161 = .ok (.aload_n 0, 1) := by decide +kernel
theorem dX10_rule_162 : decode cX10_rule 162 = .ok (.getfield 208, 3) := by decide +kernel
theorem dX10_rule_165 : decode cX10_rule 165 = .ok (.iconst 1, 1) := by decide +kernel
theorem dX10_rule_166 : decode cX10_rule 166 = .ok (.isub, 1) := by decide +kernel
theorem dX10_rule_167 : decode cX10_rule 167 = .ok (.ireturn, 1) := by decide +kernel
theorem dX10_clear_0 : decode cX10_clear 0 = .ok (.aload_n 0, 1) := by decide +kernel
theorem dX10_clear_1 : decode cX10_clear 1 = .ok (.getfield 208, 3) := by decide +kernel
theorem dX10_clear_4 : decode cX10_clear 4 = .ok (.istore_n 1, 1) := by decide +kernel
theorem dX10_clear_5 : decode cX10_clear 5 = .ok (.aload_n 0, 1) := by decide +kernel
theorem dX10_clear_6 : decode cX10_clear 6 = .ok (.iconst 0, 1) := by decide +kernel
theorem dX10_clear_7 : decode cX10_clear 7 = .ok (.putfield 208, 3) := by decide +kernel
theorem dX10_clear_10 : decode cX10_clear 10 = .ok (.iload_n 1, 1) := by decide +kernel
theorem dX10_clear_11 : decode cX10_clear 11 = .ok (.ireturn, 1) := by decide +kernel
theorem dX10_fitsAt_0 : decode cX10_fitsAt 0 = .ok (.iconst 0, 1) := by decide +kernel
theorem dX10_fitsAt_1 : decode cX10_fitsAt 1 = .ok (.istore 4, 2) := by decide +kernel
theorem dX10_fitsAt_3 : decode cX10_fitsAt 3 = .ok (.iload 4, 2) := by decide +kernel
theorem dX10_fitsAt_5 : decode cX10_fitsAt 5 = .ok (.bipush 8, 2) := by decide +kernel
theorem dX10_fitsAt_7 : decode cX10_fitsAt 7 = .ok (.if_icmp .ge 18, 3) := by decide +kernel
theorem dX10_fitsAt_10 : decode cX10_fitsAt 10 = .ok (.aload_n 0, 1) := by decide +kernel
theorem dX10_fitsAt_11 : decode cX10_fitsAt 11 = .ok (.getfield 82, 3) := by decide +kernel
theorem dX10_fitsAt_14 : decode cX10_fitsAt 14 = .ok (.iload 4, 2) := by decide +kernel
theorem dX10_fitsAt_16 : decode cX10_fitsAt 16 = .ok (.bipush (-6), 2) := by decide +kernel
theorem dX10_fitsAt_18 : decode cX10_fitsAt 18 = .ok (.iastore, 1) := by decide +kernel
theorem dX10_fitsAt_19 : decode cX10_fitsAt 19 = .ok (.iinc 4 1, 3) := by decide +kernel
theorem dX10_fitsAt_22 : decode cX10_fitsAt 22 = .ok (.goto (-19), 3) := by decide +kernel
theorem dX10_fitsAt_25 : decode cX10_fitsAt 25 = .ok (.bipush 6, 2) := by decide +kernel
theorem dX10_fitsAt_27 : decode cX10_fitsAt 27 = .ok (.iload_n 3, 1) := by decide +kernel
theorem dX10_fitsAt_28 : decode cX10_fitsAt 28 = .ok (.iadd, 1) := by decide +kernel
theorem dX10_fitsAt_29 : decode cX10_fitsAt 29 = .ok (.istore 4, 2) := by decide +kernel
theorem dX10_fitsAt_31 : decode cX10_fitsAt 31 = .ok (.iload_n 2, 1) := by decide +kernel
theorem dX10_fitsAt_32 : decode cX10_fitsAt 32 = .ok (.istore 5, 2) := by decide +kernel
theorem dX10_fitsAt_34 : decode cX10_fitsAt 34 = .ok (.iconst 0, 1) := by decide +kernel
theorem dX10_fitsAt_35 : decode cX10_fitsAt 35 = .ok (.istore 6, 2) := by decide +kernel
theorem dX10_fitsAt_37 : decode cX10_fitsAt 37 = .ok (.iload 6, 2) := by decide +kernel
theorem dX10_fitsAt_39 : decode cX10_fitsAt 39 = .ok (.aload_n 0, 1) := by decide +kernel
theorem dX10_fitsAt_40 : decode cX10_fitsAt 40 = .ok (.getfield 7, 3) := by decide +kernel
theorem dX10_fitsAt_43 : decode cX10_fitsAt 43 = .ok (.iload 4, 2) := by decide +kernel
theorem dX10_fitsAt_45 : decode cX10_fitsAt 45 = .ok (.iaload, 1) := by decide +kernel
theorem dX10_fitsAt_46 : decode cX10_fitsAt 46 = .ok (.if_icmp .ge 163, 3) := by decide +kernel
theorem dX10_fitsAt_49 : decode cX10_fitsAt 49 = .ok (.aload_n 0, 1) := by decide +kernel
theorem dX10_fitsAt_50 : decode cX10_fitsAt 50 = .ok (.getfield 13, 3) := by decide +kernel
theorem dX10_fitsAt_53 : decode cX10_fitsAt 53 = .ok (.bipush 32, 2) := by decide +kernel
theorem dX10_fitsAt_55 : decode cX10_fitsAt 55 = .ok (.iload 4, 2) := by decide +kernel
theorem dX10_fitsAt_57 : decode cX10_fitsAt 57 = .ok (.imul, 1) := by decide +kernel
theorem dX10_fitsAt_58 : decode cX10_fitsAt 58 = .ok (.iload 6, 2) := by decide +kernel
theorem dX10_fitsAt_60 : decode cX10_fitsAt 60 = .ok (.iadd, 1) := by decide +kernel
theorem dX10_fitsAt_61 : decode cX10_fitsAt 61 = .ok (.iaload, 1) := by decide +kernel
theorem dX10_fitsAt_62 : decode cX10_fitsAt 62 = .ok (.istore 7, 2) := by decide +kernel
theorem dX10_fitsAt_64 : decode cX10_fitsAt 64 = .ok (.iload 7, 2) := by decide +kernel
theorem dX10_fitsAt_66 : decode cX10_fitsAt 66 = .ok (.invokestatic 121, 3) := by decide +kernel
theorem dX10_fitsAt_69 : decode cX10_fitsAt 69 = .ok (.ifCond .eq 84, 3) := by decide +kernel
theorem dX10_fitsAt_72 : decode cX10_fitsAt 72 = .ok (.iload 7, 2) := by decide +kernel
theorem dX10_fitsAt_74 : decode cX10_fitsAt 74 = .ok (.bipush 65, 2) := by decide +kernel
theorem dX10_fitsAt_76 : decode cX10_fitsAt 76 = .ok (.isub, 1) := by decide +kernel
theorem dX10_fitsAt_77 : decode cX10_fitsAt 77 = .ok (.istore 8, 2) := by decide +kernel
theorem dX10_fitsAt_79 : decode cX10_fitsAt 79 = .ok (.aload_n 0, 1) := by decide +kernel
theorem dX10_fitsAt_80 : decode cX10_fitsAt 80 = .ok (.getfield 82, 3) := by decide +kernel
theorem dX10_fitsAt_83 : decode cX10_fitsAt 83 = .ok (.iload 8, 2) := by decide +kernel
theorem dX10_fitsAt_85 : decode cX10_fitsAt 85 = .ok (.iaload, 1) := by decide +kernel
theorem dX10_fitsAt_86 : decode cX10_fitsAt 86 = .ok (.ifCond .lt 23, 3) := by decide +kernel
theorem dX10_fitsAt_89 : decode cX10_fitsAt 89 = .ok (.aload_n 0, 1) := by decide +kernel
theorem dX10_fitsAt_90 : decode cX10_fitsAt 90 = .ok (.iload_n 1, 1) := by decide +kernel
theorem dX10_fitsAt_91 : decode cX10_fitsAt 91 = .ok (.aload_n 0, 1) := by decide +kernel
theorem dX10_fitsAt_92 : decode cX10_fitsAt 92 = .ok (.getfield 82, 3) := by decide +kernel
theorem dX10_fitsAt_95 : decode cX10_fitsAt 95 = .ok (.iload 8, 2) := by decide +kernel
theorem dX10_fitsAt_97 : decode cX10_fitsAt 97 = .ok (.iaload, 1) := by decide +kernel
theorem dX10_fitsAt_98 : decode cX10_fitsAt 98 = .ok (.iload_n 1, 1) := by decide +kernel
theorem dX10_fitsAt_99 : decode cX10_fitsAt 99 = .ok (.iload 5, 2) := by decide +kernel
theorem dX10_fitsAt_101 : decode cX10_fitsAt 101 = .ok (.invokevirtual 153, 3) := by decide +kernel
theorem dX10_fitsAt_104 : decode cX10_fitsAt 104 = .ok (.ifCond .ne 5, 3) := by decide +kernel
theorem dX10_fitsAt_107 : decode cX10_fitsAt 107 = .ok (.iconst 0, 1) := by decide +kernel
theorem dX10_fitsAt_108 : decode cX10_fitsAt 108 = .ok (.ireturn, 1) := by decide +kernel
theorem dX10_fitsAt_109 : decode cX10_fitsAt 109 = .ok (.aload_n 0, 1) := by decide +kernel
theorem dX10_fitsAt_110 : decode cX10_fitsAt 110 = .ok (.getfield 82, 3) := by decide +kernel
theorem dX10_fitsAt_113 : decode cX10_fitsAt 113 = .ok (.iload 8, 2) := by decide +kernel
theorem dX10_fitsAt_115 : decode cX10_fitsAt 115 = .ok (.aload_n 0, 1) := by decide +kernel
theorem dX10_fitsAt_116 : decode cX10_fitsAt 116 = .ok (.getfield 82, 3) := by decide +kernel
theorem dX10_fitsAt_119 : decode cX10_fitsAt 119 = .ok (.iload 8, 2) := by decide +kernel
theorem dX10_fitsAt_121 : decode cX10_fitsAt 121 = .ok (.iaload, 1) := by decide +kernel
theorem dX10_fitsAt_122 : decode cX10_fitsAt 122 = .ok (.ifCond .ge 8, 3) := by decide +kernel
theorem dX10_fitsAt_125 : decode cX10_fitsAt 125 = .ok (.iload 5, 2) := by decide +kernel
theorem dX10_fitsAt_127 : decode cX10_fitsAt 127 = .ok (.goto 10, 3) := by decide +kernel
theorem dX10_fitsAt_130 : decode cX10_fitsAt 130 = .ok (.aload_n 0, 1) := by decide +kernel
theorem dX10_fitsAt_131 : decode cX10_fitsAt 131 = .ok (.getfield 82, 3) := by decide +kernel
theorem dX10_fitsAt_134 : decode cX10_fitsAt 134 = .ok (.iload 8, 2) := by decide +kernel
theorem dX10_fitsAt_136 : decode cX10_fitsAt 136 = .ok (.iaload, 1) := by decide +kernel
theorem dX10_fitsAt_137 : decode cX10_fitsAt 137 = .ok (.iastore, 1) := by decide +kernel
theorem dX10_fitsAt_138 : decode cX10_fitsAt 138 = .ok (.iload 5, 2) := by decide +kernel
theorem dX10_fitsAt_140 : decode cX10_fitsAt 140 = .ok (.aload_n 0, 1) := by decide +kernel
theorem dX10_fitsAt_141 : decode cX10_fitsAt 141 = .ok (.iload_n 1, 1) := by decide +kernel
theorem dX10_fitsAt_142 : decode cX10_fitsAt 142 = .ok (.iload 5, 2) := by decide +kernel
theorem dX10_fitsAt_144 : decode cX10_fitsAt 144 = .ok (.invokevirtual 128, 3) := by decide +kernel
theorem dX10_fitsAt_147 : decode cX10_fitsAt 147 = .ok (.iadd, 1) := by decide +kernel
theorem dX10_fitsAt_148 : decode cX10_fitsAt 148 = .ok (.istore 5, 2) := by decide +kernel
theorem dX10_fitsAt_150 : decode cX10_fitsAt 150 = .ok (.goto 53, 3) := by decide +kernel
theorem dX10_fitsAt_153 : decode cX10_fitsAt 153 = .ok (.iload 7, 2) := by decide +kernel
theorem dX10_fitsAt_155 : decode cX10_fitsAt 155 = .ok (.aload_n 0, 1) := by decide +kernel
theorem dX10_fitsAt_156 : decode cX10_fitsAt 156 = .ok (.getfield 13, 3) := by decide +kernel
theorem dX10_fitsAt_159 : decode cX10_fitsAt 159 = .ok (.bipush 32, 2) := by decide +kernel
theorem dX10_fitsAt_161 : decode cX10_fitsAt 161 = .ok (.iload_n 1, 1) := by decide +kernel
theorem dX10_fitsAt_162 : decode cX10_fitsAt 162 = .ok (.imul, 1) := by decide +kernel
theorem dX10_fitsAt_163 : decode cX10_fitsAt 163 = .ok (.iload 5, 2) := by decide +kernel
theorem dX10_fitsAt_165 : decode cX10_fitsAt 165 = .ok (.iadd, 1) := by decide +kernel
theorem dX10_fitsAt_166 : decode cX10_fitsAt 166 = .ok (.iaload, 1) := by decide +kernel
theorem dX10_fitsAt_167 : decode cX10_fitsAt 167 = .ok (.if_icmp .ne 31, 3) := by decide +kernel
theorem dX10_fitsAt_170 : decode cX10_fitsAt 170 = .ok (.aload_n 0, 1) := by decide +kernel
theorem dX10_fitsAt_171 : decode cX10_fitsAt 171 = .ok (.getfield 16, 3) := by decide +kernel
theorem dX10_fitsAt_174 : decode cX10_fitsAt 174 = .ok (.bipush 32, 2) := by decide +kernel
theorem dX10_fitsAt_176 : decode cX10_fitsAt 176 = .ok (.iload 4, 2) := by decide +kernel
theorem dX10_fitsAt_178 : decode cX10_fitsAt 178 = .ok (.imul, 1) := by decide +kernel
theorem dX10_fitsAt_179 : decode cX10_fitsAt 179 = .ok (.iload 6, 2) := by decide +kernel
theorem dX10_fitsAt_181 : decode cX10_fitsAt 181 = .ok (.iadd, 1) := by decide +kernel
theorem dX10_fitsAt_182 : decode cX10_fitsAt 182 = .ok (.iaload, 1) := by decide +kernel
theorem dX10_fitsAt_183 : decode cX10_fitsAt 183 = .ok (.aload_n 0, 1) := by decide +kernel
theorem dX10_fitsAt_184 : decode cX10_fitsAt 184 = .ok (.getfield 16, 3) := by decide +kernel
theorem dX10_fitsAt_187 : decode cX10_fitsAt 187 = .ok (.bipush 32, 2) := by decide +kernel
theorem dX10_fitsAt_189 : decode cX10_fitsAt 189 = .ok (.iload_n 1, 1) := by decide +kernel
theorem dX10_fitsAt_190 : decode cX10_fitsAt 190 = .ok (.imul, 1) := by decide +kernel
theorem dX10_fitsAt_191 : decode cX10_fitsAt 191 = .ok (.iload 5, 2) := by decide +kernel
theorem dX10_fitsAt_193 : decode cX10_fitsAt 193 = .ok (.iadd, 1) := by decide +kernel
theorem dX10_fitsAt_194 : decode cX10_fitsAt 194 = .ok (.iaload, 1) := by decide +kernel
theorem dX10_fitsAt_195 : decode cX10_fitsAt 195 = .ok (.if_icmp .eq 5, 3) := by decide +kernel
theorem dX10_fitsAt_198 : decode cX10_fitsAt 198 = .ok (.iconst 0, 1) := by decide +kernel
theorem dX10_fitsAt_199 : decode cX10_fitsAt 199 = .ok (.ireturn, 1) := by decide +kernel
theorem dX10_fitsAt_200 : decode cX10_fitsAt 200 = .ok (.iinc 5 1, 3) := by decide +kernel
theorem dX10_fitsAt_203 : decode cX10_fitsAt 203 = .ok (.iinc 6 1, 3) := by decide +kernel
theorem dX10_fitsAt_206 : decode cX10_fitsAt 206 = .ok (.goto (-169), 3) := by decide +kernel
theorem dX10_fitsAt_209 : decode cX10_fitsAt 209 = .ok (.iconst 1, 1) := by decide +kernel
theorem dX10_fitsAt_210 : decode cX10_fitsAt 210 = .ok (.ireturn, 1) := by decide +kernel
theorem dX10_lay_0 : decode cX10_lay 0 = .ok (.aload_n 0, 1) := by decide +kernel
theorem dX10_lay_1 : decode cX10_lay 1 = .ok (.getfield 214, 3) := by decide +kernel
theorem dX10_lay_4 : decode cX10_lay 4 = .ok (.bipush 16, 2) := by decide +kernel
theorem dX10_lay_6 : decode cX10_lay 6 = .ok (.if_icmp .ge 31, 3) := by decide +kernel
theorem dX10_lay_9 : decode cX10_lay 9 = .ok (.aload_n 0, 1) := by decide +kernel
theorem dX10_lay_10 : decode cX10_lay 10 = .ok (.getfield 13, 3) := by decide +kernel
theorem dX10_lay_13 : decode cX10_lay 13 = .ok (.sipush 640, 3) := by decide +kernel
theorem dX10_lay_16 : decode cX10_lay 16 = .ok (.aload_n 0, 1) := by decide +kernel
theorem dX10_lay_17 : decode cX10_lay 17 = .ok (.getfield 214, 3) := by decide +kernel
theorem dX10_lay_20 : decode cX10_lay 20 = .ok (.iadd, 1) := by decide +kernel
theorem dX10_lay_21 : decode cX10_lay 21 = .ok (.iload_n 1, 1) := by decide +kernel
theorem dX10_lay_22 : decode cX10_lay 22 = .ok (.iastore, 1) := by decide +kernel
theorem dX10_lay_23 : decode cX10_lay 23 = .ok (.aload_n 0, 1) := by decide +kernel
theorem dX10_lay_24 : decode cX10_lay 24 = .ok (.getfield 16, 3) := by decide +kernel
theorem dX10_lay_27 : decode cX10_lay 27 = .ok (.sipush 640, 3) := by decide +kernel
theorem dX10_lay_30 : decode cX10_lay 30 = .ok (.aload_n 0, 1) := by decide +kernel
theorem dX10_lay_31 : decode cX10_lay 31 = .ok (.getfield 214, 3) := by decide +kernel
theorem dX10_lay_34 : decode cX10_lay 34 = .ok (.iadd, 1) := by decide +kernel
theorem dX10_lay_35 : decode cX10_lay 35 = .ok (.iload_n 2, 1) := by decide +kernel
theorem dX10_lay_36 : decode cX10_lay 36 = .ok (.iastore, 1) := by decide +kernel
theorem dX10_lay_37 : decode cX10_lay 37 = .ok (.aload_n 0, 1) := by decide +kernel
theorem dX10_lay_38 : decode cX10_lay 38 = .ok (.dup, 1) := by decide +kernel
theorem dX10_lay_39 : decode cX10_lay 39 = .ok (.getfield 214, 3) := by decide +kernel
theorem dX10_lay_42 : decode cX10_lay 42 = .ok (.iconst 1, 1) := by decide +kernel
theorem dX10_lay_43 : decode cX10_lay 43 = .ok (.iadd, 1) := by decide +kernel
theorem dX10_lay_44 : decode cX10_lay 44 = .ok (.putfield 214, 3) := by decide +kernel
theorem dX10_lay_47 : decode cX10_lay 47 = .ok (.return_, 1) := by decide +kernel
theorem dX10_layPart_0 : decode cX10_layPart 0 = .ok (.iload_n 2, 1) := by decide +kernel
theorem dX10_layPart_1 : decode cX10_layPart 1 = .ok (.istore 4, 2) := by decide +kernel
theorem dX10_layPart_3 : decode cX10_layPart 3 = .ok (.iload 4, 2) := by decide +kernel
theorem dX10_layPart_5 : decode cX10_layPart 5 = .ok (.iload_n 3, 1) := by decide +kernel
theorem dX10_layPart_6 : decode cX10_layPart 6 = .ok (.if_icmp .ge 37, 3) := by decide +kernel
theorem dX10_layPart_9 : decode cX10_layPart 9 = .ok (.aload_n 0, 1) := by decide +kernel
theorem dX10_layPart_10 : decode cX10_layPart 10 = .ok (.aload_n 0, 1) := by decide +kernel
theorem dX10_layPart_11 : decode cX10_layPart 11 = .ok (.getfield 13, 3) := by decide +kernel
theorem dX10_layPart_14 : decode cX10_layPart 14 = .ok (.bipush 32, 2) := by decide +kernel
theorem dX10_layPart_16 : decode cX10_layPart 16 = .ok (.iload_n 1, 1) := by decide +kernel
theorem dX10_layPart_17 : decode cX10_layPart 17 = .ok (.imul, 1) := by decide +kernel
theorem dX10_layPart_18 : decode cX10_layPart 18 = .ok (.iload 4, 2) := by decide +kernel
theorem dX10_layPart_20 : decode cX10_layPart 20 = .ok (.iadd, 1) := by decide +kernel
theorem dX10_layPart_21 : decode cX10_layPart 21 = .ok (.iaload, 1) := by decide +kernel
theorem dX10_layPart_22 : decode cX10_layPart 22 = .ok (.aload_n 0, 1) := by decide +kernel
theorem dX10_layPart_23 : decode cX10_layPart 23 = .ok (.getfield 16, 3) := by decide +kernel
theorem dX10_layPart_26 : decode cX10_layPart 26 = .ok (.bipush 32, 2) := by decide +kernel
theorem dX10_layPart_28 : decode cX10_layPart 28 = .ok (.iload_n 1, 1) := by decide +kernel
theorem dX10_layPart_29 : decode cX10_layPart 29 = .ok (.imul, 1) := by decide +kernel
theorem dX10_layPart_30 : decode cX10_layPart 30 = .ok (.iload 4, 2) := by decide +kernel
theorem dX10_layPart_32 : decode cX10_layPart 32 = .ok (.iadd, 1) := by decide +kernel
theorem dX10_layPart_33 : decode cX10_layPart 33 = .ok (.iaload, 1) := by decide +kernel
theorem dX10_layPart_34 : decode cX10_layPart 34 = .ok (.invokevirtual 217, 3) := by decide +kernel
theorem dX10_layPart_37 : decode cX10_layPart 37 = .ok (.iinc 4 1, 3) := by decide +kernel
