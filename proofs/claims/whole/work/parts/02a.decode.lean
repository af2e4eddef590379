theorem dX0_init_0 : decode cX0_init 0 = .ok (.aload_n 0, 1) := by decide +kernel
theorem dX0_init_1 : decode cX0_init 1 = .ok (.invokespecial 3, 3) := by decide +kernel
theorem dX0_init_4 : decode cX0_init 4 = .ok (.aload_n 0, 1) := by decide +kernel
theorem dX0_init_5 : decode cX0_init 5 = .ok (.bipush 8, 2) := by decide +kernel
theorem dX0_init_7 : decode cX0_init 7 = .ok (.newarray .int, 2) := by decide +kernel
theorem dX0_init_9 : decode cX0_init 9 = .ok (.putfield 9, 3) := by decide +kernel
theorem dX0_init_12 : decode cX0_init 12 = .ok (.aload_n 0, 1) := by decide +kernel
theorem dX0_init_13 : decode cX0_init 13 = .ok (.bipush 8, 2) := by decide +kernel
theorem dX0_init_15 : decode cX0_init 15 = .ok (.newarray .int, 2) := by decide +kernel
theorem dX0_init_17 : decode cX0_init 17 = .ok (.putfield 15, 3) := by decide +kernel
theorem dX0_init_20 : decode cX0_init 20 = .ok (.return_, 1) := by decide +kernel
theorem dX0_find_0 : decode cX0_find 0 = .ok (.aload_n 0, 1) := by decide +kernel
theorem dX0_find_1 : decode cX0_find 1 = .ok (.iconst 0, 1) := by decide +kernel
theorem dX0_find_2 : decode cX0_find 2 = .ok (.putfield 18, 3) := by decide +kernel
theorem dX0_find_5 : decode cX0_find 5 = .ok (.aload 5, 2) := by decide +kernel
theorem dX0_find_7 : decode cX0_find 7 = .ok (.iconst 0, 1) := by decide +kernel
theorem dX0_find_8 : decode cX0_find 8 = .ok (.putfield 22, 3) := by decide +kernel
theorem dX0_find_11 : decode cX0_find 11 = .ok (.aload_n 1, 1) := by decide +kernel
theorem dX0_find_12 : decode cX0_find 12 = .ok (.iload_n 2, 1) := by decide +kernel
theorem dX0_find_13 : decode cX0_find 13 = .ok (.invokevirtual 27, 3) := by decide +kernel
theorem dX0_find_16 : decode cX0_find 16 = .ok (.ifCond .eq 14, 3) := by decide +kernel
theorem dX0_find_19 : decode cX0_find 19 = .ok (.iload_n 2, 1) := by decide +kernel
theorem dX0_find_20 : decode cX0_find 20 = .ok (.aload_n 1, 1) := by decide +kernel
theorem dX0_find_21 : decode cX0_find 21 = .ok (.getfield 31, 3) := by decide +kernel
theorem dX0_find_24 : decode cX0_find 24 = .ok (.iload_n 2, 1) := by decide +kernel
theorem dX0_find_25 : decode cX0_find 25 = .ok (.iaload, 1) := by decide +kernel
theorem dX0_find_26 : decode cX0_find 26 = .ok (.iadd, 1) := by decide +kernel
theorem dX0_find_27 : decode cX0_find 27 = .ok (.goto 4, 3) := by decide +kernel
theorem dX0_find_30 : decode cX0_find 30 = .ok (.iload_n 2, 1) := by decide +kernel
theorem dX0_find_31 : decode cX0_find 31 = .ok (.istore 6, 2) := by decide +kernel
theorem dX0_find_33 : decode cX0_find 33 = .ok (.iload_n 2, 1) := by decide +kernel
theorem dX0_find_34 : decode cX0_find 34 = .ok (.istore 7, 2) := by decide +kernel
theorem dX0_find_36 : decode cX0_find 36 = .ok (.iload 4, 2) := by decide +kernel
theorem dX0_find_38 : decode cX0_find 38 = .ok (.istore 8, 2) := by decide +kernel
theorem dX0_find_40 : decode cX0_find 40 = .ok (.iconst 0, 1) := by decide +kernel
theorem dX0_find_41 : decode cX0_find 41 = .ok (.istore 9, 2) := by decide +kernel
theorem dX0_find_43 : decode cX0_find 43 = .ok (.iload 9, 2) := by decide +kernel
theorem dX0_find_45 : decode cX0_find 45 = .ok (.bipush 16, 2) := by decide +kernel
theorem dX0_find_47 : decode cX0_find 47 = .ok (.if_icmp .ge 150, 3) := by decide +kernel
theorem dX0_find_50 : decode cX0_find 50 = .ok (.iload 7, 2) := by decide +kernel
theorem dX0_find_52 : decode cX0_find 52 = .ok (.iload 6, 2) := by decide +kernel
theorem dX0_find_54 : decode cX0_find 54 = .ok (.if_icmp .ge 143, 3) := by decide +kernel
theorem dX0_find_57 : decode cX0_find 57 = .ok (.aload_n 1, 1) := by decide +kernel
theorem dX0_find_58 : decode cX0_find 58 = .ok (.iload 7, 2) := by decide +kernel
theorem dX0_find_60 : decode cX0_find 60 = .ok (.invokevirtual 27, 3) := by decide +kernel
theorem dX0_find_63 : decode cX0_find 63 = .ok (.ifCond .eq 134, 3) := by decide +kernel
theorem dX0_find_66 : decode cX0_find 66 = .ok (.aload_n 3, 1) := by decide +kernel
theorem dX0_find_67 : decode cX0_find 67 = .ok (.iload 8, 2) := by decide +kernel
theorem dX0_find_69 : decode cX0_find 69 = .ok (.invokevirtual 27, 3) := by decide +kernel
theorem dX0_find_72 : decode cX0_find 72 = .ok (.ifCond .eq 125, 3) := by decide +kernel
theorem dX0_find_75 : decode cX0_find 75 = .ok (.aload_n 1, 1) := by decide +kernel
theorem dX0_find_76 : decode cX0_find 76 = .ok (.getfield 34, 3) := by decide +kernel
theorem dX0_find_79 : decode cX0_find 79 = .ok (.iload 7, 2) := by decide +kernel
theorem dX0_find_81 : decode cX0_find 81 = .ok (.iaload, 1) := by decide +kernel
theorem dX0_find_82 : decode cX0_find 82 = .ok (.aload_n 3, 1) := by decide +kernel
theorem dX0_find_83 : decode cX0_find 83 = .ok (.getfield 34, 3) := by decide +kernel
theorem dX0_find_86 : decode cX0_find 86 = .ok (.iload 8, 2) := by decide +kernel
theorem dX0_find_88 : decode cX0_find 88 = .ok (.iaload, 1) := by decide +kernel
theorem dX0_find_89 : decode cX0_find 89 = .ok (.if_icmp .ne 48, 3) := by decide +kernel
theorem dX0_find_92 : decode cX0_find 92 = .ok (.aload_n 1, 1) := by decide +kernel
theorem dX0_find_93 : decode cX0_find 93 = .ok (.getfield 37, 3) := by decide +kernel
theorem dX0_find_96 : decode cX0_find 96 = .ok (.iload 7, 2) := by decide +kernel
theorem dX0_find_98 : decode cX0_find 98 = .ok (.iaload, 1) := by decide +kernel
theorem dX0_find_99 : decode cX0_find 99 = .ok (.aload_n 3, 1) := by decide +kernel
theorem dX0_find_100 : decode cX0_find 100 = .ok (.getfield 37, 3) := by decide +kernel
theorem dX0_find_103 : decode cX0_find 103 = .ok (.iload 8, 2) := by decide +kernel
theorem dX0_find_105 : decode cX0_find 105 = .ok (.iaload, 1) := by decide +kernel
theorem dX0_find_106 : decode cX0_find 106 = .ok (.if_icmp .ne 31, 3) := by decide +kernel
theorem dX0_find_109 : decode cX0_find 109 = .ok (.aload 5, 2) := by decide +kernel
theorem dX0_find_111 : decode cX0_find 111 = .ok (.aload_n 1, 1) := by decide +kernel
theorem dX0_find_112 : decode cX0_find 112 = .ok (.getfield 34, 3) := by decide +kernel
theorem dX0_find_115 : decode cX0_find 115 = .ok (.iload 7, 2) := by decide +kernel
theorem dX0_find_117 : decode cX0_find 117 = .ok (.iaload, 1) := by decide +kernel
theorem dX0_find_118 : decode cX0_find 118 = .ok (.aload_n 1, 1) := by decide +kernel
theorem dX0_find_119 : decode cX0_find 119 = .ok (.getfield 37, 3) := by decide +kernel
theorem dX0_find_122 : decode cX0_find 122 = .ok (.iload 7, 2) := by decide +kernel
theorem dX0_find_124 : decode cX0_find 124 = .ok (.iaload, 1) := by decide +kernel
theorem dX0_find_125 : decode cX0_find 125 = .ok (.invokevirtual 40, 3) := by decide +kernel
theorem dX0_find_128 : decode cX0_find 128 = .ok (.iinc 7 1, 3) := by decide +kernel
theorem dX0_find_131 : decode cX0_find 131 = .ok (.iinc 8 1, 3) := by decide +kernel
theorem dX0_find_134 : decode cX0_find 134 = .ok (.goto 57, 3) := by decide +kernel
theorem dX0_find_137 : decode cX0_find 137 = .ok (.aload_n 0, 1) := by decide +kernel
theorem dX0_find_138 : decode cX0_find 138 = .ok (.aload_n 1, 1) := by decide +kernel
theorem dX0_find_139 : decode cX0_find 139 = .ok (.iload 7, 2) := by decide +kernel
theorem dX0_find_141 : decode cX0_find 141 = .ok (.aload_n 3, 1) := by decide +kernel
theorem dX0_find_142 : decode cX0_find 142 = .ok (.iload 8, 2) := by decide +kernel
theorem dX0_find_144 : decode cX0_find 144 = .ok (.invokevirtual 44, 3) := by decide +kernel
theorem dX0_find_147 : decode cX0_find 147 = .ok (.istore 10, 2) := by decide +kernel
theorem dX0_find_149 : decode cX0_find 149 = .ok (.iload 10, 2) := by decide +kernel
theorem dX0_find_151 : decode cX0_find 151 = .ok (.ifCond .ge 5, 3) := by decide +kernel
theorem dX0_find_154 : decode cX0_find 154 = .ok (.iconst 0, 1) := by decide +kernel
theorem dX0_find_155 : decode cX0_find 155 = .ok (.ireturn, 1) := by decide +kernel
theorem dX0_find_156 : decode cX0_find 156 = .ok (.aload 5, 2) := by decide +kernel
theorem dX0_find_158 : decode cX0_find 158 = .ok (.bipush 65, 2) := by decide +kernel
theorem dX0_find_160 : decode cX0_find 160 = .ok (.iload 10, 2) := by decide +kernel
theorem dX0_find_162 : decode cX0_find 162 = .ok (.iadd, 1) := by decide +kernel
theorem dX0_find_163 : decode cX0_find 163 = .ok (.iconst 0, 1) := by decide +kernel
theorem dX0_find_164 : decode cX0_find 164 = .ok (.invokevirtual 40, 3) := by decide +kernel
theorem dX0_find_167 : decode cX0_find 167 = .ok (.iload 7, 2) := by decide +kernel
theorem dX0_find_169 : decode cX0_find 169 = .ok (.aload_n 1, 1) := by decide +kernel
theorem dX0_find_170 : decode cX0_find 170 = .ok (.getfield 31, 3) := by decide +kernel
theorem dX0_find_173 : decode cX0_find 173 = .ok (.iload 7, 2) := by decide +kernel
theorem dX0_find_175 : decode cX0_find 175 = .ok (.iaload, 1) := by decide +kernel
theorem dX0_find_176 : decode cX0_find 176 = .ok (.iadd, 1) := by decide +kernel
theorem dX0_find_177 : decode cX0_find 177 = .ok (.istore 7, 2) := by decide +kernel
theorem dX0_find_179 : decode cX0_find 179 = .ok (.iload 8, 2) := by decide +kernel
theorem dX0_find_181 : decode cX0_find 181 = .ok (.aload_n 3, 1) := by decide +kernel
theorem dX0_find_182 : decode cX0_find 182 = .ok (.getfield 31, 3) := by decide +kernel
theorem dX0_find_185 : decode cX0_find 185 = .ok (.iload 8, 2) := by decide +kernel
theorem dX0_find_187 : decode cX0_find 187 = .ok (.iaload, 1) := by decide +kernel
theorem dX0_find_188 : decode cX0_find 188 = .ok (.iadd, 1) := by decide +kernel
theorem dX0_find_189 : decode cX0_find 189 = .ok (.istore 8, 2) := by decide +kernel
theorem dX0_find_191 : decode cX0_find 191 = .ok (.iinc 9 1, 3) := by decide +kernel
theorem dX0_find_194 : decode cX0_find 194 = .ok (.goto (-151), 3) := by decide +kernel
theorem dX0_find_197 : decode cX0_find 197 = .ok (.aload 5, 2) := by decide +kernel
theorem dX0_find_199 : decode cX0_find 199 = .ok (.invokevirtual 48, 3) := by decide +kernel
theorem dX0_find_202 : decode cX0_find 202 = .ok (.iconst 1, 1) := by decide +kernel
theorem dX0_find_203 : decode cX0_find 203 = .ok (.ireturn, 1) := by decide +kernel
theorem dX0_holeFor_0 : decode cX0_holeFor 0 = .ok (.iconst 0, 1) := by decide +kernel
theorem dX0_holeFor_1 : decode cX0_holeFor 1 = .ok (.istore 5, 2) := by decide +kernel
theorem dX0_holeFor_3 : decode cX0_holeFor 3 = .ok (.iload 5, 2) := by decide +kernel
theorem dX0_holeFor_5 : decode cX0_holeFor 5 = .ok (.aload_n 0, 1) := by decide +kernel
theorem dX0_holeFor_6 : decode cX0_holeFor 6 = .ok (.getfield 18, 3) := by decide +kernel
theorem dX0_holeFor_9 : decode cX0_holeFor 9 = .ok (.if_icmp .ge 45, 3) := by decide +kernel
theorem dX0_holeFor_12 : decode cX0_holeFor 12 = .ok (.aload_n 1, 1) := by decide +kernel
theorem dX0_holeFor_13 : decode cX0_holeFor 13 = .ok (.iload_n 2, 1) := by decide +kernel
theorem dX0_holeFor_14 : decode cX0_holeFor 14 = .ok (.aload_n 1, 1) := by decide +kernel
theorem dX0_holeFor_15 : decode cX0_holeFor 15 = .ok (.aload_n 0, 1) := by decide +kernel
theorem dX0_holeFor_16 : decode cX0_holeFor 16 = .ok (.getfield 9, 3) := by decide +kernel
theorem dX0_holeFor_19 : decode cX0_holeFor 19 = .ok (.iload 5, 2) := by decide +kernel
theorem dX0_holeFor_21 : decode cX0_holeFor 21 = .ok (.iaload, 1) := by decide +kernel
theorem dX0_holeFor_22 : decode cX0_holeFor 22 = .ok (.invokevirtual 51, 3) := by decide +kernel
theorem dX0_holeFor_25 : decode cX0_holeFor 25 = .ok (.ifCond .eq 23, 3) := by decide +kernel
theorem dX0_holeFor_28 : decode cX0_holeFor 28 = .ok (.aload_n 3, 1) := by decide +kernel
theorem dX0_holeFor_29 : decode cX0_holeFor 29 = .ok (.iload 4, 2) := by decide +kernel
theorem dX0_holeFor_31 : decode cX0_holeFor 31 = .ok (.aload_n 3, 1) := by decide +kernel
theorem dX0_holeFor_32 : decode cX0_holeFor 32 = .ok (.aload_n 0, 1) := by decide +kernel
theorem dX0_holeFor_33 : decode cX0_holeFor 33 = .ok (.getfield 15, 3) := by decide +kernel
theorem dX0_holeFor_36 : decode cX0_holeFor 36 = .ok (.iload 5, 2) := by decide +kernel
theorem dX0_holeFor_38 : decode cX0_holeFor 38 = .ok (.iaload, 1) := by decide +kernel
theorem dX0_holeFor_39 : decode cX0_holeFor 39 = .ok (.invokevirtual 51, 3) := by decide +kernel
theorem dX0_holeFor_42 : decode cX0_holeFor 42 = .ok (.ifCond .eq 6, 3) := by decide +kernel
theorem dX0_holeFor_45 : decode cX0_holeFor 45 = .ok (.iload 5, 2) := by decide +kernel
theorem dX0_holeFor_47 : decode cX0_holeFor 47 = .ok (.ireturn, 1) := by decide +kernel
theorem dX0_holeFor_48 : decode cX0_holeFor 48 = .ok (.iinc 5 1, 3) := by decide +kernel
theorem dX0_holeFor_51 : decode cX0_holeFor 51 = .ok (.goto (-48), 3) := by decide +kernel
theorem dX0_holeFor_54 : decode cX0_holeFor 54 = .ok (.aload_n 0, 1) := by decide +kernel
theorem dX0_holeFor_55 : decode cX0_holeFor 55 = .ok (.getfield 18, 3) := by decide +kernel
theorem dX0_holeFor_58 : decode cX0_holeFor 58 = .ok (.bipush 8, 2) := by decide +kernel
theorem dX0_holeFor_60 : decode cX0_holeFor 60 = .ok (.if_icmp .lt 5, 3) := by decide +kernel
theorem dX0_holeFor_63 : decode cX0_holeFor 63 = .ok (.iconst (-1), 1) := by decide +kernel
theorem dX0_holeFor_64 : decode cX0_holeFor 64 = .ok (.ireturn, 1) := by decide +kernel
theorem dX0_holeFor_65 : decode cX0_holeFor 65 = .ok (.aload_n 0, 1) := by decide +kernel
theorem dX0_holeFor_66 : decode cX0_holeFor 66 = .ok (.getfield 9, 3) := by decide +kernel
theorem dX0_holeFor_69 : decode cX0_holeFor 69 = .ok (.aload_n 0, 1) := by decide +kernel
theorem dX0_holeFor_70 : decode cX0_holeFor 70 = .ok (.getfield 18, 3) := by decide +kernel
theorem dX0_holeFor_73 : decode cX0_holeFor 73 = .ok (.iload_n 2, 1) := by decide +kernel
theorem dX0_holeFor_74 : decode cX0_holeFor 74 = .ok (.iastore, 1) := by decide +kernel
theorem dX0_holeFor_75 : decode cX0_holeFor 75 = .ok (.aload_n 0, 1) := by decide +kernel
theorem dX0_holeFor_76 : decode cX0_holeFor 76 = .ok (.getfield 15, 3) := by decide +kernel
theorem dX0_holeFor_79 : decode cX0_holeFor 79 = .ok (.aload_n 0, 1) := by decide +kernel
theorem dX0_holeFor_80 : decode cX0_holeFor 80 = .ok (.getfield 18, 3) := by decide +kernel
theorem dX0_holeFor_83 : decode cX0_holeFor 83 = .ok (.iload 4, 2) := by decide +kernel
theorem dX0_holeFor_85 : decode cX0_holeFor 85 = .ok (.iastore, 1) := by decide +kernel
theorem dX0_holeFor_86 : decode cX0_holeFor 86 = .ok (.aload_n 0, 1) := by decide +kernel
theorem dX0_holeFor_87 : decode cX0_holeFor 87 = .ok (.dup, 1) := by decide +kernel
theorem dX0_holeFor_88 : decode cX0_holeFor 88 = .ok (.getfield 18, 3) := by decide +kernel
theorem dX0_holeFor_91 : decode cX0_holeFor 91 = .ok (.iconst 1, 1) := by decide +kernel
theorem dX0_holeFor_92 : decode cX0_holeFor 92 = .ok (.iadd, 1) := by decide +kernel
theorem dX0_holeFor_93 : decode cX0_holeFor 93 = .ok (.putfield 18, 3) := by decide +kernel
theorem dX0_holeFor_96 : decode cX0_holeFor 96 = .ok (.aload_n 0, 1) := by decide +kernel
theorem dX0_holeFor_97 : decode cX0_holeFor 97 = .ok (.getfield 18, 3) := by decide +kernel
theorem dX0_holeFor_100 : decode cX0_holeFor 100 = .ok (.iconst 1, 1) := by decide +kernel
theorem dX0_holeFor_101 : decode cX0_holeFor 101 = .ok (.isub, 1) := by decide +kernel
theorem dX0_holeFor_102 : decode cX0_holeFor 102 = .ok (.ireturn, 1) := by decide +kernel
theorem dX1_init_0 : decode cX1_init 0 = .ok (.aload_n 0, 1) := by decide +kernel
theorem dX1_init_1 : decode cX1_init 1 = .ok (.invokespecial 5, 3) := by decide +kernel
theorem dX1_init_4 : decode cX1_init 4 = .ok (.aload_n 0, 1) := by decide +kernel
theorem dX1_init_5 : decode cX1_init 5 = .ok (.bipush 32, 2) := by decide +kernel
theorem dX1_init_7 : decode cX1_init 7 = .ok (.newarray .int, 2) := by decide +kernel
theorem dX1_init_9 : decode cX1_init 9 = .ok (.putfield 11, 3) := by decide +kernel
theorem dX1_init_12 : decode cX1_init 12 = .ok (.aload_n 0, 1) := by decide +kernel
theorem dX1_init_13 : decode cX1_init 13 = .ok (.bipush 32, 2) := by decide +kernel
theorem dX1_init_15 : decode cX1_init 15 = .ok (.newarray .int, 2) := by decide +kernel
theorem dX1_init_17 : decode cX1_init 17 = .ok (.putfield 15, 3) := by decide +kernel
theorem dX1_init_20 : decode cX1_init 20 = .ok (.aload_n 0, 1) := by decide +kernel
theorem dX1_init_21 : decode cX1_init 21 = .ok (.bipush 32, 2) := by decide +kernel
theorem dX1_init_23 : decode cX1_init 23 = .ok (.newarray .int, 2) := by decide +kernel
theorem dX1_init_25 : decode cX1_init 25 = .ok (.putfield 18, 3) := by decide +kernel
theorem dX1_init_28 : decode cX1_init 28 = .ok (.aload_n 0, 1) := by decide +kernel
theorem dX1_init_29 : decode cX1_init 29 = .ok (.bipush 32, 2) := by decide +kernel
theorem dX1_init_31 : decode cX1_init 31 = .ok (.newarray .int, 2) := by decide +kernel
theorem dX1_init_33 : decode cX1_init 33 = .ok (.putfield 21, 3) := by decide +kernel
theorem dX1_init_36 : decode cX1_init 36 = .ok (.aload_n 0, 1) := by decide +kernel
theorem dX1_init_37 : decode cX1_init 37 = .ok (.bipush 48, 2) := by decide +kernel
theorem dX1_init_39 : decode cX1_init 39 = .ok (.newarray .int, 2) := by decide +kernel
theorem dX1_init_41 : decode cX1_init 41 = .ok (.putfield 24, 3) := by decide +kernel
theorem dX1_init_44 : decode cX1_init 44 = .ok (.aload_n 0, 1) := by decide +kernel
theorem dX1_init_45 : decode cX1_init 45 = .ok (.bipush 48, 2) := by decide +kernel
theorem dX1_init_47 : decode cX1_init 47 = .ok (.newarray .int, 2) := by decide +kernel
theorem dX1_init_49 : decode cX1_init 49 = .ok (.putfield 27, 3) := by decide +kernel
theorem dX1_init_52 : decode cX1_init 52 = .ok (.aload_n 0, 1) := by decide +kernel
theorem dX1_init_53 : decode cX1_init 53 = .ok (.bipush 48, 2) := by decide +kernel
theorem dX1_init_55 : decode cX1_init 55 = .ok (.newarray .int, 2) := by decide +kernel
theorem dX1_init_57 : decode cX1_init 57 = .ok (.putfield 30, 3) := by decide +kernel
theorem dX1_init_60 : decode cX1_init 60 = .ok (.aload_n 0, 1) := by decide +kernel
theorem dX1_init_61 : decode cX1_init 61 = .ok (.bipush 96, 2) := by decide +kernel
theorem dX1_init_63 : decode cX1_init 63 = .ok (.newarray .int, 2) := by decide +kernel
theorem dX1_init_65 : decode cX1_init 65 = .ok (.putfield 33, 3) := by decide +kernel
theorem dX1_init_68 : decode cX1_init 68 = .ok (.aload_n 0, 1) := by decide +kernel
theorem dX1_init_69 : decode cX1_init 69 = .ok (.bipush 96, 2) := by decide +kernel
theorem dX1_init_71 : decode cX1_init 71 = .ok (.newarray .int, 2) := by decide +kernel
theorem dX1_init_73 : decode cX1_init 73 = .ok (.putfield 36, 3) := by decide +kernel
theorem dX1_init_76 : decode cX1_init 76 = .ok (.aload_n 0, 1) := by decide +kernel
theorem dX1_init_77 : decode cX1_init 77 = .ok (.bipush 48, 2) := by decide +kernel
theorem dX1_init_79 : decode cX1_init 79 = .ok (.newarray .int, 2) := by decide +kernel
theorem dX1_init_81 : decode cX1_init 81 = .ok (.putfield 39, 3) := by decide +kernel
theorem dX1_init_84 : decode cX1_init 84 = .ok (.return_, 1) := by decide +kernel
theorem dX1_join_0 : decode cX1_join 0 = .ok (.aload_n 0, 1) := by decide +kernel
theorem dX1_join_1 : decode cX1_join 1 = .ok (.aload_n 1, 1) := by decide +kernel
theorem dX1_join_2 : decode cX1_join 2 = .ok (.iconst 0, 1) := by decide +kernel
theorem dX1_join_3 : decode cX1_join 3 = .ok (.bipush 32, 2) := by decide +kernel
theorem dX1_join_5 : decode cX1_join 5 = .ok (.invokevirtual 42, 3) := by decide +kernel
theorem dX1_join_8 : decode cX1_join 8 = .ok (.aload_n 0, 1) := by decide +kernel
theorem dX1_join_9 : decode cX1_join 9 = .ok (.aload_n 3, 1) := by decide +kernel
theorem dX1_join_10 : decode cX1_join 10 = .ok (.bipush 16, 2) := by decide +kernel
theorem dX1_join_12 : decode cX1_join 12 = .ok (.bipush 40, 2) := by decide +kernel
theorem dX1_join_14 : decode cX1_join 14 = .ok (.invokevirtual 42, 3) := by decide +kernel
theorem dX1_join_17 : decode cX1_join 17 = .ok (.iconst 0, 1) := by decide +kernel
theorem dX1_join_18 : decode cX1_join 18 = .ok (.istore 4, 2) := by decide +kernel
theorem dX1_join_20 : decode cX1_join 20 = .ok (.iload 4, 2) := by decide +kernel
theorem dX1_join_22 : decode cX1_join 22 = .ok (.bipush 48, 2) := by decide +kernel
theorem dX1_join_24 : decode cX1_join 24 = .ok (.if_icmp .ge 38, 3) := by decide +kernel
theorem dX1_join_27 : decode cX1_join 27 = .ok (.aload_n 0, 1) := by decide +kernel
theorem dX1_join_28 : decode cX1_join 28 = .ok (.getfield 24, 3) := by decide +kernel
theorem dX1_join_31 : decode cX1_join 31 = .ok (.iload 4, 2) := by decide +kernel
theorem dX1_join_33 : decode cX1_join 33 = .ok (.iload 4, 2) := by decide +kernel
theorem dX1_join_35 : decode cX1_join 35 = .ok (.iastore, 1) := by decide +kernel
theorem dX1_join_36 : decode cX1_join 36 = .ok (.aload_n 0, 1) := by decide +kernel
theorem dX1_join_37 : decode cX1_join 37 = .ok (.getfield 27, 3) := by decide +kernel
theorem dX1_join_40 : decode cX1_join 40 = .ok (.iload 4, 2) := by decide +kernel
theorem dX1_join_42 : decode cX1_join 42 = .ok (.iload 4, 2) := by decide +kernel
theorem dX1_join_44 : decode cX1_join 44 = .ok (.bipush 32, 2) := by decide +kernel
theorem dX1_join_46 : decode cX1_join 46 = .ok (.if_icmp .ge 8, 3) := by decide +kernel
theorem dX1_join_49 : decode cX1_join 49 = .ok (.iload 4, 2) := by decide +kernel
theorem dX1_join_51 : decode cX1_join 51 = .ok (.goto 4, 3) := by decide +kernel
theorem dX1_join_54 : decode cX1_join 54 = .ok (.iconst (-1), 1) := by decide +kernel
theorem dX1_join_55 : decode cX1_join 55 = .ok (.iastore, 1) := by decide +kernel
theorem dX1_join_56 : decode cX1_join 56 = .ok (.iinc 4 1, 3) := by decide +kernel
theorem dX1_join_59 : decode cX1_join 59 = .ok (.goto (-39), 3) := by decide +kernel
theorem dX1_join_62 : decode cX1_join 62 = .ok (.aload_n 0, 1) := by decide +kernel
theorem dX1_join_63 : decode cX1_join 63 = .ok (.iconst 0, 1) := by decide +kernel
theorem dX1_join_64 : decode cX1_join 64 = .ok (.putfield 46, 3) := by decide +kernel
theorem dX1_join_67 : decode cX1_join 67 = .ok (.aload_n 0, 1) := by decide +kernel
theorem dX1_join_68 : decode cX1_join 68 = .ok (.iload_n 2, 1) := by decide +kernel
theorem dX1_join_69 : decode cX1_join 69 = .ok (.bipush 16, 2) := by decide +kernel
theorem dX1_join_71 : decode cX1_join 71 = .ok (.invokevirtual 50, 3) := by decide +kernel
theorem dX1_join_74 : decode cX1_join 74 = .ok (.iconst 0, 1) := by decide +kernel
theorem dX1_join_75 : decode cX1_join 75 = .ok (.istore 4, 2) := by decide +kernel
theorem dX1_join_77 : decode cX1_join 77 = .ok (.iload 4, 2) := by decide +kernel
theorem dX1_join_79 : decode cX1_join 79 = .ok (.bipush 96, 2) := by decide +kernel
theorem dX1_join_81 : decode cX1_join 81 = .ok (.if_icmp .ge 73, 3) := by decide +kernel
theorem dX1_join_84 : decode cX1_join 84 = .ok (.aload_n 0, 1) := by decide +kernel
theorem dX1_join_85 : decode cX1_join 85 = .ok (.getfield 46, 3) := by decide +kernel
theorem dX1_join_88 : decode cX1_join 88 = .ok (.ifCond .le 66, 3) := by decide +kernel
theorem dX1_join_91 : decode cX1_join 91 = .ok (.aload_n 0, 1) := by decide +kernel
theorem dX1_join_92 : decode cX1_join 92 = .ok (.dup, 1) := by decide +kernel
theorem dX1_join_93 : decode cX1_join 93 = .ok (.getfield 46, 3) := by decide +kernel
theorem dX1_join_96 : decode cX1_join 96 = .ok (.iconst 1, 1) := by decide +kernel
theorem dX1_join_97 : decode cX1_join 97 = .ok (.isub, 1) := by decide +kernel
theorem dX1_join_98 : decode cX1_join 98 = .ok (.putfield 46, 3) := by decide +kernel
theorem dX1_join_101 : decode cX1_join 101 = .ok (.aload_n 0, 1) := by decide +kernel
theorem dX1_join_102 : decode cX1_join 102 = .ok (.aload_n 0, 1) := by decide +kernel
theorem dX1_join_103 : decode cX1_join 103 = .ok (.getfield 24, 3) := by decide +kernel
theorem dX1_join_106 : decode cX1_join 106 = .ok (.aload_n 0, 1) := by decide +kernel
theorem dX1_join_107 : decode cX1_join 107 = .ok (.getfield 21, 3) := by decide +kernel
theorem dX1_join_110 : decode cX1_join 110 = .ok (.aload_n 0, 1) := by decide +kernel
theorem dX1_join_111 : decode cX1_join 111 = .ok (.getfield 33, 3) := by decide +kernel
theorem dX1_join_114 : decode cX1_join 114 = .ok (.aload_n 0, 1) := by decide +kernel
theorem dX1_join_115 : decode cX1_join 115 = .ok (.getfield 46, 3) := by decide +kernel
theorem dX1_join_118 : decode cX1_join 118 = .ok (.iaload, 1) := by decide +kernel
theorem dX1_join_119 : decode cX1_join 119 = .ok (.iaload, 1) := by decide +kernel
theorem dX1_join_120 : decode cX1_join 120 = .ok (.iaload, 1) := by decide +kernel
theorem dX1_join_121 : decode cX1_join 121 = .ok (.aload_n 0, 1) := by decide +kernel
theorem dX1_join_122 : decode cX1_join 122 = .ok (.getfield 24, 3) := by decide +kernel
theorem dX1_join_125 : decode cX1_join 125 = .ok (.aload_n 0, 1) := by decide +kernel
theorem dX1_join_126 : decode cX1_join 126 = .ok (.getfield 21, 3) := by decide +kernel
theorem dX1_join_129 : decode cX1_join 129 = .ok (.aload_n 0, 1) := by decide +kernel
theorem dX1_join_130 : decode cX1_join 130 = .ok (.getfield 36, 3) := by decide +kernel
theorem dX1_join_133 : decode cX1_join 133 = .ok (.aload_n 0, 1) := by decide +kernel
theorem dX1_join_134 : decode cX1_join 134 = .ok (.getfield 46, 3) := by decide +kernel
theorem dX1_join_137 : decode cX1_join 137 = .ok (.iaload, 1) := by decide +kernel
theorem dX1_join_138 : decode cX1_join 138 = .ok (.iaload, 1) := by decide +kernel
theorem dX1_join_139 : decode cX1_join 139 = .ok (.iaload, 1) := by decide +kernel
theorem dX1_join_140 : decode cX1_join 140 = .ok (.invokevirtual 54, 3) := by decide +kernel
theorem dX1_join_143 : decode cX1_join 143 = .ok (.ifCond .ne 5, 3) := by decide +kernel
theorem dX1_join_146 : decode cX1_join 146 = .ok (.iconst 0, 1) := by decide +kernel
theorem dX1_join_147 : decode cX1_join 147 = .ok (.ireturn, 1) := by decide +kernel
theorem dX1_join_148 : decode cX1_join 148 = .ok (.iinc 4 1, 3) := by decide +kernel
theorem dX1_join_151 : decode cX1_join 151 = .ok (.goto (-74), 3) := by decide +kernel
theorem dX1_join_154 : decode cX1_join 154 = .ok (.aload_n 0, 1) := by decide +kernel
theorem dX1_join_155 : decode cX1_join 155 = .ok (.invokevirtual 58, 3) := by decide +kernel
theorem dX1_join_158 : decode cX1_join 158 = .ok (.ireturn, 1) := by decide +kernel
theorem dX1_load_0 : decode cX1_load 0 = .ok (.iconst 0, 1) := by decide +kernel
theorem dX1_load_1 : decode cX1_load 1 = .ok (.istore 4, 2) := by decide +kernel
theorem dX1_load_3 : decode cX1_load 3 = .ok (.iload 4, 2) := by decide +kernel
theorem dX1_load_5 : decode cX1_load 5 = .ok (.bipush 16, 2) := by decide +kernel
theorem dX1_load_7 : decode cX1_load 7 = .ok (.if_icmp .ge 158, 3) := by decide +kernel
theorem dX1_load_10 : decode cX1_load 10 = .ok (.iload 4, 2) := by decide +kernel
theorem dX1_load_12 : decode cX1_load 12 = .ok (.aload_n 1, 1) := by decide +kernel
theorem dX1_load_13 : decode cX1_load 13 = .ok (.getfield 62, 3) := by decide +kernel
theorem dX1_load_16 : decode cX1_load 16 = .ok (.if_icmp .ge 7, 3) := by decide +kernel
theorem dX1_load_19 : decode cX1_load 19 = .ok (.iconst 1, 1) := by decide +kernel
theorem dX1_load_20 : decode cX1_load 20 = .ok (.goto 4, 3) := by decide +kernel
theorem dX1_load_23 : decode cX1_load 23 = .ok (.iconst 0, 1) := by decide +kernel
theorem dX1_load_24 : decode cX1_load 24 = .ok (.istore 5, 2) := by decide +kernel
theorem dX1_load_26 : decode cX1_load 26 = .ok (.aload_n 0, 1) := by decide +kernel
theorem dX1_load_27 : decode cX1_load 27 = .ok (.getfield 11, 3) := by decide +kernel
theorem dX1_load_30 : decode cX1_load 30 = .ok (.iload_n 2, 1) := by decide +kernel
theorem dX1_load_31 : decode cX1_load 31 = .ok (.iload 4, 2) := by decide +kernel
theorem dX1_load_33 : decode cX1_load 33 = .ok (.iadd, 1) := by decide +kernel
theorem dX1_load_34 : decode cX1_load 34 = .ok (.iload 5, 2) := by decide +kernel
theorem dX1_load_36 : decode cX1_load 36 = .ok (.ifCond .eq 13, 3) := by decide +kernel
theorem dX1_load_39 : decode cX1_load 39 = .ok (.aload_n 1, 1) := by decide +kernel
theorem dX1_load_40 : decode cX1_load 40 = .ok (.getfield 67, 3) := by decide +kernel
theorem dX1_load_43 : decode cX1_load 43 = .ok (.iload 4, 2) := by decide +kernel
theorem dX1_load_45 : decode cX1_load 45 = .ok (.iaload, 1) := by decide +kernel
theorem dX1_load_46 : decode cX1_load 46 = .ok (.goto 4, 3) := by decide +kernel
theorem dX1_load_49 : decode cX1_load 49 = .ok (.iconst 0, 1) := by decide +kernel
theorem dX1_load_50 : decode cX1_load 50 = .ok (.iastore, 1) := by decide +kernel
theorem dX1_load_51 : decode cX1_load 51 = .ok (.aload_n 0, 1) := by decide +kernel
theorem dX1_load_52 : decode cX1_load 52 = .ok (.getfield 15, 3) := by decide +kernel
theorem dX1_load_55 : decode cX1_load 55 = .ok (.iload_n 2, 1) := by decide +kernel
theorem dX1_load_56 : decode cX1_load 56 = .ok (.iload 4, 2) := by decide +kernel
theorem dX1_load_58 : decode cX1_load 58 = .ok (.iadd, 1) := by decide +kernel
theorem dX1_load_59 : decode cX1_load 59 = .ok (.iload 5, 2) := by decide +kernel
theorem dX1_load_61 : decode cX1_load 61 = .ok (.ifCond .eq 13, 3) := by decide +kernel
theorem dX1_load_64 : decode cX1_load 64 = .ok (.aload_n 1, 1) := by decide +kernel
theorem dX1_load_65 : decode cX1_load 65 = .ok (.getfield 68, 3) := by decide +kernel
theorem dX1_load_68 : decode cX1_load 68 = .ok (.iload 4, 2) := by decide +kernel
theorem dX1_load_70 : decode cX1_load 70 = .ok (.iaload, 1) := by decide +kernel
theorem dX1_load_71 : decode cX1_load 71 = .ok (.goto 4, 3) := by decide +kernel
theorem dX1_load_74 : decode cX1_load 74 = .ok (.iconst 0, 1) := by decide +kernel
theorem dX1_load_75 : decode cX1_load 75 = .ok (.iastore, 1) := by decide +kernel
theorem dX1_load_76 : decode cX1_load 76 = .ok (.aload_n 0, 1) := by decide +kernel
theorem dX1_load_77 : decode cX1_load 77 = .ok (.getfield 18, 3) := by decide +kernel
theorem dX1_load_80 : decode cX1_load 80 = .ok (.iload_n 2, 1) := by decide +kernel
theorem dX1_load_81 : decode cX1_load 81 = .ok (.iload 4, 2) := by decide +kernel
theorem dX1_load_83 : decode cX1_load 83 = .ok (.iadd, 1) := by decide +kernel
theorem dX1_load_84 : decode cX1_load 84 = .ok (.iload 5, 2) := by decide +kernel
theorem dX1_load_86 : decode cX1_load 86 = .ok (.ifCond .eq 13, 3) := by decide +kernel
theorem dX1_load_89 : decode cX1_load 89 = .ok (.aload_n 1, 1) := by decide +kernel
theorem dX1_load_90 : decode cX1_load 90 = .ok (.getfield 69, 3) := by decide +kernel
theorem dX1_load_93 : decode cX1_load 93 = .ok (.iload 4, 2) := by decide +kernel
theorem dX1_load_95 : decode cX1_load 95 = .ok (.iaload, 1) := by decide +kernel
theorem dX1_load_96 : decode cX1_load 96 = .ok (.goto 4, 3) := by decide +kernel
theorem dX1_load_99 : decode cX1_load 99 = .ok (.iconst 1, 1) := by decide +kernel
theorem dX1_load_100 : decode cX1_load 100 = .ok (.iastore, 1) := by decide +kernel
theorem dX1_load_101 : decode cX1_load 101 = .ok (.iload 5, 2) := by decide +kernel
theorem dX1_load_103 : decode cX1_load 103 = .ok (.ifCond .eq 20, 3) := by decide +kernel
theorem dX1_load_106 : decode cX1_load 106 = .ok (.aload_n 1, 1) := by decide +kernel
theorem dX1_load_107 : decode cX1_load 107 = .ok (.getfield 67, 3) := by decide +kernel
theorem dX1_load_110 : decode cX1_load 110 = .ok (.iload 4, 2) := by decide +kernel
theorem dX1_load_112 : decode cX1_load 112 = .ok (.iaload, 1) := by decide +kernel
theorem dX1_load_113 : decode cX1_load 113 = .ok (.invokestatic 70, 3) := by decide +kernel
theorem dX1_load_116 : decode cX1_load 116 = .ok (.ifCond .eq 7, 3) := by decide +kernel
theorem dX1_load_119 : decode cX1_load 119 = .ok (.iconst 1, 1) := by decide +kernel
theorem dX1_load_120 : decode cX1_load 120 = .ok (.goto 4, 3) := by decide +kernel
theorem dX1_load_123 : decode cX1_load 123 = .ok (.iconst 0, 1) := by decide +kernel
theorem dX1_load_124 : decode cX1_load 124 = .ok (.istore 6, 2) := by decide +kernel
theorem dX1_load_126 : decode cX1_load 126 = .ok (.aload_n 0, 1) := by decide +kernel
theorem dX1_load_127 : decode cX1_load 127 = .ok (.getfield 21, 3) := by decide +kernel
theorem dX1_load_130 : decode cX1_load 130 = .ok (.iload_n 2, 1) := by decide +kernel
theorem dX1_load_131 : decode cX1_load 131 = .ok (.iload 4, 2) := by decide +kernel
theorem dX1_load_133 : decode cX1_load 133 = .ok (.iadd, 1) := by decide +kernel
theorem dX1_load_134 : decode cX1_load 134 = .ok (.iload 6, 2) := by decide +kernel
theorem dX1_load_136 : decode cX1_load 136 = .ok (.ifCond .eq 18, 3) := by decide +kernel
theorem dX1_load_139 : decode cX1_load 139 = .ok (.iload_n 3, 1) := by decide +kernel
theorem dX1_load_140 : decode cX1_load 140 = .ok (.aload_n 1, 1) := by decide +kernel
theorem dX1_load_141 : decode cX1_load 141 = .ok (.getfield 67, 3) := by decide +kernel
theorem dX1_load_144 : decode cX1_load 144 = .ok (.iload 4, 2) := by decide +kernel
theorem dX1_load_146 : decode cX1_load 146 = .ok (.iaload, 1) := by decide +kernel
theorem dX1_load_147 : decode cX1_load 147 = .ok (.iadd, 1) := by decide +kernel
theorem dX1_load_148 : decode cX1_load 148 = .ok (.bipush 65, 2) := by decide +kernel
theorem dX1_load_150 : decode cX1_load 150 = .ok (.isub, 1) := by decide +kernel
theorem dX1_load_151 : decode cX1_load 151 = .ok (.goto 7, 3) := by decide +kernel
theorem dX1_load_154 : decode cX1_load 154 = .ok (.iload_n 2, 1) := by decide +kernel
theorem dX1_load_155 : decode cX1_load 155 = .ok (.iload 4, 2) := by decide +kernel
theorem dX1_load_157 : decode cX1_load 157 = .ok (.iadd, 1) := by decide +kernel
theorem dX1_load_158 : decode cX1_load 158 = .ok (.iastore, 1) := by decide +kernel
theorem dX1_load_159 : decode cX1_load 159 = .ok (.iinc 4 1, 3) := by decide +kernel
theorem dX1_load_162 : decode cX1_load 162 = .ok (.goto (-159), 3) := by decide +kernel
theorem dX1_load_165 : decode cX1_load 165 = .ok (.return_, 1) := by decide +kernel
theorem dX1_await_0 : decode cX1_await 0 = .ok (.aload_n 0, 1) := by decide +kernel
theorem dX1_await_1 : decode cX1_await 1 = .ok (.getfield 46, 3) := by decide +kernel
theorem dX1_await_4 : decode cX1_await 4 = .ok (.bipush 96, 2) := by decide +kernel
theorem dX1_await_6 : decode cX1_await 6 = .ok (.if_icmp .ge 53, 3) := by decide +kernel
theorem dX1_await_9 : decode cX1_await 9 = .ok (.iload_n 1, 1) := by decide +kernel
theorem dX1_await_10 : decode cX1_await 10 = .ok (.ifCond .lt 49, 3) := by decide +kernel
theorem dX1_await_13 : decode cX1_await 13 = .ok (.iload_n 1, 1) := by decide +kernel
theorem dX1_await_14 : decode cX1_await 14 = .ok (.bipush 32, 2) := by decide +kernel
theorem dX1_await_16 : decode cX1_await 16 = .ok (.if_icmp .ge 43, 3) := by decide +kernel
theorem dX1_await_19 : decode cX1_await 19 = .ok (.iload_n 2, 1) := by decide +kernel
theorem dX1_await_20 : decode cX1_await 20 = .ok (.ifCond .lt 39, 3) := by decide +kernel
theorem dX1_await_23 : decode cX1_await 23 = .ok (.iload_n 2, 1) := by decide +kernel
theorem dX1_await_24 : decode cX1_await 24 = .ok (.bipush 32, 2) := by decide +kernel
theorem dX1_await_26 : decode cX1_await 26 = .ok (.if_icmp .ge 33, 3) := by decide +kernel
theorem dX1_await_29 : decode cX1_await 29 = .ok (.aload_n 0, 1) := by decide +kernel
theorem dX1_await_30 : decode cX1_await 30 = .ok (.getfield 33, 3) := by decide +kernel
theorem dX1_await_33 : decode cX1_await 33 = .ok (.aload_n 0, 1) := by decide +kernel
theorem dX1_await_34 : decode cX1_await 34 = .ok (.getfield 46, 3) := by decide +kernel
theorem dX1_await_37 : decode cX1_await 37 = .ok (.iload_n 1, 1) := by decide +kernel
theorem dX1_await_38 : decode cX1_await 38 = .ok (.iastore, 1) := by decide +kernel
theorem dX1_await_39 : decode cX1_await 39 = .ok (.aload_n 0, 1) := by decide +kernel
theorem dX1_await_40 : decode cX1_await 40 = .ok (.getfield 36, 3) := by decide +kernel
theorem dX1_await_43 : decode cX1_await 43 = .ok (.aload_n 0, 1) := by decide +kernel
theorem dX1_await_44 : decode cX1_await 44 = .ok (.getfield 46, 3) := by decide +kernel
theorem dX1_await_47 : decode cX1_await 47 = .ok (.iload_n 2, 1) := by decide +kernel
theorem dX1_await_48 : decode cX1_await 48 = .ok (.iastore, 1) := by decide +kernel
theorem dX1_await_49 : decode cX1_await 49 = .ok (.aload_n 0, 1) := by decide +kernel
theorem dX1_await_50 : decode cX1_await 50 = .ok (.dup, 1) := by decide +kernel
theorem dX1_await_51 : decode cX1_await 51 = .ok (.getfield 46, 3) := by decide +kernel
theorem dX1_await_54 : decode cX1_await 54 = .ok (.iconst 1, 1) := by decide +kernel
theorem dX1_await_55 : decode cX1_await 55 = .ok (.iadd, 1) := by decide +kernel
theorem dX1_await_56 : decode cX1_await 56 = .ok (.putfield 46, 3) := by decide +kernel
theorem dX1_await_59 : decode cX1_await 59 = .ok (.return_, 1) := by decide +kernel
theorem dX1_joinKin_0 : decode cX1_joinKin 0 = .ok (.iload_n 1, 1) := by decide +kernel
theorem dX1_joinKin_1 : decode cX1_joinKin 1 = .ok (.iload_n 2, 1) := by decide +kernel
theorem dX1_joinKin_2 : decode cX1_joinKin 2 = .ok (.if_icmp .ne 5, 3) := by decide +kernel
theorem dX1_joinKin_5 : decode cX1_joinKin 5 = .ok (.iconst 1, 1) := by decide +kernel
theorem dX1_joinKin_6 : decode cX1_joinKin 6 = .ok (.ireturn, 1) := by decide +kernel
theorem dX1_joinKin_7 : decode cX1_joinKin 7 = .ok (.aload_n 0, 1) := by decide +kernel
theorem dX1_joinKin_8 : decode cX1_joinKin 8 = .ok (.getfield 27, 3) := by decide +kernel
theorem dX1_joinKin_11 : decode cX1_joinKin 11 = .ok (.iload_n 1, 1) := by decide +kernel
theorem dX1_joinKin_12 : decode cX1_joinKin 12 = .ok (.iaload, 1) := by decide +kernel
theorem dX1_joinKin_13 : decode cX1_joinKin 13 = .ok (.istore_n 3, 1) := by decide +kernel
theorem dX1_joinKin_14 : decode cX1_joinKin 14 = .ok (.aload_n 0, 1) := by decide +kernel
theorem dX1_joinKin_15 : decode cX1_joinKin 15 = .ok (.getfield 27, 3) := by decide +kernel
theorem dX1_joinKin_18 : decode cX1_joinKin 18 = .ok (.iload_n 2, 1) := by decide +kernel
theorem dX1_joinKin_19 : decode cX1_joinKin 19 = .ok (.iaload, 1) := by decide +kernel
theorem dX1_joinKin_20 : decode cX1_joinKin 20 = .ok (.istore 4, 2) := by decide +kernel
theorem dX1_joinKin_22 : decode cX1_joinKin 22 = .ok (.iconst 0, 1) := by decide +kernel
theorem dX1_joinKin_23 : decode cX1_joinKin 23 = .ok (.istore 5, 2) := by decide +kernel
theorem dX1_joinKin_25 : decode cX1_joinKin 25 = .ok (.iload 5, 2) := by decide +kernel
theorem dX1_joinKin_27 : decode cX1_joinKin 27 = .ok (.bipush 48, 2) := by decide +kernel
theorem dX1_joinKin_29 : decode cX1_joinKin 29 = .ok (.if_icmp .ge 28, 3) := by decide +kernel
theorem dX1_joinKin_32 : decode cX1_joinKin 32 = .ok (.aload_n 0, 1) := by decide +kernel
theorem dX1_joinKin_33 : decode cX1_joinKin 33 = .ok (.getfield 24, 3) := by decide +kernel
theorem dX1_joinKin_36 : decode cX1_joinKin 36 = .ok (.iload 5, 2) := by decide +kernel
theorem dX1_joinKin_38 : decode cX1_joinKin 38 = .ok (.iaload, 1) := by decide +kernel
theorem dX1_joinKin_39 : decode cX1_joinKin 39 = .ok (.iload_n 2, 1) := by decide +kernel
theorem dX1_joinKin_40 : decode cX1_joinKin 40 = .ok (.if_icmp .ne 11, 3) := by decide +kernel
theorem dX1_joinKin_43 : decode cX1_joinKin 43 = .ok (.aload_n 0, 1) := by decide +kernel
theorem dX1_joinKin_44 : decode cX1_joinKin 44 = .ok (.getfield 24, 3) := by decide +kernel
theorem dX1_joinKin_47 : decode cX1_joinKin 47 = .ok (.iload 5, 2) := by decide +kernel
theorem dX1_joinKin_49 : decode cX1_joinKin 49 = .ok (.iload_n 1, 1) := by decide +kernel
theorem dX1_joinKin_50 : decode cX1_joinKin 50 = .ok (.iastore, 1) := by decide +kernel
theorem dX1_joinKin_51 : decode cX1_joinKin 51 = .ok (.iinc 5 1, 3) := by decide +kernel
theorem dX1_joinKin_54 : decode cX1_joinKin 54 = .ok (.goto (-29), 3) := by decide +kernel
theorem dX1_joinKin_57 : decode cX1_joinKin 57 = .ok (.iload_n 3, 1) := by decide +kernel
theorem dX1_joinKin_58 : decode cX1_joinKin 58 = .ok (.ifCond .ge 11, 3) := by decide +kernel
theorem dX1_joinKin_61 : decode cX1_joinKin 61 = .ok (.aload_n 0, 1) := by decide +kernel
theorem dX1_joinKin_62 : decode cX1_joinKin 62 = .ok (.getfield 27, 3) := by decide +kernel
theorem dX1_joinKin_65 : decode cX1_joinKin 65 = .ok (.iload_n 1, 1) := by decide +kernel
theorem dX1_joinKin_66 : decode cX1_joinKin 66 = .ok (.iload 4, 2) := by decide +kernel
theorem dX1_joinKin_68 : decode cX1_joinKin 68 = .ok (.iastore, 1) := by decide +kernel
theorem dX1_joinKin_69 : decode cX1_joinKin 69 = .ok (.iload_n 3, 1) := by decide +kernel
theorem dX1_joinKin_70 : decode cX1_joinKin 70 = .ok (.ifCond .lt 8, 3) := by decide +kernel
theorem dX1_joinKin_73 : decode cX1_joinKin 73 = .ok (.iload 4, 2) := by decide +kernel
theorem dX1_joinKin_75 : decode cX1_joinKin 75 = .ok (.ifCond .ge 5, 3) := by decide +kernel
theorem dX1_joinKin_78 : decode cX1_joinKin 78 = .ok (.iconst 1, 1) := by decide +kernel
theorem dX1_joinKin_79 : decode cX1_joinKin 79 = .ok (.ireturn, 1) := by decide +kernel
theorem dX1_joinKin_80 : decode cX1_joinKin 80 = .ok (.aload_n 0, 1) := by decide +kernel
theorem dX1_joinKin_81 : decode cX1_joinKin 81 = .ok (.getfield 11, 3) := by decide +kernel
theorem dX1_joinKin_84 : decode cX1_joinKin 84 = .ok (.iload_n 3, 1) := by decide +kernel
theorem dX1_joinKin_85 : decode cX1_joinKin 85 = .ok (.iaload, 1) := by decide +kernel
theorem dX1_joinKin_86 : decode cX1_joinKin 86 = .ok (.aload_n 0, 1) := by decide +kernel
theorem dX1_joinKin_87 : decode cX1_joinKin 87 = .ok (.getfield 11, 3) := by decide +kernel
theorem dX1_joinKin_90 : decode cX1_joinKin 90 = .ok (.iload 4, 2) := by decide +kernel
theorem dX1_joinKin_92 : decode cX1_joinKin 92 = .ok (.iaload, 1) := by decide +kernel
theorem dX1_joinKin_93 : decode cX1_joinKin 93 = .ok (.if_icmp .ne 19, 3) := by decide +kernel
theorem dX1_joinKin_96 : decode cX1_joinKin 96 = .ok (.aload_n 0, 1) := by decide +kernel
theorem dX1_joinKin_97 : decode cX1_joinKin 97 = .ok (.getfield 15, 3) := by decide +kernel
theorem dX1_joinKin_100 : decode cX1_joinKin 100 = .ok (.iload_n 3, 1) := by decide +kernel
theorem dX1_joinKin_101 : decode cX1_joinKin 101 = .ok (.iaload, 1) := by decide +kernel
theorem dX1_joinKin_102 : decode cX1_joinKin 102 = .ok (.aload_n 0, 1) := by decide +kernel
theorem dX1_joinKin_103 : decode cX1_joinKin 103 = .ok (.getfield 15, 3) := by decide +kernel
theorem dX1_joinKin_106 : decode cX1_joinKin 106 = .ok (.iload 4, 2) := by decide +kernel
theorem dX1_joinKin_108 : decode cX1_joinKin 108 = .ok (.iaload, 1) := by decide +kernel
theorem dX1_joinKin_109 : decode cX1_joinKin 109 = .ok (.if_icmp .eq 5, 3) := by decide +kernel
theorem dX1_joinKin_112 : decode cX1_joinKin 112 = .ok (.iconst 0, 1) := by decide +kernel
theorem dX1_joinKin_113 : decode cX1_joinKin 113 = .ok (.ireturn, 1) := by decide +kernel
theorem dX1_joinKin_114 : decode cX1_joinKin 114 = .ok (.iload_n 3, 1) := by decide +kernel
theorem dX1_joinKin_115 : decode cX1_joinKin 115 = .ok (.iconst 1, 1) := by decide +kernel
theorem dX1_joinKin_116 : decode cX1_joinKin 116 = .ok (.iadd, 1) := by decide +kernel
theorem dX1_joinKin_117 : decode cX1_joinKin 117 = .ok (.istore 5, 2) := by decide +kernel
theorem dX1_joinKin_119 : decode cX1_joinKin 119 = .ok (.iload 4, 2) := by decide +kernel
theorem dX1_joinKin_121 : decode cX1_joinKin 121 = .ok (.iconst 1, 1) := by decide +kernel
theorem dX1_joinKin_122 : decode cX1_joinKin 122 = .ok (.iadd, 1) := by decide +kernel
theorem dX1_joinKin_123 : decode cX1_joinKin 123 = .ok (.istore 6, 2) := by decide +kernel
theorem dX1_joinKin_125 : decode cX1_joinKin 125 = .ok (.iconst 0, 1) := by decide +kernel
theorem dX1_joinKin_126 : decode cX1_joinKin 126 = .ok (.istore 7, 2) := by decide +kernel
theorem dX1_joinKin_128 : decode cX1_joinKin 128 = .ok (.iload 7, 2) := by decide +kernel
theorem dX1_joinKin_130 : decode cX1_joinKin 130 = .ok (.aload_n 0, 1) := by decide +kernel
theorem dX1_joinKin_131 : decode cX1_joinKin 131 = .ok (.getfield 15, 3) := by decide +kernel
theorem dX1_joinKin_134 : decode cX1_joinKin 134 = .ok (.iload_n 3, 1) := by decide +kernel
theorem dX1_joinKin_135 : decode cX1_joinKin 135 = .ok (.iaload, 1) := by decide +kernel
theorem dX1_joinKin_136 : decode cX1_joinKin 136 = .ok (.if_icmp .ge 55, 3) := by decide +kernel
theorem dX1_joinKin_139 : decode cX1_joinKin 139 = .ok (.iload 5, 2) := by decide +kernel
theorem dX1_joinKin_141 : decode cX1_joinKin 141 = .ok (.bipush 32, 2) := by decide +kernel
theorem dX1_joinKin_143 : decode cX1_joinKin 143 = .ok (.if_icmp .ge 48, 3) := by decide +kernel
theorem dX1_joinKin_146 : decode cX1_joinKin 146 = .ok (.iload 6, 2) := by decide +kernel
theorem dX1_joinKin_148 : decode cX1_joinKin 148 = .ok (.bipush 32, 2) := by decide +kernel
theorem dX1_joinKin_150 : decode cX1_joinKin 150 = .ok (.if_icmp .ge 41, 3) := by decide +kernel
theorem dX1_joinKin_153 : decode cX1_joinKin 153 = .ok (.aload_n 0, 1) := by decide +kernel
theorem dX1_joinKin_154 : decode cX1_joinKin 154 = .ok (.iload 5, 2) := by decide +kernel
theorem dX1_joinKin_156 : decode cX1_joinKin 156 = .ok (.iload 6, 2) := by decide +kernel
theorem dX1_joinKin_158 : decode cX1_joinKin 158 = .ok (.invokevirtual 50, 3) := by decide +kernel
theorem dX1_joinKin_161 : decode cX1_joinKin 161 = .ok (.iload 5, 2) := by decide +kernel
theorem dX1_joinKin_163 : decode cX1_joinKin 163 = .ok (.aload_n 0, 1) := by decide +kernel
theorem dX1_joinKin_164 : decode cX1_joinKin 164 = .ok (.getfield 18, 3) := by decide +kernel
theorem dX1_joinKin_167 : decode cX1_joinKin 167 = .ok (.iload 5, 2) := by decide +kernel
theorem dX1_joinKin_169 : decode cX1_joinKin 169 = .ok (.iaload, 1) := by decide +kernel
theorem dX1_joinKin_170 : decode cX1_joinKin 170 = .ok (.iadd, 1) := by decide +kernel
theorem dX1_joinKin_171 : decode cX1_joinKin 171 = .ok (.istore 5, 2) := by decide +kernel
theorem dX1_joinKin_173 : decode cX1_joinKin 173 = .ok (.iload 6, 2) := by decide +kernel
theorem dX1_joinKin_175 : decode cX1_joinKin 175 = .ok (.aload_n 0, 1) := by decide +kernel
theorem dX1_joinKin_176 : decode cX1_joinKin 176 = .ok (.getfield 18, 3) := by decide +kernel
theorem dX1_joinKin_179 : decode cX1_joinKin 179 = .ok (.iload 6, 2) := by decide +kernel
theorem dX1_joinKin_181 : decode cX1_joinKin 181 = .ok (.iaload, 1) := by decide +kernel
theorem dX1_joinKin_182 : decode cX1_joinKin 182 = .ok (.iadd, 1) := by decide +kernel
theorem dX1_joinKin_183 : decode cX1_joinKin 183 = .ok (.istore 6, 2) := by decide +kernel
theorem dX1_joinKin_185 : decode cX1_joinKin 185 = .ok (.iinc 7 1, 3) := by decide +kernel
theorem dX1_joinKin_188 : decode cX1_joinKin 188 = .ok (.goto (-60), 3) := by decide +kernel
theorem dX1_joinKin_191 : decode cX1_joinKin 191 = .ok (.iconst 1, 1) := by decide +kernel
theorem dX1_joinKin_192 : decode cX1_joinKin 192 = .ok (.ireturn, 1) := by decide +kernel
theorem dX1_weigh_0 : decode cX1_weigh 0 = .ok (.iconst 0, 1) := by decide +kernel
theorem dX1_weigh_1 : decode cX1_weigh 1 = .ok (.istore_n 1, 1) := by decide +kernel
theorem dX1_weigh_2 : decode cX1_weigh 2 = .ok (.iload_n 1, 1) := by decide +kernel
theorem dX1_weigh_3 : decode cX1_weigh 3 = .ok (.bipush 48, 2) := by decide +kernel
theorem dX1_weigh_5 : decode cX1_weigh 5 = .ok (.if_icmp .ge 16, 3) := by decide +kernel
theorem dX1_weigh_8 : decode cX1_weigh 8 = .ok (.aload_n 0, 1) := by decide +kernel
theorem dX1_weigh_9 : decode cX1_weigh 9 = .ok (.getfield 30, 3) := by decide +kernel
theorem dX1_weigh_12 : decode cX1_weigh 12 = .ok (.iload_n 1, 1) := by decide +kernel
theorem dX1_weigh_13 : decode cX1_weigh 13 = .ok (.iconst 0, 1) := by decide +kernel
theorem dX1_weigh_14 : decode cX1_weigh 14 = .ok (.iastore, 1) := by decide +kernel
theorem dX1_weigh_15 : decode cX1_weigh 15 = .ok (.iinc 1 1, 3) := by decide +kernel
theorem dX1_weigh_18 : decode cX1_weigh 18 = .ok (.goto (-16), 3) := by decide +kernel
theorem dX1_weigh_21 : decode cX1_weigh 21 = .ok (.iconst 0, 1) := by decide +kernel
theorem dX1_weigh_22 : decode cX1_weigh 22 = .ok (.istore_n 1, 1) := by decide +kernel
theorem dX1_weigh_23 : decode cX1_weigh 23 = .ok (.iconst 0, 1) := by decide +kernel
theorem dX1_weigh_24 : decode cX1_weigh 24 = .ok (.istore_n 2, 1) := by decide +kernel
theorem dX1_weigh_25 : decode cX1_weigh 25 = .ok (.iload_n 2, 1) := by decide +kernel
theorem dX1_weigh_26 : decode cX1_weigh 26 = .ok (.bipush 48, 2) := by decide +kernel
theorem dX1_weigh_28 : decode cX1_weigh 28 = .ok (.if_icmp .ge 73, 3) := by decide +kernel
theorem dX1_weigh_31 : decode cX1_weigh 31 = .ok (.iload_n 1, 1) := by decide +kernel
theorem dX1_weigh_32 : decode cX1_weigh 32 = .ok (.bipush 48, 2) := by decide +kernel
theorem dX1_weigh_34 : decode cX1_weigh 34 = .ok (.if_icmp .ge 67, 3) := by decide +kernel
theorem dX1_weigh_37 : decode cX1_weigh 37 = .ok (.iconst 0, 1) := by decide +kernel
theorem dX1_weigh_38 : decode cX1_weigh 38 = .ok (.istore_n 1, 1) := by decide +kernel
theorem dX1_weigh_39 : decode cX1_weigh 39 = .ok (.iconst 0, 1) := by decide +kernel
theorem dX1_weigh_40 : decode cX1_weigh 40 = .ok (.istore_n 3, 1) := by decide +kernel
theorem dX1_weigh_41 : decode cX1_weigh 41 = .ok (.iload_n 3, 1) := by decide +kernel
theorem dX1_weigh_42 : decode cX1_weigh 42 = .ok (.bipush 48, 2) := by decide +kernel
theorem dX1_weigh_44 : decode cX1_weigh 44 = .ok (.if_icmp .ge 51, 3) := by decide +kernel
theorem dX1_weigh_47 : decode cX1_weigh 47 = .ok (.aload_n 0, 1) := by decide +kernel
theorem dX1_weigh_48 : decode cX1_weigh 48 = .ok (.getfield 30, 3) := by decide +kernel
theorem dX1_weigh_51 : decode cX1_weigh 51 = .ok (.iload_n 3, 1) := by decide +kernel
theorem dX1_weigh_52 : decode cX1_weigh 52 = .ok (.iaload, 1) := by decide +kernel
theorem dX1_weigh_53 : decode cX1_weigh 53 = .ok (.ifCond .ne 19, 3) := by decide +kernel
theorem dX1_weigh_56 : decode cX1_weigh 56 = .ok (.aload_n 0, 1) := by decide +kernel
theorem dX1_weigh_57 : decode cX1_weigh 57 = .ok (.getfield 30, 3) := by decide +kernel
theorem dX1_weigh_60 : decode cX1_weigh 60 = .ok (.iload_n 3, 1) := by decide +kernel
theorem dX1_weigh_61 : decode cX1_weigh 61 = .ok (.aload_n 0, 1) := by decide +kernel
theorem dX1_weigh_62 : decode cX1_weigh 62 = .ok (.aload_n 0, 1) := by decide +kernel
theorem dX1_weigh_63 : decode cX1_weigh 63 = .ok (.getfield 27, 3) := by decide +kernel
theorem dX1_weigh_66 : decode cX1_weigh 66 = .ok (.iload_n 3, 1) := by decide +kernel
theorem dX1_weigh_67 : decode cX1_weigh 67 = .ok (.iaload, 1) := by decide +kernel
theorem dX1_weigh_68 : decode cX1_weigh 68 = .ok (.invokevirtual 74, 3) := by decide +kernel
theorem dX1_weigh_71 : decode cX1_weigh 71 = .ok (.iastore, 1) := by decide +kernel
theorem dX1_weigh_72 : decode cX1_weigh 72 = .ok (.iload_n 1, 1) := by decide +kernel
theorem dX1_weigh_73 : decode cX1_weigh 73 = .ok (.aload_n 0, 1) := by decide +kernel
theorem dX1_weigh_74 : decode cX1_weigh 74 = .ok (.getfield 30, 3) := by decide +kernel
theorem dX1_weigh_77 : decode cX1_weigh 77 = .ok (.iload_n 3, 1) := by decide +kernel
theorem dX1_weigh_78 : decode cX1_weigh 78 = .ok (.iaload, 1) := by decide +kernel
theorem dX1_weigh_79 : decode cX1_weigh 79 = .ok (.ifCond .le 7, 3) := by decide +kernel
theorem dX1_weigh_82 : decode cX1_weigh 82 = .ok (.iconst 1, 1) := by decide +kernel
theorem dX1_weigh_83 : decode cX1_weigh 83 = .ok (.goto 4, 3) := by decide +kernel
theorem dX1_weigh_86 : decode cX1_weigh 86 = .ok (.iconst 0, 1) := by decide +kernel
theorem dX1_weigh_87 : decode cX1_weigh 87 = .ok (.iadd, 1) := by decide +kernel
theorem dX1_weigh_88 : decode cX1_weigh 88 = .ok (.istore_n 1, 1) := by decide +kernel
theorem dX1_weigh_89 : decode cX1_weigh 89 = .ok (.iinc 3 1, 3) := by decide +kernel
theorem dX1_weigh_92 : decode cX1_weigh 92 = .ok (.goto (-51), 3) := by decide +kernel
theorem dX1_weigh_95 : decode cX1_weigh 95 = .ok (.iinc 2 1, 3) := by decide +kernel
theorem dX1_weigh_98 : decode cX1_weigh 98 = .ok (.goto (-73), 3) := by decide +kernel
theorem dX1_weigh_101 : decode cX1_weigh 101 = .ok (.iload_n 1, 1) := by decide +kernel
theorem dX1_weigh_102 : decode cX1_weigh 102 = .ok (.bipush 48, 2) := by decide +kernel
theorem dX1_weigh_104 : decode cX1_weigh 104 = .ok (.if_icmp .ne 7, 3) := by decide +kernel
theorem dX1_weigh_107 : decode cX1_weigh 107 = .ok (.iconst 1, 1) := by decide +kernel
theorem dX1_weigh_108 : decode cX1_weigh 108 = .ok (.goto 4, 3) := by decide +kernel
theorem dX1_weigh_111 : decode cX1_weigh 111 = .ok (.iconst 0, 1) := by decide +kernel
theorem dX1_weigh_112 : decode cX1_weigh 112 = .ok (.ireturn, 1) := by decide +kernel
theorem dX1_heftBy_0 : decode cX1_heftBy 0 = .ok (.iload_n 1, 1) := by decide +kernel
theorem dX1_heftBy_1 : decode cX1_heftBy 1 = .ok (.ifCond .lt 9, 3) := by decide +kernel
theorem dX1_heftBy_4 : decode cX1_heftBy 4 = .ok (.iload_n 1, 1) := by decide +kernel
theorem dX1_heftBy_5 : decode cX1_heftBy 5 = .ok (.bipush 32, 2) := by decide +kernel
theorem dX1_heftBy_7 : decode cX1_heftBy 7 = .ok (.if_icmp .lt 5, 3) := by decide +kernel
theorem dX1_heftBy_10 : decode cX1_heftBy 10 = .ok (.iconst 1, 1) := by decide +kernel
theorem dX1_heftBy_11 : decode cX1_heftBy 11 = .ok (.ireturn, 1) := by decide +kernel
theorem dX1_heftBy_12 : decode cX1_heftBy 12 = .ok (.iconst 1, 1) := by decide +kernel
theorem dX1_heftBy_13 : decode cX1_heftBy 13 = .ok (.istore_n 2, 1) := by decide +kernel
theorem dX1_heftBy_14 : decode cX1_heftBy 14 = .ok (.iload_n 1, 1) := by decide +kernel
theorem dX1_heftBy_15 : decode cX1_heftBy 15 = .ok (.iconst 1, 1) := by decide +kernel
theorem dX1_heftBy_16 : decode cX1_heftBy 16 = .ok (.iadd, 1) := by decide +kernel
theorem dX1_heftBy_17 : decode cX1_heftBy 17 = .ok (.istore_n 3, 1) := by decide +kernel
theorem dX1_heftBy_18 : decode cX1_heftBy 18 = .ok (.iconst 0, 1) := by decide +kernel
theorem dX1_heftBy_19 : decode cX1_heftBy 19 = .ok (.istore 4, 2) := by decide +kernel
theorem dX1_heftBy_21 : decode cX1_heftBy 21 = .ok (.iload 4, 2) := by decide +kernel
theorem dX1_heftBy_23 : decode cX1_heftBy 23 = .ok (.aload_n 0, 1) := by decide +kernel
theorem dX1_heftBy_24 : decode cX1_heftBy 24 = .ok (.getfield 15, 3) := by decide +kernel
theorem dX1_heftBy_27 : decode cX1_heftBy 27 = .ok (.iload_n 1, 1) := by decide +kernel
theorem dX1_heftBy_28 : decode cX1_heftBy 28 = .ok (.iaload, 1) := by decide +kernel
theorem dX1_heftBy_29 : decode cX1_heftBy 29 = .ok (.if_icmp .ge 54, 3) := by decide +kernel
theorem dX1_heftBy_32 : decode cX1_heftBy 32 = .ok (.iload_n 3, 1) := by decide +kernel
theorem dX1_heftBy_33 : decode cX1_heftBy 33 = .ok (.bipush 32, 2) := by decide +kernel
theorem dX1_heftBy_35 : decode cX1_heftBy 35 = .ok (.if_icmp .ge 48, 3) := by decide +kernel
theorem dX1_heftBy_38 : decode cX1_heftBy 38 = .ok (.aload_n 0, 1) := by decide +kernel
theorem dX1_heftBy_39 : decode cX1_heftBy 39 = .ok (.getfield 30, 3) := by decide +kernel
theorem dX1_heftBy_42 : decode cX1_heftBy 42 = .ok (.aload_n 0, 1) := by decide +kernel
theorem dX1_heftBy_43 : decode cX1_heftBy 43 = .ok (.getfield 24, 3) := by decide +kernel
theorem dX1_heftBy_46 : decode cX1_heftBy 46 = .ok (.aload_n 0, 1) := by decide +kernel
theorem dX1_heftBy_47 : decode cX1_heftBy 47 = .ok (.getfield 21, 3) := by decide +kernel
theorem dX1_heftBy_50 : decode cX1_heftBy 50 = .ok (.iload_n 3, 1) := by decide +kernel
theorem dX1_heftBy_51 : decode cX1_heftBy 51 = .ok (.iaload, 1) := by decide +kernel
theorem dX1_heftBy_52 : decode cX1_heftBy 52 = .ok (.iaload, 1) := by decide +kernel
theorem dX1_heftBy_53 : decode cX1_heftBy 53 = .ok (.iaload, 1) := by decide +kernel
theorem dX1_heftBy_54 : decode cX1_heftBy 54 = .ok (.istore 5, 2) := by decide +kernel
theorem dX1_heftBy_56 : decode cX1_heftBy 56 = .ok (.iload 5, 2) := by decide +kernel
theorem dX1_heftBy_58 : decode cX1_heftBy 58 = .ok (.ifCond .ne 5, 3) := by decide +kernel
theorem dX1_heftBy_61 : decode cX1_heftBy 61 = .ok (.iconst 0, 1) := by decide +kernel
theorem dX1_heftBy_62 : decode cX1_heftBy 62 = .ok (.ireturn, 1) := by decide +kernel
theorem dX1_heftBy_63 : decode cX1_heftBy 63 = .ok (.iload_n 2, 1) := by decide +kernel
theorem dX1_heftBy_64 : decode cX1_heftBy 64 = .ok (.iload 5, 2) := by decide +kernel
theorem dX1_heftBy_66 : decode cX1_heftBy 66 = .ok (.iadd, 1) := by decide +kernel
theorem dX1_heftBy_67 : decode cX1_heftBy 67 = .ok (.istore_n 2, 1) := by decide +kernel
theorem dX1_heftBy_68 : decode cX1_heftBy 68 = .ok (.iload_n 3, 1) := by decide +kernel
theorem dX1_heftBy_69 : decode cX1_heftBy 69 = .ok (.aload_n 0, 1) := by decide +kernel
theorem dX1_heftBy_70 : decode cX1_heftBy 70 = .ok (.getfield 18, 3) := by decide +kernel
theorem dX1_heftBy_73 : decode cX1_heftBy 73 = .ok (.iload_n 3, 1) := by decide +kernel
theorem dX1_heftBy_74 : decode cX1_heftBy 74 = .ok (.iaload, 1) := by decide +kernel
theorem dX1_heftBy_75 : decode cX1_heftBy 75 = .ok (.iadd, 1) := by decide +kernel
theorem dX1_heftBy_76 : decode cX1_heftBy 76 = .ok (.istore_n 3, 1) := by decide +kernel
theorem dX1_heftBy_77 : decode cX1_heftBy 77 = .ok (.iinc 4 1, 3) := by decide +kernel
theorem dX1_heftBy_80 : decode cX1_heftBy 80 = .ok (.goto (-59), 3) := by decide +kernel
theorem dX1_heftBy_83 : decode cX1_heftBy 83 = .ok (.iload_n 2, 1) := by decide +kernel
theorem dX1_heftBy_84 : decode cX1_heftBy 84 = .ok (.sipush 1000, 3) := by decide +kernel
theorem dX1_heftBy_87 : decode cX1_heftBy 87 = .ok (.invokestatic 78, 3) := by decide +kernel
theorem dX1_heftBy_90 : decode cX1_heftBy 90 = .ok (.ireturn, 1) := by decide +kernel
theorem dX1_nodes_0 : decode cX1_nodes 0 = .ok (.aload_n 0, 1) := by decide +kernel
theorem dX1_nodes_1 : decode cX1_nodes 1 = .ok (.getfield 30, 3) := by decide +kernel
theorem dX1_nodes_4 : decode cX1_nodes 4 = .ok (.aload_n 0, 1) := by decide +kernel
theorem dX1_nodes_5 : decode cX1_nodes 5 = .ok (.getfield 24, 3) := by decide +kernel
theorem dX1_nodes_8 : decode cX1_nodes 8 = .ok (.iconst 0, 1) := by decide +kernel
theorem dX1_nodes_9 : decode cX1_nodes 9 = .ok (.iaload, 1) := by decide +kernel
theorem dX1_nodes_10 : decode cX1_nodes 10 = .ok (.iaload, 1) := by decide +kernel
theorem dX1_nodes_11 : decode cX1_nodes 11 = .ok (.ireturn, 1) := by decide +kernel
theorem dX1_placeOf_0 : decode cX1_placeOf 0 = .ok (.iconst 0, 1) := by decide +kernel
theorem dX1_placeOf_1 : decode cX1_placeOf 1 = .ok (.istore_n 2, 1) := by decide +kernel
theorem dX1_placeOf_2 : decode cX1_placeOf 2 = .ok (.iconst 0, 1) := by decide +kernel
theorem dX1_placeOf_3 : decode cX1_placeOf 3 = .ok (.istore_n 3, 1) := by decide +kernel
theorem dX1_placeOf_4 : decode cX1_placeOf 4 = .ok (.iload_n 3, 1) := by decide +kernel
theorem dX1_placeOf_5 : decode cX1_placeOf 5 = .ok (.iload_n 1, 1) := by decide +kernel
theorem dX1_placeOf_6 : decode cX1_placeOf 6 = .ok (.if_icmp .ge 50, 3) := by decide +kernel
theorem dX1_placeOf_9 : decode cX1_placeOf 9 = .ok (.iload_n 3, 1) := by decide +kernel
theorem dX1_placeOf_10 : decode cX1_placeOf 10 = .ok (.bipush 16, 2) := by decide +kernel
theorem dX1_placeOf_12 : decode cX1_placeOf 12 = .ok (.if_icmp .ge 44, 3) := by decide +kernel
theorem dX1_placeOf_15 : decode cX1_placeOf 15 = .ok (.iload_n 2, 1) := by decide +kernel
theorem dX1_placeOf_16 : decode cX1_placeOf 16 = .ok (.aload_n 0, 1) := by decide +kernel
theorem dX1_placeOf_17 : decode cX1_placeOf 17 = .ok (.getfield 11, 3) := by decide +kernel
theorem dX1_placeOf_20 : decode cX1_placeOf 20 = .ok (.iload_n 3, 1) := by decide +kernel
theorem dX1_placeOf_21 : decode cX1_placeOf 21 = .ok (.iaload, 1) := by decide +kernel
theorem dX1_placeOf_22 : decode cX1_placeOf 22 = .ok (.invokestatic 70, 3) := by decide +kernel
theorem dX1_placeOf_25 : decode cX1_placeOf 25 = .ok (.ifCond .eq 22, 3) := by decide +kernel
theorem dX1_placeOf_28 : decode cX1_placeOf 28 = .ok (.aload_n 0, 1) := by decide +kernel
theorem dX1_placeOf_29 : decode cX1_placeOf 29 = .ok (.getfield 30, 3) := by decide +kernel
theorem dX1_placeOf_32 : decode cX1_placeOf 32 = .ok (.aload_n 0, 1) := by decide +kernel
theorem dX1_placeOf_33 : decode cX1_placeOf 33 = .ok (.getfield 24, 3) := by decide +kernel
theorem dX1_placeOf_36 : decode cX1_placeOf 36 = .ok (.aload_n 0, 1) := by decide +kernel
theorem dX1_placeOf_37 : decode cX1_placeOf 37 = .ok (.getfield 21, 3) := by decide +kernel
theorem dX1_placeOf_40 : decode cX1_placeOf 40 = .ok (.iload_n 3, 1) := by decide +kernel
theorem dX1_placeOf_41 : decode cX1_placeOf 41 = .ok (.iaload, 1) := by decide +kernel
theorem dX1_placeOf_42 : decode cX1_placeOf 42 = .ok (.iaload, 1) := by decide +kernel
theorem dX1_placeOf_43 : decode cX1_placeOf 43 = .ok (.iaload, 1) := by decide +kernel
theorem dX1_placeOf_44 : decode cX1_placeOf 44 = .ok (.goto 4, 3) := by decide +kernel
theorem dX1_placeOf_47 : decode cX1_placeOf 47 = .ok (.iconst 1, 1) := by decide +kernel
theorem dX1_placeOf_48 : decode cX1_placeOf 48 = .ok (.iadd, 1) := by decide +kernel
theorem dX1_placeOf_49 : decode cX1_placeOf 49 = .ok (.istore_n 2, 1) := by decide +kernel
theorem dX1_placeOf_50 : decode cX1_placeOf 50 = .ok (.iinc 3 1, 3) := by decide +kernel
theorem dX1_placeOf_53 : decode cX1_placeOf 53 = .ok (.goto (-49), 3) := by decide +kernel
theorem dX1_placeOf_56 : decode cX1_placeOf 56 = .ok (.iload_n 2, 1) := by decide +kernel
theorem dX1_placeOf_57 : decode cX1_placeOf 57 = .ok (.ireturn, 1) := by decide +kernel
theorem dX1_write_0 : decode cX1_write 0 = .ok (.iconst 0, 1) := by decide +kernel
theorem dX1_write_1 : decode cX1_write 1 = .ok (.istore_n 2, 1) := by decide +kernel
theorem dX1_write_2 : decode cX1_write 2 = .ok (.iload_n 2, 1) := by decide +kernel
theorem dX1_write_3 : decode cX1_write 3 = .ok (.bipush 48, 2) := by decide +kernel
theorem dX1_write_5 : decode cX1_write 5 = .ok (.if_icmp .ge 16, 3) := by decide +kernel
theorem dX1_write_8 : decode cX1_write 8 = .ok (.aload_n 0, 1) := by decide +kernel
theorem dX1_write_9 : decode cX1_write 9 = .ok (.getfield 39, 3) := by decide +kernel
theorem dX1_write_12 : decode cX1_write 12 = .ok (.iload_n 2, 1) := by decide +kernel
theorem dX1_write_13 : decode cX1_write 13 = .ok (.iconst 0, 1) := by decide +kernel
theorem dX1_write_14 : decode cX1_write 14 = .ok (.iastore, 1) := by decide +kernel
theorem dX1_write_15 : decode cX1_write 15 = .ok (.iinc 2 1, 3) := by decide +kernel
theorem dX1_write_18 : decode cX1_write 18 = .ok (.goto (-16), 3) := by decide +kernel
theorem dX1_write_21 : decode cX1_write 21 = .ok (.iconst 0, 1) := by decide +kernel
theorem dX1_write_22 : decode cX1_write 22 = .ok (.istore_n 2, 1) := by decide +kernel
theorem dX1_write_23 : decode cX1_write 23 = .ok (.aload_n 1, 1) := by decide +kernel
theorem dX1_write_24 : decode cX1_write 24 = .ok (.iconst 0, 1) := by decide +kernel
theorem dX1_write_25 : decode cX1_write 25 = .ok (.putfield 62, 3) := by decide +kernel
theorem dX1_write_28 : decode cX1_write 28 = .ok (.aload_n 0, 1) := by decide +kernel
theorem dX1_write_29 : decode cX1_write 29 = .ok (.getfield 33, 3) := by decide +kernel
theorem dX1_write_32 : decode cX1_write 32 = .ok (.iconst 0, 1) := by decide +kernel
theorem dX1_write_33 : decode cX1_write 33 = .ok (.aload_n 0, 1) := by decide +kernel
theorem dX1_write_34 : decode cX1_write 34 = .ok (.getfield 24, 3) := by decide +kernel
theorem dX1_write_37 : decode cX1_write 37 = .ok (.iconst 0, 1) := by decide +kernel
theorem dX1_write_38 : decode cX1_write 38 = .ok (.iaload, 1) := by decide +kernel
theorem dX1_write_39 : decode cX1_write 39 = .ok (.iastore, 1) := by decide +kernel
theorem dX1_write_40 : decode cX1_write 40 = .ok (.aload_n 0, 1) := by decide +kernel
theorem dX1_write_41 : decode cX1_write 41 = .ok (.iconst 1, 1) := by decide +kernel
theorem dX1_write_42 : decode cX1_write 42 = .ok (.putfield 46, 3) := by decide +kernel
theorem dX1_write_45 : decode cX1_write 45 = .ok (.iconst 0, 1) := by decide +kernel
theorem dX1_write_46 : decode cX1_write 46 = .ok (.istore_n 3, 1) := by decide +kernel
theorem dX1_write_47 : decode cX1_write 47 = .ok (.iload_n 3, 1) := by decide +kernel
theorem dX1_write_48 : decode cX1_write 48 = .ok (.bipush 16, 2) := by decide +kernel
theorem dX1_write_50 : decode cX1_write 50 = .ok (.if_icmp .ge 111, 3) := by decide +kernel
theorem dX1_write_53 : decode cX1_write 53 = .ok (.aload_n 0, 1) := by decide +kernel
theorem dX1_write_54 : decode cX1_write 54 = .ok (.getfield 46, 3) := by decide +kernel
theorem dX1_write_57 : decode cX1_write 57 = .ok (.ifCond .le 104, 3) := by decide +kernel
theorem dX1_write_60 : decode cX1_write 60 = .ok (.aload_n 0, 1) := by decide +kernel
theorem dX1_write_61 : decode cX1_write 61 = .ok (.dup, 1) := by decide +kernel
theorem dX1_write_62 : decode cX1_write 62 = .ok (.getfield 46, 3) := by decide +kernel
theorem dX1_write_65 : decode cX1_write 65 = .ok (.iconst 1, 1) := by decide +kernel
theorem dX1_write_66 : decode cX1_write 66 = .ok (.isub, 1) := by decide +kernel
theorem dX1_write_67 : decode cX1_write 67 = .ok (.putfield 46, 3) := by decide +kernel
theorem dX1_write_70 : decode cX1_write 70 = .ok (.aload_n 0, 1) := by decide +kernel
theorem dX1_write_71 : decode cX1_write 71 = .ok (.getfield 33, 3) := by decide +kernel
theorem dX1_write_74 : decode cX1_write 74 = .ok (.aload_n 0, 1) := by decide +kernel
theorem dX1_write_75 : decode cX1_write 75 = .ok (.getfield 46, 3) := by decide +kernel
theorem dX1_write_78 : decode cX1_write 78 = .ok (.iaload, 1) := by decide +kernel
theorem dX1_write_79 : decode cX1_write 79 = .ok (.istore 4, 2) := by decide +kernel
theorem dX1_write_81 : decode cX1_write 81 = .ok (.aload_n 0, 1) := by decide +kernel
theorem dX1_write_82 : decode cX1_write 82 = .ok (.getfield 27, 3) := by decide +kernel
theorem dX1_write_85 : decode cX1_write 85 = .ok (.iload 4, 2) := by decide +kernel
theorem dX1_write_87 : decode cX1_write 87 = .ok (.iaload, 1) := by decide +kernel
theorem dX1_write_88 : decode cX1_write 88 = .ok (.istore 5, 2) := by decide +kernel
theorem dX1_write_90 : decode cX1_write 90 = .ok (.iload 5, 2) := by decide +kernel
theorem dX1_write_92 : decode cX1_write 92 = .ok (.ifCond .lt 30, 3) := by decide +kernel
theorem dX1_write_95 : decode cX1_write 95 = .ok (.aload_n 1, 1) := by decide +kernel
theorem dX1_write_96 : decode cX1_write 96 = .ok (.aload_n 0, 1) := by decide +kernel
theorem dX1_write_97 : decode cX1_write 97 = .ok (.getfield 11, 3) := by decide +kernel
theorem dX1_write_100 : decode cX1_write 100 = .ok (.iload 5, 2) := by decide +kernel
theorem dX1_write_102 : decode cX1_write 102 = .ok (.iaload, 1) := by decide +kernel
theorem dX1_write_103 : decode cX1_write 103 = .ok (.aload_n 0, 1) := by decide +kernel
theorem dX1_write_104 : decode cX1_write 104 = .ok (.getfield 15, 3) := by decide +kernel
theorem dX1_write_107 : decode cX1_write 107 = .ok (.iload 5, 2) := by decide +kernel
theorem dX1_write_109 : decode cX1_write 109 = .ok (.iaload, 1) := by decide +kernel
theorem dX1_write_110 : decode cX1_write 110 = .ok (.invokevirtual 84, 3) := by decide +kernel
theorem dX1_write_113 : decode cX1_write 113 = .ok (.aload_n 0, 1) := by decide +kernel
theorem dX1_write_114 : decode cX1_write 114 = .ok (.iload 5, 2) := by decide +kernel
theorem dX1_write_116 : decode cX1_write 116 = .ok (.invokevirtual 87, 3) := by decide +kernel
theorem dX1_write_119 : decode cX1_write 119 = .ok (.goto 36, 3) := by decide +kernel
theorem dX1_write_122 : decode cX1_write 122 = .ok (.aload_n 0, 1) := by decide +kernel
theorem dX1_write_123 : decode cX1_write 123 = .ok (.getfield 39, 3) := by decide +kernel
theorem dX1_write_126 : decode cX1_write 126 = .ok (.iload 4, 2) := by decide +kernel
theorem dX1_write_128 : decode cX1_write 128 = .ok (.iaload, 1) := by decide +kernel
theorem dX1_write_129 : decode cX1_write 129 = .ok (.ifCond .ne 14, 3) := by decide +kernel
theorem dX1_write_132 : decode cX1_write 132 = .ok (.iinc 2 1, 3) := by decide +kernel
theorem dX1_write_135 : decode cX1_write 135 = .ok (.aload_n 0, 1) := by decide +kernel
theorem dX1_write_136 : decode cX1_write 136 = .ok (.getfield 39, 3) := by decide +kernel
theorem dX1_write_139 : decode cX1_write 139 = .ok (.iload 4, 2) := by decide +kernel
theorem dX1_write_141 : decode cX1_write 141 = .ok (.iload_n 2, 1) := by decide +kernel
theorem dX1_write_142 : decode cX1_write 142 = .ok (.iastore, 1) := by decide +kernel
theorem dX1_write_143 : decode cX1_write 143 = .ok (.aload_n 1, 1) := by decide +kernel
theorem dX1_write_144 : decode cX1_write 144 = .ok (.aload_n 0, 1) := by decide +kernel
theorem dX1_write_145 : decode cX1_write 145 = .ok (.getfield 39, 3) := by decide +kernel
theorem dX1_write_148 : decode cX1_write 148 = .ok (.iload 4, 2) := by decide +kernel
theorem dX1_write_150 : decode cX1_write 150 = .ok (.iaload, 1) := by decide +kernel
theorem dX1_write_151 : decode cX1_write 151 = .ok (.iconst 0, 1) := by decide +kernel
theorem dX1_write_152 : decode cX1_write 152 = .ok (.invokevirtual 84, 3) := by decide +kernel
theorem dX1_write_155 : decode cX1_write 155 = .ok (.iinc 3 1, 3) := by decide +kernel
theorem dX1_write_158 : decode cX1_write 158 = .ok (.goto (-111), 3) := by decide +kernel
theorem dX1_write_161 : decode cX1_write 161 = .ok (.aload_n 1, 1) := by decide +kernel
theorem dX1_write_162 : decode cX1_write 162 = .ok (.invokevirtual 91, 3) := by decide +kernel
theorem dX1_write_165 : decode cX1_write 165 = .ok (.iload_n 2, 1) := by decide +kernel
theorem dX1_write_166 : decode cX1_write 166 = .ok (.ireturn, 1) := by decide +kernel
theorem dX1_awaitParts_0 : decode cX1_awaitParts 0 = .ok (.iload_n 1, 1) := by decide +kernel
theorem dX1_awaitParts_1 : decode cX1_awaitParts 1 = .ok (.iconst 1, 1) := by decide +kernel
theorem dX1_awaitParts_2 : decode cX1_awaitParts 2 = .ok (.iadd, 1) := by decide +kernel
theorem dX1_awaitParts_3 : decode cX1_awaitParts 3 = .ok (.istore_n 2, 1) := by decide +kernel
theorem dX1_awaitParts_4 : decode cX1_awaitParts 4 = .ok (.aload_n 0, 1) := by decide +kernel
theorem dX1_awaitParts_5 : decode cX1_awaitParts 5 = .ok (.getfield 46, 3) := by decide +kernel
theorem dX1_awaitParts_8 : decode cX1_awaitParts 8 = .ok (.aload_n 0, 1) := by decide +kernel
theorem dX1_awaitParts_9 : decode cX1_awaitParts 9 = .ok (.getfield 15, 3) := by decide +kernel
theorem dX1_awaitParts_12 : decode cX1_awaitParts 12 = .ok (.iload_n 1, 1) := by decide +kernel
theorem dX1_awaitParts_13 : decode cX1_awaitParts 13 = .ok (.iaload, 1) := by decide +kernel
theorem dX1_awaitParts_14 : decode cX1_awaitParts 14 = .ok (.iadd, 1) := by decide +kernel
theorem dX1_awaitParts_15 : decode cX1_awaitParts 15 = .ok (.istore_n 3, 1) := by decide +kernel
theorem dX1_awaitParts_16 : decode cX1_awaitParts 16 = .ok (.iconst 1, 1) := by decide +kernel
theorem dX1_awaitParts_17 : decode cX1_awaitParts 17 = .ok (.istore 4, 2) := by decide +kernel
theorem dX1_awaitParts_19 : decode cX1_awaitParts 19 = .ok (.iload 4, 2) := by decide +kernel
theorem dX1_awaitParts_21 : decode cX1_awaitParts 21 = .ok (.aload_n 0, 1) := by decide +kernel
theorem dX1_awaitParts_22 : decode cX1_awaitParts 22 = .ok (.getfield 15, 3) := by decide +kernel
theorem dX1_awaitParts_25 : decode cX1_awaitParts 25 = .ok (.iload_n 1, 1) := by decide +kernel
theorem dX1_awaitParts_26 : decode cX1_awaitParts 26 = .ok (.iaload, 1) := by decide +kernel
theorem dX1_awaitParts_27 : decode cX1_awaitParts 27 = .ok (.if_icmp .gt 50, 3) := by decide +kernel
theorem dX1_awaitParts_30 : decode cX1_awaitParts 30 = .ok (.iload_n 2, 1) := by decide +kernel
theorem dX1_awaitParts_31 : decode cX1_awaitParts 31 = .ok (.bipush 32, 2) := by decide +kernel
theorem dX1_awaitParts_33 : decode cX1_awaitParts 33 = .ok (.if_icmp .ge 44, 3) := by decide +kernel
theorem dX1_awaitParts_36 : decode cX1_awaitParts 36 = .ok (.iload_n 3, 1) := by decide +kernel
theorem dX1_awaitParts_37 : decode cX1_awaitParts 37 = .ok (.bipush 96, 2) := by decide +kernel
theorem dX1_awaitParts_39 : decode cX1_awaitParts 39 = .ok (.if_icmp .gt 38, 3) := by decide +kernel
theorem dX1_awaitParts_42 : decode cX1_awaitParts 42 = .ok (.aload_n 0, 1) := by decide +kernel
theorem dX1_awaitParts_43 : decode cX1_awaitParts 43 = .ok (.getfield 33, 3) := by decide +kernel
theorem dX1_awaitParts_46 : decode cX1_awaitParts 46 = .ok (.iload_n 3, 1) := by decide +kernel
theorem dX1_awaitParts_47 : decode cX1_awaitParts 47 = .ok (.iload 4, 2) := by decide +kernel
theorem dX1_awaitParts_49 : decode cX1_awaitParts 49 = .ok (.isub, 1) := by decide +kernel
theorem dX1_awaitParts_50 : decode cX1_awaitParts 50 = .ok (.aload_n 0, 1) := by decide +kernel
theorem dX1_awaitParts_51 : decode cX1_awaitParts 51 = .ok (.getfield 24, 3) := by decide +kernel
theorem dX1_awaitParts_54 : decode cX1_awaitParts 54 = .ok (.aload_n 0, 1) := by decide +kernel
theorem dX1_awaitParts_55 : decode cX1_awaitParts 55 = .ok (.getfield 21, 3) := by decide +kernel
theorem dX1_awaitParts_58 : decode cX1_awaitParts 58 = .ok (.iload_n 2, 1) := by decide +kernel
theorem dX1_awaitParts_59 : decode cX1_awaitParts 59 = .ok (.iaload, 1) := by decide +kernel
theorem dX1_awaitParts_60 : decode cX1_awaitParts 60 = .ok (.iaload, 1) := by decide +kernel
theorem dX1_awaitParts_61 : decode cX1_awaitParts 61 = .ok (.iastore, 1) := by decide +kernel
theorem dX1_awaitParts_62 : decode cX1_awaitParts 62 = .ok (.iload_n 2, 1) := by decide +kernel
theorem dX1_awaitParts_63 : decode cX1_awaitParts 63 = .ok (.aload_n 0, 1) := by decide +kernel
theorem dX1_awaitParts_64 : decode cX1_awaitParts 64 = .ok (.getfield 18, 3) := by decide +kernel
theorem dX1_awaitParts_67 : decode cX1_awaitParts 67 = .ok (.iload_n 2, 1) := by decide +kernel
theorem dX1_awaitParts_68 : decode cX1_awaitParts 68 = .ok (.iaload, 1) := by decide +kernel
theorem dX1_awaitParts_69 : decode cX1_awaitParts 69 = .ok (.iadd, 1) := by decide +kernel
theorem dX1_awaitParts_70 : decode cX1_awaitParts 70 = .ok (.istore_n 2, 1) := by decide +kernel
theorem dX1_awaitParts_71 : decode cX1_awaitParts 71 = .ok (.iinc 4 1, 3) := by decide +kernel
theorem dX1_awaitParts_74 : decode cX1_awaitParts 74 = .ok (.goto (-55), 3) := by decide +kernel
theorem dX1_awaitParts_77 : decode cX1_awaitParts 77 = .ok (.aload_n 0, 1) := by decide +kernel
theorem dX1_awaitParts_78 : decode cX1_awaitParts 78 = .ok (.iload_n 3, 1) := by decide +kernel
theorem dX1_awaitParts_79 : decode cX1_awaitParts 79 = .ok (.bipush 96, 2) := by decide +kernel
theorem dX1_awaitParts_81 : decode cX1_awaitParts 81 = .ok (.invokestatic 78, 3) := by decide +kernel
theorem dX1_awaitParts_84 : decode cX1_awaitParts 84 = .ok (.putfield 46, 3) := by decide +kernel
theorem dX1_awaitParts_87 : decode cX1_awaitParts 87 = .ok (.return_, 1) := by decide +kernel
theorem dX2_init_0 : decode cX2_init 0 = .ok (.aload_n 0, 1) := by decide +kernel
theorem dX2_init_1 : decode cX2_init 1 = .ok (.invokespecial 3, 3) := by decide +kernel
theorem dX2_init_4 : decode cX2_init 4 = .ok (.aload_n 0, 1) := by decide +kernel
theorem dX2_init_5 : decode cX2_init 5 = .ok (.iconst 3, 1) := by decide +kernel
theorem dX2_init_6 : decode cX2_init 6 = .ok (.newarray .int, 2) := by decide +kernel
theorem dX2_init_8 : decode cX2_init 8 = .ok (.dup, 1) := by decide +kernel
theorem dX2_init_9 : decode cX2_init 9 = .ok (.iconst 0, 1) := by decide +kernel
theorem dX2_init_10 : decode cX2_init 10 = .ok (.iconst 3, 1) := by decide +kernel
theorem dX2_init_11 : decode cX2_init 11 = .ok (.iastore, 1) := by decide +kernel
theorem dX2_init_12 : decode cX2_init 12 = .ok (.dup, 1) := by decide +kernel
theorem dX2_init_13 : decode cX2_init 13 = .ok (.iconst 1, 1) := by decide +kernel
theorem dX2_init_14 : decode cX2_init 14 = .ok (.iconst 3, 1) := by decide +kernel
theorem dX2_init_15 : decode cX2_init 15 = .ok (.iastore, 1) := by decide +kernel
theorem dX2_init_16 : decode cX2_init 16 = .ok (.dup, 1) := by decide +kernel
theorem dX2_init_17 : decode cX2_init 17 = .ok (.iconst 2, 1) := by decide +kernel
theorem dX2_init_18 : decode cX2_init 18 = .ok (.iconst 2, 1) := by decide +kernel
theorem dX2_init_19 : decode cX2_init 19 = .ok (.iastore, 1) := by decide +kernel
theorem dX2_init_20 : decode cX2_init 20 = .ok (.putfield 9, 3) := by decide +kernel
theorem dX2_init_23 : decode cX2_init 23 = .ok (.aload_n 0, 1) := by decide +kernel
theorem dX2_init_24 : decode cX2_init 24 = .ok (.bipush 16, 2) := by decide +kernel
theorem dX2_init_26 : decode cX2_init 26 = .ok (.newarray .int, 2) := by decide +kernel
theorem dX2_init_28 : decode cX2_init 28 = .ok (.putfield 15, 3) := by decide +kernel
theorem dX2_init_31 : decode cX2_init 31 = .ok (.aload_n 0, 1) := by decide +kernel
theorem dX2_init_32 : decode cX2_init 32 = .ok (.bipush 16, 2) := by decide +kernel
theorem dX2_init_34 : decode cX2_init 34 = .ok (.newarray .int, 2) := by decide +kernel
theorem dX2_init_36 : decode cX2_init 36 = .ok (.putfield 18, 3) := by decide +kernel
theorem dX2_init_39 : decode cX2_init 39 = .ok (.aload_n 0, 1) := by decide +kernel
theorem dX2_init_40 : decode cX2_init 40 = .ok (.sipush 289, 3) := by decide +kernel
theorem dX2_init_43 : decode cX2_init 43 = .ok (.newarray .long, 2) := by decide +kernel
theorem dX2_init_45 : decode cX2_init 45 = .ok (.putfield 21, 3) := by decide +kernel
theorem dX2_init_48 : decode cX2_init 48 = .ok (.aload_n 0, 1) := by decide +kernel
theorem dX2_init_49 : decode cX2_init 49 = .ok (.sipush 289, 3) := by decide +kernel
theorem dX2_init_52 : decode cX2_init 52 = .ok (.newarray .long, 2) := by decide +kernel
theorem dX2_init_54 : decode cX2_init 54 = .ok (.putfield 25, 3) := by decide +kernel
theorem dX2_init_57 : decode cX2_init 57 = .ok (.aload_n 0, 1) := by decide +kernel
theorem dX2_init_58 : decode cX2_init 58 = .ok (.sipush 289, 3) := by decide +kernel
theorem dX2_init_61 : decode cX2_init 61 = .ok (.newarray .long, 2) := by decide +kernel
theorem dX2_init_63 : decode cX2_init 63 = .ok (.putfield 28, 3) := by decide +kernel
theorem dX2_init_66 : decode cX2_init 66 = .ok (.aload_n 0, 1) := by decide +kernel
theorem dX2_init_67 : decode cX2_init 67 = .ok (.sipush 289, 3) := by decide +kernel
theorem dX2_init_70 : decode cX2_init 70 = .ok (.newarray .long, 2) := by decide +kernel
theorem dX2_init_72 : decode cX2_init 72 = .ok (.putfield 31, 3) := by decide +kernel
theorem dX2_init_75 : decode cX2_init 75 = .ok (.return_, 1) := by decide +kernel
theorem dX2_lead_0 : decode cX2_lead 0 = .ok (.aload_n 1, 1) := by decide +kernel
theorem dX2_lead_1 : decode cX2_lead 1 = .ok (.getfield 34, 3) := by decide +kernel
theorem dX2_lead_4 : decode cX2_lead 4 = .ok (.iconst 1, 1) := by decide +kernel
theorem dX2_lead_5 : decode cX2_lead 5 = .ok (.isub, 1) := by decide +kernel
theorem dX2_lead_6 : decode cX2_lead 6 = .ok (.istore_n 3, 1) := by decide +kernel
theorem dX2_lead_7 : decode cX2_lead 7 = .ok (.iload_n 3, 1) := by decide +kernel
theorem dX2_lead_8 : decode cX2_lead 8 = .ok (.ifCond .lt 54, 3) := by decide +kernel
theorem dX2_lead_11 : decode cX2_lead 11 = .ok (.aload_n 2, 1) := by decide +kernel
theorem dX2_lead_12 : decode cX2_lead 12 = .ok (.getfield 34, 3) := by decide +kernel
theorem dX2_lead_15 : decode cX2_lead 15 = .ok (.iconst 1, 1) := by decide +kernel
theorem dX2_lead_16 : decode cX2_lead 16 = .ok (.isub, 1) := by decide +kernel
theorem dX2_lead_17 : decode cX2_lead 17 = .ok (.istore 4, 2) := by decide +kernel
theorem dX2_lead_19 : decode cX2_lead 19 = .ok (.iload 4, 2) := by decide +kernel
theorem dX2_lead_21 : decode cX2_lead 21 = .ok (.ifCond .lt 35, 3) := by decide +kernel
theorem dX2_lead_24 : decode cX2_lead 24 = .ok (.aload_n 1, 1) := by decide +kernel
theorem dX2_lead_25 : decode cX2_lead 25 = .ok (.iload_n 3, 1) := by decide +kernel
theorem dX2_lead_26 : decode cX2_lead 26 = .ok (.invokestatic 40, 3) := by decide +kernel
theorem dX2_lead_29 : decode cX2_lead 29 = .ok (.ifCond .eq 21, 3) := by decide +kernel
theorem dX2_lead_32 : decode cX2_lead 32 = .ok (.aload_n 2, 1) := by decide +kernel
theorem dX2_lead_33 : decode cX2_lead 33 = .ok (.iload 4, 2) := by decide +kernel
theorem dX2_lead_35 : decode cX2_lead 35 = .ok (.invokestatic 40, 3) := by decide +kernel
theorem dX2_lead_38 : decode cX2_lead 38 = .ok (.ifCond .eq 12, 3) := by decide +kernel
theorem dX2_lead_41 : decode cX2_lead 41 = .ok (.aload_n 0, 1) := by decide +kernel
theorem dX2_lead_42 : decode cX2_lead 42 = .ok (.aload_n 1, 1) := by decide +kernel
theorem dX2_lead_43 : decode cX2_lead 43 = .ok (.iload_n 3, 1) := by decide +kernel
theorem dX2_lead_44 : decode cX2_lead 44 = .ok (.aload_n 2, 1) := by decide +kernel
theorem dX2_lead_45 : decode cX2_lead 45 = .ok (.iload 4, 2) := by decide +kernel
theorem dX2_lead_47 : decode cX2_lead 47 = .ok (.invokevirtual 44, 3) := by decide +kernel
theorem dX2_lead_50 : decode cX2_lead 50 = .ok (.iinc 4 (-1), 3) := by decide +kernel
theorem dX2_lead_53 : decode cX2_lead 53 = .ok (.goto (-34), 3) := by decide +kernel
theorem dX2_lead_56 : decode cX2_lead 56 = .ok (.iinc 3 (-1), 3) := by decide +kernel
theorem dX2_lead_59 : decode cX2_lead 59 = .ok (.goto (-52), 3) := by decide +kernel
theorem dX2_lead_62 : decode cX2_lead 62 = .ok (.aload_n 0, 1) := by decide +kernel
theorem dX2_lead_63 : decode cX2_lead 63 = .ok (.aload_n 1, 1) := by decide +kernel
theorem dX2_lead_64 : decode cX2_lead 64 = .ok (.aload_n 2, 1) := by decide +kernel
theorem dX2_lead_65 : decode cX2_lead 65 = .ok (.invokevirtual 48, 3) := by decide +kernel
theorem dX2_lead_68 : decode cX2_lead 68 = .ok (.return_, 1) := by decide +kernel
theorem dX2_endsAlone_0 : decode cX2_endsAlone 0 = .ok (.aload_n 0, 1) := by decide +kernel
theorem dX2_endsAlone_1 : decode cX2_endsAlone 1 = .ok (.getfield 52, 3) := by decide +kernel
theorem dX2_endsAlone_4 : decode cX2_endsAlone 4 = .ok (.iload_n 1, 1) := by decide +kernel
theorem dX2_endsAlone_5 : decode cX2_endsAlone 5 = .ok (.iaload, 1) := by decide +kernel
theorem dX2_endsAlone_6 : decode cX2_endsAlone 6 = .ok (.istore_n 2, 1) := by decide +kernel
theorem dX2_endsAlone_7 : decode cX2_endsAlone 7 = .ok (.aload_n 0, 1) := by decide +kernel
theorem dX2_endsAlone_8 : decode cX2_endsAlone 8 = .ok (.iload_n 2, 1) := by decide +kernel
theorem dX2_endsAlone_9 : decode cX2_endsAlone 9 = .ok (.invokevirtual 55, 3) := by decide +kernel
theorem dX2_endsAlone_12 : decode cX2_endsAlone 12 = .ok (.ifCond .eq 22, 3) := by decide +kernel
theorem dX2_endsAlone_15 : decode cX2_endsAlone 15 = .ok (.iload_n 1, 1) := by decide +kernel
theorem dX2_endsAlone_16 : decode cX2_endsAlone 16 = .ok (.aload_n 0, 1) := by decide +kernel
theorem dX2_endsAlone_17 : decode cX2_endsAlone 17 = .ok (.getfield 59, 3) := by decide +kernel
theorem dX2_endsAlone_20 : decode cX2_endsAlone 20 = .ok (.iload_n 1, 1) := by decide +kernel
theorem dX2_endsAlone_21 : decode cX2_endsAlone 21 = .ok (.iaload, 1) := by decide +kernel
theorem dX2_endsAlone_22 : decode cX2_endsAlone 22 = .ok (.iadd, 1) := by decide +kernel
theorem dX2_endsAlone_23 : decode cX2_endsAlone 23 = .ok (.iload_n 2, 1) := by decide +kernel
theorem dX2_endsAlone_24 : decode cX2_endsAlone 24 = .ok (.aload_n 0, 1) := by decide +kernel
theorem dX2_endsAlone_25 : decode cX2_endsAlone 25 = .ok (.getfield 59, 3) := by decide +kernel
theorem dX2_endsAlone_28 : decode cX2_endsAlone 28 = .ok (.iload_n 2, 1) := by decide +kernel
theorem dX2_endsAlone_29 : decode cX2_endsAlone 29 = .ok (.iaload, 1) := by decide +kernel
theorem dX2_endsAlone_30 : decode cX2_endsAlone 30 = .ok (.iadd, 1) := by decide +kernel
theorem dX2_endsAlone_31 : decode cX2_endsAlone 31 = .ok (.if_icmp .eq 7, 3) := by decide +kernel
theorem dX2_endsAlone_34 : decode cX2_endsAlone 34 = .ok (.iconst 1, 1) := by decide +kernel
theorem dX2_endsAlone_35 : decode cX2_endsAlone 35 = .ok (.goto 4, 3) := by decide +kernel
theorem dX2_endsAlone_38 : decode cX2_endsAlone 38 = .ok (.iconst 0, 1) := by decide +kernel
theorem dX2_endsAlone_39 : decode cX2_endsAlone 39 = .ok (.ireturn, 1) := by decide +kernel
theorem dX2_weigh_0 : decode cX2_weigh 0 = .ok (.iload_n 2, 1) := by decide +kernel
theorem dX2_weigh_1 : decode cX2_weigh 1 = .ok (.aload_n 1, 1) := by decide +kernel
theorem dX2_weigh_2 : decode cX2_weigh 2 = .ok (.getfield 59, 3) := by decide +kernel
theorem dX2_weigh_5 : decode cX2_weigh 5 = .ok (.iload_n 2, 1) := by decide +kernel
theorem dX2_weigh_6 : decode cX2_weigh 6 = .ok (.iaload, 1) := by decide +kernel
theorem dX2_weigh_7 : decode cX2_weigh 7 = .ok (.iadd, 1) := by decide +kernel
theorem dX2_weigh_8 : decode cX2_weigh 8 = .ok (.istore 5, 2) := by decide +kernel
theorem dX2_weigh_10 : decode cX2_weigh 10 = .ok (.iload 4, 2) := by decide +kernel
theorem dX2_weigh_12 : decode cX2_weigh 12 = .ok (.aload_n 3, 1) := by decide +kernel
theorem dX2_weigh_13 : decode cX2_weigh 13 = .ok (.getfield 59, 3) := by decide +kernel
theorem dX2_weigh_16 : decode cX2_weigh 16 = .ok (.iload 4, 2) := by decide +kernel
theorem dX2_weigh_18 : decode cX2_weigh 18 = .ok (.iaload, 1) := by decide +kernel
theorem dX2_weigh_19 : decode cX2_weigh 19 = .ok (.iadd, 1) := by decide +kernel
theorem dX2_weigh_20 : decode cX2_weigh 20 = .ok (.istore 6, 2) := by decide +kernel
theorem dX2_weigh_22 : decode cX2_weigh 22 = .ok (.aload_n 0, 1) := by decide +kernel
theorem dX2_weigh_23 : decode cX2_weigh 23 = .ok (.getfield 28, 3) := by decide +kernel
theorem dX2_weigh_26 : decode cX2_weigh 26 = .ok (.iload 5, 2) := by decide +kernel
theorem dX2_weigh_28 : decode cX2_weigh 28 = .ok (.bipush 17, 2) := by decide +kernel
theorem dX2_weigh_30 : decode cX2_weigh 30 = .ok (.imul, 1) := by decide +kernel
theorem dX2_weigh_31 : decode cX2_weigh 31 = .ok (.iload 6, 2) := by decide +kernel
theorem dX2_weigh_33 : decode cX2_weigh 33 = .ok (.iadd, 1) := by decide +kernel
theorem dX2_weigh_34 : decode cX2_weigh 34 = .ok (.lconst 0, 1) := by decide +kernel
theorem dX2_weigh_35 : decode cX2_weigh 35 = .ok (.lastore, 1) := by decide +kernel
theorem dX2_weigh_36 : decode cX2_weigh 36 = .ok (.aload_n 0, 1) := by decide +kernel
theorem dX2_weigh_37 : decode cX2_weigh 37 = .ok (.getfield 31, 3) := by decide +kernel
theorem dX2_weigh_40 : decode cX2_weigh 40 = .ok (.iload 5, 2) := by decide +kernel
theorem dX2_weigh_42 : decode cX2_weigh 42 = .ok (.bipush 17, 2) := by decide +kernel
theorem dX2_weigh_44 : decode cX2_weigh 44 = .ok (.imul, 1) := by decide +kernel
theorem dX2_weigh_45 : decode cX2_weigh 45 = .ok (.iload 6, 2) := by decide +kernel
theorem dX2_weigh_47 : decode cX2_weigh 47 = .ok (.iadd, 1) := by decide +kernel
theorem dX2_weigh_48 : decode cX2_weigh 48 = .ok (.lconst 0, 1) := by decide +kernel
theorem dX2_weigh_49 : decode cX2_weigh 49 = .ok (.lastore, 1) := by decide +kernel
theorem dX2_weigh_50 : decode cX2_weigh 50 = .ok (.iload 5, 2) := by decide +kernel
theorem dX2_weigh_52 : decode cX2_weigh 52 = .ok (.iconst 1, 1) := by decide +kernel
theorem dX2_weigh_53 : decode cX2_weigh 53 = .ok (.isub, 1) := by decide +kernel
theorem dX2_weigh_54 : decode cX2_weigh 54 = .ok (.istore 7, 2) := by decide +kernel
theorem dX2_weigh_56 : decode cX2_weigh 56 = .ok (.iload 7, 2) := by decide +kernel
theorem dX2_weigh_58 : decode cX2_weigh 58 = .ok (.iload_n 2, 1) := by decide +kernel
theorem dX2_weigh_59 : decode cX2_weigh 59 = .ok (.if_icmp .lt 29, 3) := by decide +kernel
theorem dX2_weigh_62 : decode cX2_weigh 62 = .ok (.aload_n 0, 1) := by decide +kernel
theorem dX2_weigh_63 : decode cX2_weigh 63 = .ok (.invokevirtual 62, 3) := by decide +kernel
theorem dX2_weigh_66 : decode cX2_weigh 66 = .ok (.aload_n 0, 1) := by decide +kernel
theorem dX2_weigh_67 : decode cX2_weigh 67 = .ok (.iload 7, 2) := by decide +kernel
theorem dX2_weigh_69 : decode cX2_weigh 69 = .ok (.iload 6, 2) := by decide +kernel
theorem dX2_weigh_71 : decode cX2_weigh 71 = .ok (.invokevirtual 65, 3) := by decide +kernel
theorem dX2_weigh_74 : decode cX2_weigh 74 = .ok (.aload_n 0, 1) := by decide +kernel
theorem dX2_weigh_75 : decode cX2_weigh 75 = .ok (.iload 7, 2) := by decide +kernel
theorem dX2_weigh_77 : decode cX2_weigh 77 = .ok (.iload 6, 2) := by decide +kernel
theorem dX2_weigh_79 : decode cX2_weigh 79 = .ok (.invokevirtual 69, 3) := by decide +kernel
theorem dX2_weigh_82 : decode cX2_weigh 82 = .ok (.iinc 7 (-1), 3) := by decide +kernel
theorem dX2_weigh_85 : decode cX2_weigh 85 = .ok (.goto (-29), 3) := by decide +kernel
theorem dX2_weigh_88 : decode cX2_weigh 88 = .ok (.iload 6, 2) := by decide +kernel
theorem dX2_weigh_90 : decode cX2_weigh 90 = .ok (.iconst 1, 1) := by decide +kernel
theorem dX2_weigh_91 : decode cX2_weigh 91 = .ok (.isub, 1) := by decide +kernel
theorem dX2_weigh_92 : decode cX2_weigh 92 = .ok (.istore 7, 2) := by decide +kernel
theorem dX2_weigh_94 : decode cX2_weigh 94 = .ok (.iload 7, 2) := by decide +kernel
theorem dX2_weigh_96 : decode cX2_weigh 96 = .ok (.iload 4, 2) := by decide +kernel
theorem dX2_weigh_98 : decode cX2_weigh 98 = .ok (.if_icmp .lt 29, 3) := by decide +kernel
theorem dX2_weigh_101 : decode cX2_weigh 101 = .ok (.aload_n 0, 1) := by decide +kernel
theorem dX2_weigh_102 : decode cX2_weigh 102 = .ok (.invokevirtual 62, 3) := by decide +kernel
theorem dX2_weigh_105 : decode cX2_weigh 105 = .ok (.aload_n 0, 1) := by decide +kernel
theorem dX2_weigh_106 : decode cX2_weigh 106 = .ok (.iload 5, 2) := by decide +kernel
theorem dX2_weigh_108 : decode cX2_weigh 108 = .ok (.iload 7, 2) := by decide +kernel
theorem dX2_weigh_110 : decode cX2_weigh 110 = .ok (.invokevirtual 72, 3) := by decide +kernel
theorem dX2_weigh_113 : decode cX2_weigh 113 = .ok (.aload_n 0, 1) := by decide +kernel
theorem dX2_weigh_114 : decode cX2_weigh 114 = .ok (.iload 5, 2) := by decide +kernel
theorem dX2_weigh_116 : decode cX2_weigh 116 = .ok (.iload 7, 2) := by decide +kernel
theorem dX2_weigh_118 : decode cX2_weigh 118 = .ok (.invokevirtual 69, 3) := by decide +kernel
theorem dX2_weigh_121 : decode cX2_weigh 121 = .ok (.iinc 7 (-1), 3) := by decide +kernel
theorem dX2_weigh_124 : decode cX2_weigh 124 = .ok (.goto (-30), 3) := by decide +kernel
theorem dX2_weigh_127 : decode cX2_weigh 127 = .ok (.iload 5, 2) := by decide +kernel
theorem dX2_weigh_129 : decode cX2_weigh 129 = .ok (.iconst 1, 1) := by decide +kernel
theorem dX2_weigh_130 : decode cX2_weigh 130 = .ok (.isub, 1) := by decide +kernel
theorem dX2_weigh_131 : decode cX2_weigh 131 = .ok (.istore 7, 2) := by decide +kernel
theorem dX2_weigh_133 : decode cX2_weigh 133 = .ok (.iload 7, 2) := by decide +kernel
theorem dX2_weigh_135 : decode cX2_weigh 135 = .ok (.iload_n 2, 1) := by decide +kernel
theorem dX2_weigh_136 : decode cX2_weigh 136 = .ok (.if_icmp .lt 42, 3) := by decide +kernel
theorem dX2_weigh_139 : decode cX2_weigh 139 = .ok (.iload 6, 2) := by decide +kernel
theorem dX2_weigh_141 : decode cX2_weigh 141 = .ok (.iconst 1, 1) := by decide +kernel
theorem dX2_weigh_142 : decode cX2_weigh 142 = .ok (.isub, 1) := by decide +kernel
theorem dX2_weigh_143 : decode cX2_weigh 143 = .ok (.istore 8, 2) := by decide +kernel
theorem dX2_weigh_145 : decode cX2_weigh 145 = .ok (.iload 8, 2) := by decide +kernel
theorem dX2_weigh_147 : decode cX2_weigh 147 = .ok (.iload 4, 2) := by decide +kernel
theorem dX2_weigh_149 : decode cX2_weigh 149 = .ok (.if_icmp .lt 23, 3) := by decide +kernel
theorem dX2_weigh_152 : decode cX2_weigh 152 = .ok (.aload_n 0, 1) := by decide +kernel
theorem dX2_weigh_153 : decode cX2_weigh 153 = .ok (.aload_n 1, 1) := by decide +kernel
theorem dX2_weigh_154 : decode cX2_weigh 154 = .ok (.iload 7, 2) := by decide +kernel
theorem dX2_weigh_156 : decode cX2_weigh 156 = .ok (.iload 5, 2) := by decide +kernel
theorem dX2_weigh_158 : decode cX2_weigh 158 = .ok (.aload_n 3, 1) := by decide +kernel
theorem dX2_weigh_159 : decode cX2_weigh 159 = .ok (.iload 8, 2) := by decide +kernel
theorem dX2_weigh_161 : decode cX2_weigh 161 = .ok (.iload 6, 2) := by decide +kernel
theorem dX2_weigh_163 : decode cX2_weigh 163 = .ok (.invokevirtual 75, 3) := by decide +kernel
theorem dX2_weigh_166 : decode cX2_weigh 166 = .ok (.iinc 8 (-1), 3) := by decide +kernel
theorem dX2_weigh_169 : decode cX2_weigh 169 = .ok (.goto (-24), 3) := by decide +kernel
theorem dX2_weigh_172 : decode cX2_weigh 172 = .ok (.iinc 7 (-1), 3) := by decide +kernel
theorem dX2_weigh_175 : decode cX2_weigh 175 = .ok (.goto (-42), 3) := by decide +kernel
theorem dX2_weigh_178 : decode cX2_weigh 178 = .ok (.return_, 1) := by decide +kernel
theorem dX2_weighPair_0 : decode cX2_weighPair 0 = .ok (.iload_n 2, 1) := by decide +kernel
theorem dX2_weighPair_1 : decode cX2_weighPair 1 = .ok (.aload_n 1, 1) := by decide +kernel
theorem dX2_weighPair_2 : decode cX2_weighPair 2 = .ok (.getfield 59, 3) := by decide +kernel
theorem dX2_weighPair_5 : decode cX2_weighPair 5 = .ok (.iload_n 2, 1) := by decide +kernel
theorem dX2_weighPair_6 : decode cX2_weighPair 6 = .ok (.iaload, 1) := by decide +kernel
theorem dX2_weighPair_7 : decode cX2_weighPair 7 = .ok (.iadd, 1) := by decide +kernel
theorem dX2_weighPair_8 : decode cX2_weighPair 8 = .ok (.istore 7, 2) := by decide +kernel
theorem dX2_weighPair_10 : decode cX2_weighPair 10 = .ok (.iload 5, 2) := by decide +kernel
theorem dX2_weighPair_12 : decode cX2_weighPair 12 = .ok (.aload 4, 2) := by decide +kernel
theorem dX2_weighPair_14 : decode cX2_weighPair 14 = .ok (.getfield 59, 3) := by decide +kernel
theorem dX2_weighPair_17 : decode cX2_weighPair 17 = .ok (.iload 5, 2) := by decide +kernel
theorem dX2_weighPair_19 : decode cX2_weighPair 19 = .ok (.iaload, 1) := by decide +kernel
theorem dX2_weighPair_20 : decode cX2_weighPair 20 = .ok (.iadd, 1) := by decide +kernel
theorem dX2_weighPair_21 : decode cX2_weighPair 21 = .ok (.istore 8, 2) := by decide +kernel
theorem dX2_weighPair_23 : decode cX2_weighPair 23 = .ok (.aload_n 0, 1) := by decide +kernel
theorem dX2_weighPair_24 : decode cX2_weighPair 24 = .ok (.invokevirtual 62, 3) := by decide +kernel
theorem dX2_weighPair_27 : decode cX2_weighPair 27 = .ok (.aload_n 0, 1) := by decide +kernel
theorem dX2_weighPair_28 : decode cX2_weighPair 28 = .ok (.iload_n 2, 1) := by decide +kernel
theorem dX2_weighPair_29 : decode cX2_weighPair 29 = .ok (.iload 5, 2) := by decide +kernel
theorem dX2_weighPair_31 : decode cX2_weighPair 31 = .ok (.invokevirtual 65, 3) := by decide +kernel
theorem dX2_weighPair_34 : decode cX2_weighPair 34 = .ok (.aload_n 0, 1) := by decide +kernel
theorem dX2_weighPair_35 : decode cX2_weighPair 35 = .ok (.iload_n 2, 1) := by decide +kernel
theorem dX2_weighPair_36 : decode cX2_weighPair 36 = .ok (.iload 5, 2) := by decide +kernel
theorem dX2_weighPair_38 : decode cX2_weighPair 38 = .ok (.invokevirtual 72, 3) := by decide +kernel
theorem dX2_weighPair_41 : decode cX2_weighPair 41 = .ok (.iload 7, 2) := by decide +kernel
theorem dX2_weighPair_43 : decode cX2_weighPair 43 = .ok (.iload_n 3, 1) := by decide +kernel
theorem dX2_weighPair_44 : decode cX2_weighPair 44 = .ok (.if_icmp .ne 121, 3) := by decide +kernel
theorem dX2_weighPair_47 : decode cX2_weighPair 47 = .ok (.iload 8, 2) := by decide +kernel
theorem dX2_weighPair_49 : decode cX2_weighPair 49 = .ok (.iload 6, 2) := by decide +kernel
theorem dX2_weighPair_51 : decode cX2_weighPair 51 = .ok (.if_icmp .ne 114, 3) := by decide +kernel
theorem dX2_weighPair_54 : decode cX2_weighPair 54 = .ok (.iload_n 2, 1) := by decide +kernel
theorem dX2_weighPair_55 : decode cX2_weighPair 55 = .ok (.iconst 1, 1) := by decide +kernel
theorem dX2_weighPair_56 : decode cX2_weighPair 56 = .ok (.iadd, 1) := by decide +kernel
theorem dX2_weighPair_57 : decode cX2_weighPair 57 = .ok (.bipush 17, 2) := by decide +kernel
theorem dX2_weighPair_59 : decode cX2_weighPair 59 = .ok (.imul, 1) := by decide +kernel
theorem dX2_weighPair_60 : decode cX2_weighPair 60 = .ok (.iload 5, 2) := by decide +kernel
theorem dX2_weighPair_62 : decode cX2_weighPair 62 = .ok (.iadd, 1) := by decide +kernel
theorem dX2_weighPair_63 : decode cX2_weighPair 63 = .ok (.iconst 1, 1) := by decide +kernel
theorem dX2_weighPair_64 : decode cX2_weighPair 64 = .ok (.iadd, 1) := by decide +kernel
theorem dX2_weighPair_65 : decode cX2_weighPair 65 = .ok (.istore 9, 2) := by decide +kernel
theorem dX2_weighPair_67 : decode cX2_weighPair 67 = .ok (.aload_n 1, 1) := by decide +kernel
theorem dX2_weighPair_68 : decode cX2_weighPair 68 = .ok (.getfield 79, 3) := by decide +kernel
theorem dX2_weighPair_71 : decode cX2_weighPair 71 = .ok (.iload_n 2, 1) := by decide +kernel
theorem dX2_weighPair_72 : decode cX2_weighPair 72 = .ok (.iaload, 1) := by decide +kernel
theorem dX2_weighPair_73 : decode cX2_weighPair 73 = .ok (.aload 4, 2) := by decide +kernel
theorem dX2_weighPair_75 : decode cX2_weighPair 75 = .ok (.getfield 79, 3) := by decide +kernel
theorem dX2_weighPair_78 : decode cX2_weighPair 78 = .ok (.iload 5, 2) := by decide +kernel
theorem dX2_weighPair_80 : decode cX2_weighPair 80 = .ok (.iaload, 1) := by decide +kernel
theorem dX2_weighPair_81 : decode cX2_weighPair 81 = .ok (.if_icmp .ne 7, 3) := by decide +kernel
theorem dX2_weighPair_84 : decode cX2_weighPair 84 = .ok (.iconst 0, 1) := by decide +kernel
theorem dX2_weighPair_85 : decode cX2_weighPair 85 = .ok (.goto 9, 3) := by decide +kernel
theorem dX2_weighPair_88 : decode cX2_weighPair 88 = .ok (.aload_n 0, 1) := by decide +kernel
theorem dX2_weighPair_89 : decode cX2_weighPair 89 = .ok (.getfield 9, 3) := by decide +kernel
theorem dX2_weighPair_92 : decode cX2_weighPair 92 = .ok (.iconst 2, 1) := by decide +kernel
theorem dX2_weighPair_93 : decode cX2_weighPair 93 = .ok (.iaload, 1) := by decide +kernel
theorem dX2_weighPair_94 : decode cX2_weighPair 94 = .ok (.istore 10, 2) := by decide +kernel
theorem dX2_weighPair_96 : decode cX2_weighPair 96 = .ok (.aload_n 0, 1) := by decide +kernel
theorem dX2_weighPair_97 : decode cX2_weighPair 97 = .ok (.aload_n 0, 1) := by decide +kernel
theorem dX2_weighPair_98 : decode cX2_weighPair 98 = .ok (.getfield 28, 3) := by decide +kernel
theorem dX2_weighPair_101 : decode cX2_weighPair 101 = .ok (.iload 9, 2) := by decide +kernel
theorem dX2_weighPair_103 : decode cX2_weighPair 103 = .ok (.laload, 1) := by decide +kernel
theorem dX2_weighPair_104 : decode cX2_weighPair 104 = .ok (.iload 10, 2) := by decide +kernel
theorem dX2_weighPair_106 : decode cX2_weighPair 106 = .ok (.iload_n 2, 1) := by decide +kernel
theorem dX2_weighPair_107 : decode cX2_weighPair 107 = .ok (.iload 5, 2) := by decide +kernel
theorem dX2_weighPair_109 : decode cX2_weighPair 109 = .ok (.invokestatic 82, 3) := by decide +kernel
theorem dX2_weighPair_112 : decode cX2_weighPair 112 = .ok (.ladd, 1) := by decide +kernel
theorem dX2_weighPair_113 : decode cX2_weighPair 113 = .ok (.aload_n 0, 1) := by decide +kernel
theorem dX2_weighPair_114 : decode cX2_weighPair 114 = .ok (.getfield 31, 3) := by decide +kernel
theorem dX2_weighPair_117 : decode cX2_weighPair 117 = .ok (.iload 9, 2) := by decide +kernel
theorem dX2_weighPair_119 : decode cX2_weighPair 119 = .ok (.laload, 1) := by decide +kernel
theorem dX2_weighPair_120 : decode cX2_weighPair 120 = .ok (.iload_n 2, 1) := by decide +kernel
theorem dX2_weighPair_121 : decode cX2_weighPair 121 = .ok (.iload 5, 2) := by decide +kernel
theorem dX2_weighPair_123 : decode cX2_weighPair 123 = .ok (.invokestatic 86, 3) := by decide +kernel
theorem dX2_weighPair_126 : decode cX2_weighPair 126 = .ok (.ladd, 1) := by decide +kernel
theorem dX2_weighPair_127 : decode cX2_weighPair 127 = .ok (.invokevirtual 90, 3) := by decide +kernel
theorem dX2_weighPair_130 : decode cX2_weighPair 130 = .ok (.aload_n 0, 1) := by decide +kernel
theorem dX2_weighPair_131 : decode cX2_weighPair 131 = .ok (.getfield 21, 3) := by decide +kernel
theorem dX2_weighPair_134 : decode cX2_weighPair 134 = .ok (.iload_n 2, 1) := by decide +kernel
theorem dX2_weighPair_135 : decode cX2_weighPair 135 = .ok (.bipush 17, 2) := by decide +kernel
theorem dX2_weighPair_137 : decode cX2_weighPair 137 = .ok (.imul, 1) := by decide +kernel
theorem dX2_weighPair_138 : decode cX2_weighPair 138 = .ok (.iload 5, 2) := by decide +kernel
theorem dX2_weighPair_140 : decode cX2_weighPair 140 = .ok (.iadd, 1) := by decide +kernel
theorem dX2_weighPair_141 : decode cX2_weighPair 141 = .ok (.aload_n 0, 1) := by decide +kernel
theorem dX2_weighPair_142 : decode cX2_weighPair 142 = .ok (.getfield 94, 3) := by decide +kernel
theorem dX2_weighPair_145 : decode cX2_weighPair 145 = .ok (.lastore, 1) := by decide +kernel
theorem dX2_weighPair_146 : decode cX2_weighPair 146 = .ok (.aload_n 0, 1) := by decide +kernel
theorem dX2_weighPair_147 : decode cX2_weighPair 147 = .ok (.getfield 25, 3) := by decide +kernel
theorem dX2_weighPair_150 : decode cX2_weighPair 150 = .ok (.iload_n 2, 1) := by decide +kernel
theorem dX2_weighPair_151 : decode cX2_weighPair 151 = .ok (.bipush 17, 2) := by decide +kernel
theorem dX2_weighPair_153 : decode cX2_weighPair 153 = .ok (.imul, 1) := by decide +kernel
theorem dX2_weighPair_154 : decode cX2_weighPair 154 = .ok (.iload 5, 2) := by decide +kernel
theorem dX2_weighPair_156 : decode cX2_weighPair 156 = .ok (.iadd, 1) := by decide +kernel
theorem dX2_weighPair_157 : decode cX2_weighPair 157 = .ok (.aload_n 0, 1) := by decide +kernel
theorem dX2_weighPair_158 : decode cX2_weighPair 158 = .ok (.getfield 98, 3) := by decide +kernel
theorem dX2_weighPair_161 : decode cX2_weighPair 161 = .ok (.lastore, 1) := by decide +kernel
theorem dX2_weighPair_162 : decode cX2_weighPair 162 = .ok (.goto 56, 3) := by decide +kernel
theorem dX2_weighPair_165 : decode cX2_weighPair 165 = .ok (.iload 7, 2) := by decide +kernel
theorem dX2_weighPair_167 : decode cX2_weighPair 167 = .ok (.bipush 17, 2) := by decide +kernel
theorem dX2_weighPair_169 : decode cX2_weighPair 169 = .ok (.imul, 1) := by decide +kernel
theorem dX2_weighPair_170 : decode cX2_weighPair 170 = .ok (.iload 8, 2) := by decide +kernel
theorem dX2_weighPair_172 : decode cX2_weighPair 172 = .ok (.iadd, 1) := by decide +kernel
theorem dX2_weighPair_173 : decode cX2_weighPair 173 = .ok (.istore 9, 2) := by decide +kernel
theorem dX2_weighPair_175 : decode cX2_weighPair 175 = .ok (.iload_n 2, 1) := by decide +kernel
theorem dX2_weighPair_176 : decode cX2_weighPair 176 = .ok (.bipush 17, 2) := by decide +kernel
theorem dX2_weighPair_178 : decode cX2_weighPair 178 = .ok (.imul, 1) := by decide +kernel
theorem dX2_weighPair_179 : decode cX2_weighPair 179 = .ok (.iload 5, 2) := by decide +kernel
theorem dX2_weighPair_181 : decode cX2_weighPair 181 = .ok (.iadd, 1) := by decide +kernel
theorem dX2_weighPair_182 : decode cX2_weighPair 182 = .ok (.istore 10, 2) := by decide +kernel
theorem dX2_weighPair_184 : decode cX2_weighPair 184 = .ok (.aload_n 0, 1) := by decide +kernel
theorem dX2_weighPair_185 : decode cX2_weighPair 185 = .ok (.aload_n 0, 1) := by decide +kernel
theorem dX2_weighPair_186 : decode cX2_weighPair 186 = .ok (.getfield 28, 3) := by decide +kernel
theorem dX2_weighPair_189 : decode cX2_weighPair 189 = .ok (.iload 9, 2) := by decide +kernel
theorem dX2_weighPair_191 : decode cX2_weighPair 191 = .ok (.laload, 1) := by decide +kernel
theorem dX2_weighPair_192 : decode cX2_weighPair 192 = .ok (.aload_n 0, 1) := by decide +kernel
theorem dX2_weighPair_193 : decode cX2_weighPair 193 = .ok (.getfield 21, 3) := by decide +kernel
theorem dX2_weighPair_196 : decode cX2_weighPair 196 = .ok (.iload 10, 2) := by decide +kernel
theorem dX2_weighPair_198 : decode cX2_weighPair 198 = .ok (.laload, 1) := by decide +kernel
theorem dX2_weighPair_199 : decode cX2_weighPair 199 = .ok (.ladd, 1) := by decide +kernel
theorem dX2_weighPair_200 : decode cX2_weighPair 200 = .ok (.aload_n 0, 1) := by decide +kernel
theorem dX2_weighPair_201 : decode cX2_weighPair 201 = .ok (.getfield 31, 3) := by decide +kernel
theorem dX2_weighPair_204 : decode cX2_weighPair 204 = .ok (.iload 9, 2) := by decide +kernel
theorem dX2_weighPair_206 : decode cX2_weighPair 206 = .ok (.laload, 1) := by decide +kernel
theorem dX2_weighPair_207 : decode cX2_weighPair 207 = .ok (.aload_n 0, 1) := by decide +kernel
theorem dX2_weighPair_208 : decode cX2_weighPair 208 = .ok (.getfield 25, 3) := by decide +kernel
theorem dX2_weighPair_211 : decode cX2_weighPair 211 = .ok (.iload 10, 2) := by decide +kernel
theorem dX2_weighPair_213 : decode cX2_weighPair 213 = .ok (.laload, 1) := by decide +kernel
theorem dX2_weighPair_214 : decode cX2_weighPair 214 = .ok (.ladd, 1) := by decide +kernel
theorem dX2_weighPair_215 : decode cX2_weighPair 215 = .ok (.invokevirtual 90, 3) := by decide +kernel
theorem dX2_weighPair_218 : decode cX2_weighPair 218 = .ok (.aload_n 0, 1) := by decide +kernel
theorem dX2_weighPair_219 : decode cX2_weighPair 219 = .ok (.iload_n 2, 1) := by decide +kernel
theorem dX2_weighPair_220 : decode cX2_weighPair 220 = .ok (.iload 5, 2) := by decide +kernel
theorem dX2_weighPair_222 : decode cX2_weighPair 222 = .ok (.invokevirtual 69, 3) := by decide +kernel
theorem dX2_weighPair_225 : decode cX2_weighPair 225 = .ok (.return_, 1) := by decide +kernel
theorem dX2_startOver_0 : decode cX2_startOver 0 = .ok (.aload_n 0, 1) := by decide +kernel
theorem dX2_startOver_1 : decode cX2_startOver 1 = .ok (.ldc2_w 101, 3) := by decide +kernel
theorem dX2_startOver_4 : decode cX2_startOver 4 = .ok (.putfield 94, 3) := by decide +kernel
theorem dX2_startOver_7 : decode cX2_startOver 7 = .ok (.aload_n 0, 1) := by decide +kernel
theorem dX2_startOver_8 : decode cX2_startOver 8 = .ok (.ldc2_w 101, 3) := by decide +kernel
theorem dX2_startOver_11 : decode cX2_startOver 11 = .ok (.putfield 98, 3) := by decide +kernel
theorem dX2_startOver_14 : decode cX2_startOver 14 = .ok (.return_, 1) := by decide +kernel
theorem dX2_offer_0 : decode cX2_offer 0 = .ok (.lload_n 1, 1) := by decide +kernel
theorem dX2_offer_1 : decode cX2_offer 1 = .ok (.aload_n 0, 1) := by decide +kernel
theorem dX2_offer_2 : decode cX2_offer 2 = .ok (.getfield 94, 3) := by decide +kernel
theorem dX2_offer_5 : decode cX2_offer 5 = .ok (.lcmp, 1) := by decide +kernel
theorem dX2_offer_6 : decode cX2_offer 6 = .ok (.ifCond .lt 21, 3) := by decide +kernel
theorem dX2_offer_9 : decode cX2_offer 9 = .ok (.lload_n 1, 1) := by decide +kernel
theorem dX2_offer_10 : decode cX2_offer 10 = .ok (.aload_n 0, 1) := by decide +kernel
theorem dX2_offer_11 : decode cX2_offer 11 = .ok (.getfield 94, 3) := by decide +kernel
theorem dX2_offer_14 : decode cX2_offer 14 = .ok (.lcmp, 1) := by decide +kernel
theorem dX2_offer_15 : decode cX2_offer 15 = .ok (.ifCond .ne 22, 3) := by decide +kernel
theorem dX2_offer_18 : decode cX2_offer 18 = .ok (.lload_n 3, 1) := by decide +kernel
theorem dX2_offer_19 : decode cX2_offer 19 = .ok (.aload_n 0, 1) := by decide +kernel
theorem dX2_offer_20 : decode cX2_offer 20 = .ok (.getfield 98, 3) := by decide +kernel
theorem dX2_offer_23 : decode cX2_offer 23 = .ok (.lcmp, 1) := by decide +kernel
theorem dX2_offer_24 : decode cX2_offer 24 = .ok (.ifCond .ge 13, 3) := by decide +kernel
theorem dX2_offer_27 : decode cX2_offer 27 = .ok (.aload_n 0, 1) := by decide +kernel
theorem dX2_offer_28 : decode cX2_offer 28 = .ok (.lload_n 1, 1) := by decide +kernel
theorem dX2_offer_29 : decode cX2_offer 29 = .ok (.putfield 94, 3) := by decide +kernel
theorem dX2_offer_32 : decode cX2_offer 32 = .ok (.aload_n 0, 1) := by decide +kernel
theorem dX2_offer_33 : decode cX2_offer 33 = .ok (.lload_n 3, 1) := by decide +kernel
theorem dX2_offer_34 : decode cX2_offer 34 = .ok (.putfield 98, 3) := by decide +kernel
theorem dX2_offer_37 : decode cX2_offer 37 = .ok (.return_, 1) := by decide +kernel
theorem dX2_offerDrop_0 : decode cX2_offerDrop 0 = .ok (.iload_n 1, 1) := by decide +kernel
theorem dX2_offerDrop_1 : decode cX2_offerDrop 1 = .ok (.iconst 1, 1) := by decide +kernel
theorem dX2_offerDrop_2 : decode cX2_offerDrop 2 = .ok (.iadd, 1) := by decide +kernel
theorem dX2_offerDrop_3 : decode cX2_offerDrop 3 = .ok (.bipush 17, 2) := by decide +kernel
theorem dX2_offerDrop_5 : decode cX2_offerDrop 5 = .ok (.imul, 1) := by decide +kernel
theorem dX2_offerDrop_6 : decode cX2_offerDrop 6 = .ok (.iload_n 2, 1) := by decide +kernel
theorem dX2_offerDrop_7 : decode cX2_offerDrop 7 = .ok (.iadd, 1) := by decide +kernel
theorem dX2_offerDrop_8 : decode cX2_offerDrop 8 = .ok (.istore_n 3, 1) := by decide +kernel
theorem dX2_offerDrop_9 : decode cX2_offerDrop 9 = .ok (.aload_n 0, 1) := by decide +kernel
theorem dX2_offerDrop_10 : decode cX2_offerDrop 10 = .ok (.aload_n 0, 1) := by decide +kernel
theorem dX2_offerDrop_11 : decode cX2_offerDrop 11 = .ok (.getfield 28, 3) := by decide +kernel
theorem dX2_offerDrop_14 : decode cX2_offerDrop 14 = .ok (.iload_n 3, 1) := by decide +kernel
theorem dX2_offerDrop_15 : decode cX2_offerDrop 15 = .ok (.laload, 1) := by decide +kernel
theorem dX2_offerDrop_16 : decode cX2_offerDrop 16 = .ok (.aload_n 0, 1) := by decide +kernel
theorem dX2_offerDrop_17 : decode cX2_offerDrop 17 = .ok (.getfield 9, 3) := by decide +kernel
theorem dX2_offerDrop_20 : decode cX2_offerDrop 20 = .ok (.iconst 0, 1) := by decide +kernel
theorem dX2_offerDrop_21 : decode cX2_offerDrop 21 = .ok (.iaload, 1) := by decide +kernel
theorem dX2_offerDrop_22 : decode cX2_offerDrop 22 = .ok (.iload_n 1, 1) := by decide +kernel
theorem dX2_offerDrop_23 : decode cX2_offerDrop 23 = .ok (.bipush 16, 2) := by decide +kernel
theorem dX2_offerDrop_25 : decode cX2_offerDrop 25 = .ok (.invokestatic 82, 3) := by decide +kernel
theorem dX2_offerDrop_28 : decode cX2_offerDrop 28 = .ok (.ladd, 1) := by decide +kernel
theorem dX2_offerDrop_29 : decode cX2_offerDrop 29 = .ok (.aload_n 0, 1) := by decide +kernel
theorem dX2_offerDrop_30 : decode cX2_offerDrop 30 = .ok (.getfield 31, 3) := by decide +kernel
theorem dX2_offerDrop_33 : decode cX2_offerDrop 33 = .ok (.iload_n 3, 1) := by decide +kernel
theorem dX2_offerDrop_34 : decode cX2_offerDrop 34 = .ok (.laload, 1) := by decide +kernel
theorem dX2_offerDrop_35 : decode cX2_offerDrop 35 = .ok (.iload_n 1, 1) := by decide +kernel
theorem dX2_offerDrop_36 : decode cX2_offerDrop 36 = .ok (.bipush 16, 2) := by decide +kernel
theorem dX2_offerDrop_38 : decode cX2_offerDrop 38 = .ok (.invokestatic 86, 3) := by decide +kernel
theorem dX2_offerDrop_41 : decode cX2_offerDrop 41 = .ok (.ladd, 1) := by decide +kernel
theorem dX2_offerDrop_42 : decode cX2_offerDrop 42 = .ok (.invokevirtual 90, 3) := by decide +kernel
theorem dX2_offerDrop_45 : decode cX2_offerDrop 45 = .ok (.return_, 1) := by decide +kernel
theorem dX2_offerAdd_0 : decode cX2_offerAdd 0 = .ok (.iload_n 1, 1) := by decide +kernel
theorem dX2_offerAdd_1 : decode cX2_offerAdd 1 = .ok (.bipush 17, 2) := by decide +kernel
theorem dX2_offerAdd_3 : decode cX2_offerAdd 3 = .ok (.imul, 1) := by decide +kernel
theorem dX2_offerAdd_4 : decode cX2_offerAdd 4 = .ok (.iload_n 2, 1) := by decide +kernel
theorem dX2_offerAdd_5 : decode cX2_offerAdd 5 = .ok (.iadd, 1) := by decide +kernel
theorem dX2_offerAdd_6 : decode cX2_offerAdd 6 = .ok (.iconst 1, 1) := by decide +kernel
theorem dX2_offerAdd_7 : decode cX2_offerAdd 7 = .ok (.iadd, 1) := by decide +kernel
theorem dX2_offerAdd_8 : decode cX2_offerAdd 8 = .ok (.istore_n 3, 1) := by decide +kernel
theorem dX2_offerAdd_9 : decode cX2_offerAdd 9 = .ok (.aload_n 0, 1) := by decide +kernel
theorem dX2_offerAdd_10 : decode cX2_offerAdd 10 = .ok (.aload_n 0, 1) := by decide +kernel
theorem dX2_offerAdd_11 : decode cX2_offerAdd 11 = .ok (.getfield 28, 3) := by decide +kernel
theorem dX2_offerAdd_14 : decode cX2_offerAdd 14 = .ok (.iload_n 3, 1) := by decide +kernel
theorem dX2_offerAdd_15 : decode cX2_offerAdd 15 = .ok (.laload, 1) := by decide +kernel
theorem dX2_offerAdd_16 : decode cX2_offerAdd 16 = .ok (.aload_n 0, 1) := by decide +kernel
theorem dX2_offerAdd_17 : decode cX2_offerAdd 17 = .ok (.getfield 9, 3) := by decide +kernel
theorem dX2_offerAdd_20 : decode cX2_offerAdd 20 = .ok (.iconst 1, 1) := by decide +kernel
theorem dX2_offerAdd_21 : decode cX2_offerAdd 21 = .ok (.iaload, 1) := by decide +kernel
theorem dX2_offerAdd_22 : decode cX2_offerAdd 22 = .ok (.i2l, 1) := by decide +kernel
theorem dX2_offerAdd_23 : decode cX2_offerAdd 23 = .ok (.bipush 40, 2) := by decide +kernel
theorem dX2_offerAdd_25 : decode cX2_offerAdd 25 = .ok (.lshl, 1) := by decide +kernel
theorem dX2_offerAdd_26 : decode cX2_offerAdd 26 = .ok (.ladd, 1) := by decide +kernel
theorem dX2_offerAdd_27 : decode cX2_offerAdd 27 = .ok (.aload_n 0, 1) := by decide +kernel
theorem dX2_offerAdd_28 : decode cX2_offerAdd 28 = .ok (.getfield 31, 3) := by decide +kernel
theorem dX2_offerAdd_31 : decode cX2_offerAdd 31 = .ok (.iload_n 3, 1) := by decide +kernel
theorem dX2_offerAdd_32 : decode cX2_offerAdd 32 = .ok (.laload, 1) := by decide +kernel
theorem dX2_offerAdd_33 : decode cX2_offerAdd 33 = .ok (.invokevirtual 90, 3) := by decide +kernel
theorem dX2_offerAdd_36 : decode cX2_offerAdd 36 = .ok (.return_, 1) := by decide +kernel
theorem dX2_keepRest_0 : decode cX2_keepRest 0 = .ok (.aload_n 0, 1) := by decide +kernel
theorem dX2_keepRest_1 : decode cX2_keepRest 1 = .ok (.getfield 28, 3) := by decide +kernel
theorem dX2_keepRest_4 : decode cX2_keepRest 4 = .ok (.iload_n 1, 1) := by decide +kernel
theorem dX2_keepRest_5 : decode cX2_keepRest 5 = .ok (.bipush 17, 2) := by decide +kernel
theorem dX2_keepRest_7 : decode cX2_keepRest 7 = .ok (.imul, 1) := by decide +kernel
theorem dX2_keepRest_8 : decode cX2_keepRest 8 = .ok (.iload_n 2, 1) := by decide +kernel
theorem dX2_keepRest_9 : decode cX2_keepRest 9 = .ok (.iadd, 1) := by decide +kernel
theorem dX2_keepRest_10 : decode cX2_keepRest 10 = .ok (.aload_n 0, 1) := by decide +kernel
theorem dX2_keepRest_11 : decode cX2_keepRest 11 = .ok (.getfield 94, 3) := by decide +kernel
theorem dX2_keepRest_14 : decode cX2_keepRest 14 = .ok (.lastore, 1) := by decide +kernel
theorem dX2_keepRest_15 : decode cX2_keepRest 15 = .ok (.aload_n 0, 1) := by decide +kernel
theorem dX2_keepRest_16 : decode cX2_keepRest 16 = .ok (.getfield 31, 3) := by decide +kernel
theorem dX2_keepRest_19 : decode cX2_keepRest 19 = .ok (.iload_n 1, 1) := by decide +kernel
theorem dX2_keepRest_20 : decode cX2_keepRest 20 = .ok (.bipush 17, 2) := by decide +kernel
theorem dX2_keepRest_22 : decode cX2_keepRest 22 = .ok (.imul, 1) := by decide +kernel
theorem dX2_keepRest_23 : decode cX2_keepRest 23 = .ok (.iload_n 2, 1) := by decide +kernel
theorem dX2_keepRest_24 : decode cX2_keepRest 24 = .ok (.iadd, 1) := by decide +kernel
theorem dX2_keepRest_25 : decode cX2_keepRest 25 = .ok (.aload_n 0, 1) := by decide +kernel
theorem dX2_keepRest_26 : decode cX2_keepRest 26 = .ok (.getfield 98, 3) := by decide +kernel
theorem dX2_keepRest_29 : decode cX2_keepRest 29 = .ok (.lastore, 1) := by decide +kernel
theorem dX2_keepRest_30 : decode cX2_keepRest 30 = .ok (.return_, 1) := by decide +kernel
theorem dX2_highOf_0 : decode cX2_highOf 0 = .ok (.iload_n 1, 1) := by decide +kernel
theorem dX2_highOf_1 : decode cX2_highOf 1 = .ok (.bipush 8, 2) := by decide +kernel
theorem dX2_highOf_3 : decode cX2_highOf 3 = .ok (.if_icmp .ge 15, 3) := by decide +kernel
theorem dX2_highOf_6 : decode cX2_highOf 6 = .ok (.iload_n 2, 1) := by decide +kernel
theorem dX2_highOf_7 : decode cX2_highOf 7 = .ok (.i2l, 1) := by decide +kernel
theorem dX2_highOf_8 : decode cX2_highOf 8 = .ok (.iconst 5, 1) := by decide +kernel
theorem dX2_highOf_9 : decode cX2_highOf 9 = .ok (.bipush 7, 2) := by decide +kernel
theorem dX2_highOf_11 : decode cX2_highOf 11 = .ok (.iload_n 1, 1) := by decide +kernel
theorem dX2_highOf_12 : decode cX2_highOf 12 = .ok (.isub, 1) := by decide +kernel
theorem dX2_highOf_13 : decode cX2_highOf 13 = .ok (.imul, 1) := by decide +kernel
theorem dX2_highOf_14 : decode cX2_highOf 14 = .ok (.lshl, 1) := by decide +kernel
theorem dX2_highOf_15 : decode cX2_highOf 15 = .ok (.goto 4, 3) := by decide +kernel
theorem dX2_highOf_18 : decode cX2_highOf 18 = .ok (.lconst 0, 1) := by decide +kernel
theorem dX2_highOf_19 : decode cX2_highOf 19 = .ok (.lstore_n 3, 1) := by decide +kernel
theorem dX2_highOf_20 : decode cX2_highOf 20 = .ok (.iload_n 0, 1) := by decide +kernel
theorem dX2_highOf_21 : decode cX2_highOf 21 = .ok (.i2l, 1) := by decide +kernel
theorem dX2_highOf_22 : decode cX2_highOf 22 = .ok (.bipush 40, 2) := by decide +kernel
theorem dX2_highOf_24 : decode cX2_highOf 24 = .ok (.lshl, 1) := by decide +kernel
theorem dX2_highOf_25 : decode cX2_highOf 25 = .ok (.lload_n 3, 1) := by decide +kernel
theorem dX2_highOf_26 : decode cX2_highOf 26 = .ok (.ladd, 1) := by decide +kernel
theorem dX2_highOf_27 : decode cX2_highOf 27 = .ok (.lreturn, 1) := by decide +kernel
theorem dX2_lowOf_0 : decode cX2_lowOf 0 = .ok (.iload_n 0, 1) := by decide +kernel
theorem dX2_lowOf_1 : decode cX2_lowOf 1 = .ok (.bipush 8, 2) := by decide +kernel
theorem dX2_lowOf_3 : decode cX2_lowOf 3 = .ok (.if_icmp .ge 7, 3) := by decide +kernel
theorem dX2_lowOf_6 : decode cX2_lowOf 6 = .ok (.lconst 0, 1) := by decide +kernel
theorem dX2_lowOf_7 : decode cX2_lowOf 7 = .ok (.goto 12, 3) := by decide +kernel
theorem dX2_lowOf_10 : decode cX2_lowOf 10 = .ok (.iload_n 1, 1) := by decide +kernel
theorem dX2_lowOf_11 : decode cX2_lowOf 11 = .ok (.i2l, 1) := by decide +kernel
theorem dX2_lowOf_12 : decode cX2_lowOf 12 = .ok (.iconst 5, 1) := by decide +kernel
theorem dX2_lowOf_13 : decode cX2_lowOf 13 = .ok (.bipush 15, 2) := by decide +kernel
theorem dX2_lowOf_15 : decode cX2_lowOf 15 = .ok (.iload_n 0, 1) := by decide +kernel
theorem dX2_lowOf_16 : decode cX2_lowOf 16 = .ok (.isub, 1) := by decide +kernel
theorem dX2_lowOf_17 : decode cX2_lowOf 17 = .ok (.imul, 1) := by decide +kernel
theorem dX2_lowOf_18 : decode cX2_lowOf 18 = .ok (.lshl, 1) := by decide +kernel
theorem dX2_lowOf_19 : decode cX2_lowOf 19 = .ok (.lreturn, 1) := by decide +kernel
theorem dX2_tell_0 : decode cX2_tell 0 = .ok (.aload_n 0, 1) := by decide +kernel
theorem dX2_tell_1 : decode cX2_tell 1 = .ok (.aload_n 0, 1) := by decide +kernel
theorem dX2_tell_2 : decode cX2_tell 2 = .ok (.getfield 21, 3) := by decide +kernel
theorem dX2_tell_5 : decode cX2_tell 5 = .ok (.iconst 0, 1) := by decide +kernel
theorem dX2_tell_6 : decode cX2_tell 6 = .ok (.laload, 1) := by decide +kernel
theorem dX2_tell_7 : decode cX2_tell 7 = .ok (.bipush 40, 2) := by decide +kernel
theorem dX2_tell_9 : decode cX2_tell 9 = .ok (.lshr, 1) := by decide +kernel
theorem dX2_tell_10 : decode cX2_tell 10 = .ok (.l2i, 1) := by decide +kernel
theorem dX2_tell_11 : decode cX2_tell 11 = .ok (.putfield 103, 3) := by decide +kernel
theorem dX2_tell_14 : decode cX2_tell 14 = .ok (.aload_n 0, 1) := by decide +kernel
theorem dX2_tell_15 : decode cX2_tell 15 = .ok (.iconst 0, 1) := by decide +kernel
theorem dX2_tell_16 : decode cX2_tell 16 = .ok (.putfield 106, 3) := by decide +kernel
theorem dX2_tell_19 : decode cX2_tell 19 = .ok (.aload_n 0, 1) := by decide +kernel
theorem dX2_tell_20 : decode cX2_tell 20 = .ok (.iconst 0, 1) := by decide +kernel
theorem dX2_tell_21 : decode cX2_tell 21 = .ok (.putfield 109, 3) := by decide +kernel
theorem dX2_tell_24 : decode cX2_tell 24 = .ok (.iconst 0, 1) := by decide +kernel
theorem dX2_tell_25 : decode cX2_tell 25 = .ok (.istore_n 3, 1) := by decide +kernel
theorem dX2_tell_26 : decode cX2_tell 26 = .ok (.iload_n 3, 1) := by decide +kernel
theorem dX2_tell_27 : decode cX2_tell 27 = .ok (.aload_n 2, 1) := by decide +kernel
theorem dX2_tell_28 : decode cX2_tell 28 = .ok (.getfield 34, 3) := by decide +kernel
theorem dX2_tell_31 : decode cX2_tell 31 = .ok (.if_icmp .ge 17, 3) := by decide +kernel
theorem dX2_tell_34 : decode cX2_tell 34 = .ok (.aload_n 0, 1) := by decide +kernel
theorem dX2_tell_35 : decode cX2_tell 35 = .ok (.getfield 18, 3) := by decide +kernel
theorem dX2_tell_38 : decode cX2_tell 38 = .ok (.iload_n 3, 1) := by decide +kernel
theorem dX2_tell_39 : decode cX2_tell 39 = .ok (.bipush 99, 2) := by decide +kernel
theorem dX2_tell_41 : decode cX2_tell 41 = .ok (.iastore, 1) := by decide +kernel
theorem dX2_tell_42 : decode cX2_tell 42 = .ok (.iinc 3 1, 3) := by decide +kernel
theorem dX2_tell_45 : decode cX2_tell 45 = .ok (.goto (-19), 3) := by decide +kernel
theorem dX2_tell_48 : decode cX2_tell 48 = .ok (.iconst 0, 1) := by decide +kernel
theorem dX2_tell_49 : decode cX2_tell 49 = .ok (.istore_n 3, 1) := by decide +kernel
theorem dX2_tell_50 : decode cX2_tell 50 = .ok (.iload_n 3, 1) := by decide +kernel
theorem dX2_tell_51 : decode cX2_tell 51 = .ok (.aload_n 1, 1) := by decide +kernel
theorem dX2_tell_52 : decode cX2_tell 52 = .ok (.getfield 34, 3) := by decide +kernel
theorem dX2_tell_55 : decode cX2_tell 55 = .ok (.if_icmp .ge 95, 3) := by decide +kernel
theorem dX2_tell_58 : decode cX2_tell 58 = .ok (.aload_n 0, 1) := by decide +kernel
theorem dX2_tell_59 : decode cX2_tell 59 = .ok (.iload_n 3, 1) := by decide +kernel
theorem dX2_tell_60 : decode cX2_tell 60 = .ok (.invokevirtual 112, 3) := by decide +kernel
theorem dX2_tell_63 : decode cX2_tell 63 = .ok (.istore 4, 2) := by decide +kernel
theorem dX2_tell_65 : decode cX2_tell 65 = .ok (.aload_n 0, 1) := by decide +kernel
theorem dX2_tell_66 : decode cX2_tell 66 = .ok (.getfield 15, 3) := by decide +kernel
theorem dX2_tell_69 : decode cX2_tell 69 = .ok (.iload_n 3, 1) := by decide +kernel
theorem dX2_tell_70 : decode cX2_tell 70 = .ok (.aload_n 2, 1) := by decide +kernel
theorem dX2_tell_71 : decode cX2_tell 71 = .ok (.iload 4, 2) := by decide +kernel
theorem dX2_tell_73 : decode cX2_tell 73 = .ok (.invokevirtual 55, 3) := by decide +kernel
theorem dX2_tell_76 : decode cX2_tell 76 = .ok (.ifCond .eq 8, 3) := by decide +kernel
theorem dX2_tell_79 : decode cX2_tell 79 = .ok (.iload 4, 2) := by decide +kernel
theorem dX2_tell_81 : decode cX2_tell 81 = .ok (.goto 5, 3) := by decide +kernel
theorem dX2_tell_84 : decode cX2_tell 84 = .ok (.bipush 99, 2) := by decide +kernel
theorem dX2_tell_86 : decode cX2_tell 86 = .ok (.iastore, 1) := by decide +kernel
theorem dX2_tell_87 : decode cX2_tell 87 = .ok (.aload_n 2, 1) := by decide +kernel
theorem dX2_tell_88 : decode cX2_tell 88 = .ok (.iload 4, 2) := by decide +kernel
theorem dX2_tell_90 : decode cX2_tell 90 = .ok (.invokevirtual 55, 3) := by decide +kernel
theorem dX2_tell_93 : decode cX2_tell 93 = .ok (.ifCond .eq 51, 3) := by decide +kernel
theorem dX2_tell_96 : decode cX2_tell 96 = .ok (.aload_n 0, 1) := by decide +kernel
theorem dX2_tell_97 : decode cX2_tell 97 = .ok (.getfield 18, 3) := by decide +kernel
theorem dX2_tell_100 : decode cX2_tell 100 = .ok (.iload 4, 2) := by decide +kernel
theorem dX2_tell_102 : decode cX2_tell 102 = .ok (.iload_n 3, 1) := by decide +kernel
theorem dX2_tell_103 : decode cX2_tell 103 = .ok (.iastore, 1) := by decide +kernel
theorem dX2_tell_104 : decode cX2_tell 104 = .ok (.aload_n 0, 1) := by decide +kernel
theorem dX2_tell_105 : decode cX2_tell 105 = .ok (.dup, 1) := by decide +kernel
theorem dX2_tell_106 : decode cX2_tell 106 = .ok (.getfield 106, 3) := by decide +kernel
theorem dX2_tell_109 : decode cX2_tell 109 = .ok (.iconst 1, 1) := by decide +kernel
theorem dX2_tell_110 : decode cX2_tell 110 = .ok (.iadd, 1) := by decide +kernel
theorem dX2_tell_111 : decode cX2_tell 111 = .ok (.putfield 106, 3) := by decide +kernel
theorem dX2_tell_114 : decode cX2_tell 114 = .ok (.aload_n 0, 1) := by decide +kernel
theorem dX2_tell_115 : decode cX2_tell 115 = .ok (.dup, 1) := by decide +kernel
theorem dX2_tell_116 : decode cX2_tell 116 = .ok (.getfield 109, 3) := by decide +kernel
theorem dX2_tell_119 : decode cX2_tell 119 = .ok (.aload_n 1, 1) := by decide +kernel
theorem dX2_tell_120 : decode cX2_tell 120 = .ok (.getfield 79, 3) := by decide +kernel
theorem dX2_tell_123 : decode cX2_tell 123 = .ok (.iload_n 3, 1) := by decide +kernel
theorem dX2_tell_124 : decode cX2_tell 124 = .ok (.iaload, 1) := by decide +kernel
theorem dX2_tell_125 : decode cX2_tell 125 = .ok (.aload_n 2, 1) := by decide +kernel
theorem dX2_tell_126 : decode cX2_tell 126 = .ok (.getfield 79, 3) := by decide +kernel
theorem dX2_tell_129 : decode cX2_tell 129 = .ok (.iload 4, 2) := by decide +kernel
theorem dX2_tell_131 : decode cX2_tell 131 = .ok (.iaload, 1) := by decide +kernel
theorem dX2_tell_132 : decode cX2_tell 132 = .ok (.if_icmp .ne 7, 3) := by decide +kernel
theorem dX2_tell_135 : decode cX2_tell 135 = .ok (.iconst 0, 1) := by decide +kernel
theorem dX2_tell_136 : decode cX2_tell 136 = .ok (.goto 4, 3) := by decide +kernel
theorem dX2_tell_139 : decode cX2_tell 139 = .ok (.iconst 1, 1) := by decide +kernel
theorem dX2_tell_140 : decode cX2_tell 140 = .ok (.iadd, 1) := by decide +kernel
theorem dX2_tell_141 : decode cX2_tell 141 = .ok (.putfield 109, 3) := by decide +kernel
theorem dX2_tell_144 : decode cX2_tell 144 = .ok (.iinc 3 1, 3) := by decide +kernel
theorem dX2_tell_147 : decode cX2_tell 147 = .ok (.goto (-97), 3) := by decide +kernel
theorem dX2_tell_150 : decode cX2_tell 150 = .ok (.return_, 1) := by decide +kernel
theorem dX2_partnerBits_0 : decode cX2_partnerBits 0 = .ok (.iload_n 1, 1) := by decide +kernel
theorem dX2_partnerBits_1 : decode cX2_partnerBits 1 = .ok (.bipush 8, 2) := by decide +kernel
theorem dX2_partnerBits_3 : decode cX2_partnerBits 3 = .ok (.if_icmp .ge 19, 3) := by decide +kernel
theorem dX2_partnerBits_6 : decode cX2_partnerBits 6 = .ok (.aload_n 0, 1) := by decide +kernel
theorem dX2_partnerBits_7 : decode cX2_partnerBits 7 = .ok (.getfield 21, 3) := by decide +kernel
theorem dX2_partnerBits_10 : decode cX2_partnerBits 10 = .ok (.iconst 0, 1) := by decide +kernel
theorem dX2_partnerBits_11 : decode cX2_partnerBits 11 = .ok (.laload, 1) := by decide +kernel
theorem dX2_partnerBits_12 : decode cX2_partnerBits 12 = .ok (.iconst 5, 1) := by decide +kernel
theorem dX2_partnerBits_13 : decode cX2_partnerBits 13 = .ok (.bipush 7, 2) := by decide +kernel
theorem dX2_partnerBits_15 : decode cX2_partnerBits 15 = .ok (.iload_n 1, 1) := by decide +kernel
theorem dX2_partnerBits_16 : decode cX2_partnerBits 16 = .ok (.isub, 1) := by decide +kernel
theorem dX2_partnerBits_17 : decode cX2_partnerBits 17 = .ok (.imul, 1) := by decide +kernel
theorem dX2_partnerBits_18 : decode cX2_partnerBits 18 = .ok (.lshr, 1) := by decide +kernel
theorem dX2_partnerBits_19 : decode cX2_partnerBits 19 = .ok (.goto 16, 3) := by decide +kernel
theorem dX2_partnerBits_22 : decode cX2_partnerBits 22 = .ok (.aload_n 0, 1) := by decide +kernel
theorem dX2_partnerBits_23 : decode cX2_partnerBits 23 = .ok (.getfield 25, 3) := by decide +kernel
theorem dX2_partnerBits_26 : decode cX2_partnerBits 26 = .ok (.iconst 0, 1) := by decide +kernel
theorem dX2_partnerBits_27 : decode cX2_partnerBits 27 = .ok (.laload, 1) := by decide +kernel
theorem dX2_partnerBits_28 : decode cX2_partnerBits 28 = .ok (.iconst 5, 1) := by decide +kernel
theorem dX2_partnerBits_29 : decode cX2_partnerBits 29 = .ok (.bipush 15, 2) := by decide +kernel
theorem dX2_partnerBits_31 : decode cX2_partnerBits 31 = .ok (.iload_n 1, 1) := by decide +kernel
theorem dX2_partnerBits_32 : decode cX2_partnerBits 32 = .ok (.isub, 1) := by decide +kernel
theorem dX2_partnerBits_33 : decode cX2_partnerBits 33 = .ok (.imul, 1) := by decide +kernel
theorem dX2_partnerBits_34 : decode cX2_partnerBits 34 = .ok (.lshr, 1) := by decide +kernel
theorem dX2_partnerBits_35 : decode cX2_partnerBits 35 = .ok (.lstore_n 2, 1) := by decide +kernel
theorem dX2_partnerBits_36 : decode cX2_partnerBits 36 = .ok (.lload_n 2, 1) := by decide +kernel
theorem dX2_partnerBits_37 : decode cX2_partnerBits 37 = .ok (.ldc2_w 116, 3) := by decide +kernel
theorem dX2_partnerBits_40 : decode cX2_partnerBits 40 = .ok (.land, 1) := by decide +kernel
theorem dX2_partnerBits_41 : decode cX2_partnerBits 41 = .ok (.l2i, 1) := by decide +kernel
theorem dX2_partnerBits_42 : decode cX2_partnerBits 42 = .ok (.ireturn, 1) := by decide +kernel
theorem dX3_init_0 : decode cX3_init 0 = .ok (.aload_n 0, 1) := by decide +kernel
theorem dX3_init_1 : decode cX3_init 1 = .ok (.invokespecial 3, 3) := by decide +kernel
theorem dX3_init_4 : decode cX3_init 4 = .ok (.aload_n 0, 1) := by decide +kernel
theorem dX3_init_5 : decode cX3_init 5 = .ok (.bipush 16, 2) := by decide +kernel
theorem dX3_init_7 : decode cX3_init 7 = .ok (.newarray .int, 2) := by decide +kernel
theorem dX3_init_9 : decode cX3_init 9 = .ok (.putfield 9, 3) := by decide +kernel
theorem dX3_init_12 : decode cX3_init 12 = .ok (.aload_n 0, 1) := by decide +kernel
theorem dX3_init_13 : decode cX3_init 13 = .ok (.bipush 16, 2) := by decide +kernel
theorem dX3_init_15 : decode cX3_init 15 = .ok (.newarray .int, 2) := by decide +kernel
theorem dX3_init_17 : decode cX3_init 17 = .ok (.putfield 15, 3) := by decide +kernel
theorem dX3_init_20 : decode cX3_init 20 = .ok (.aload_n 0, 1) := by decide +kernel
theorem dX3_init_21 : decode cX3_init 21 = .ok (.bipush 16, 2) := by decide +kernel
theorem dX3_init_23 : decode cX3_init 23 = .ok (.newarray .int, 2) := by decide +kernel
theorem dX3_init_25 : decode cX3_init 25 = .ok (.putfield 18, 3) := by decide +kernel
theorem dX3_init_28 : decode cX3_init 28 = .ok (.aload_n 0, 1) := by decide +kernel
theorem dX3_init_29 : decode cX3_init 29 = .ok (.bipush 16, 2) := by decide +kernel
theorem dX3_init_31 : decode cX3_init 31 = .ok (.newarray .int, 2) := by decide +kernel
theorem dX3_init_33 : decode cX3_init 33 = .ok (.putfield 21, 3) := by decide +kernel
theorem dX3_init_36 : decode cX3_init 36 = .ok (.return_, 1) := by decide +kernel
theorem dX3_pair_0 : decode cX3_pair 0 = .ok (.aload_n 0, 1) := by decide +kernel
theorem dX3_pair_1 : decode cX3_pair 1 = .ok (.iconst 0, 1) := by decide +kernel
theorem dX3_pair_2 : decode cX3_pair 2 = .ok (.putfield 24, 3) := by decide +kernel
theorem dX3_pair_5 : decode cX3_pair 5 = .ok (.aload_n 0, 1) := by decide +kernel
theorem dX3_pair_6 : decode cX3_pair 6 = .ok (.iconst 0, 1) := by decide +kernel
theorem dX3_pair_7 : decode cX3_pair 7 = .ok (.putfield 28, 3) := by decide +kernel
theorem dX3_pair_10 : decode cX3_pair 10 = .ok (.aload_n 1, 1) := by decide +kernel
theorem dX3_pair_11 : decode cX3_pair 11 = .ok (.aload_n 2, 1) := by decide +kernel
theorem dX3_pair_12 : decode cX3_pair 12 = .ok (.aload_n 0, 1) := by decide +kernel
theorem dX3_pair_13 : decode cX3_pair 13 = .ok (.getfield 18, 3) := by decide +kernel
theorem dX3_pair_16 : decode cX3_pair 16 = .ok (.invokestatic 31, 3) := by decide +kernel
theorem dX3_pair_19 : decode cX3_pair 19 = .ok (.aload_n 3, 1) := by decide +kernel
theorem dX3_pair_20 : decode cX3_pair 20 = .ok (.aload 4, 2) := by decide +kernel
theorem dX3_pair_22 : decode cX3_pair 22 = .ok (.aload_n 0, 1) := by decide +kernel
theorem dX3_pair_23 : decode cX3_pair 23 = .ok (.getfield 21, 3) := by decide +kernel
theorem dX3_pair_26 : decode cX3_pair 26 = .ok (.invokestatic 31, 3) := by decide +kernel
theorem dX3_pair_29 : decode cX3_pair 29 = .ok (.bipush 16, 2) := by decide +kernel
theorem dX3_pair_31 : decode cX3_pair 31 = .ok (.istore 5, 2) := by decide +kernel
theorem dX3_pair_33 : decode cX3_pair 33 = .ok (.iload 5, 2) := by decide +kernel
theorem dX3_pair_35 : decode cX3_pair 35 = .ok (.ifCond .le 57, 3) := by decide +kernel
theorem dX3_pair_38 : decode cX3_pair 38 = .ok (.iconst 0, 1) := by decide +kernel
theorem dX3_pair_39 : decode cX3_pair 39 = .ok (.istore 6, 2) := by decide +kernel
theorem dX3_pair_41 : decode cX3_pair 41 = .ok (.iload 6, 2) := by decide +kernel
theorem dX3_pair_43 : decode cX3_pair 43 = .ok (.aload_n 1, 1) := by decide +kernel
theorem dX3_pair_44 : decode cX3_pair 44 = .ok (.getfield 35, 3) := by decide +kernel
theorem dX3_pair_47 : decode cX3_pair 47 = .ok (.if_icmp .ge 39, 3) := by decide +kernel
theorem dX3_pair_50 : decode cX3_pair 50 = .ok (.aload_n 1, 1) := by decide +kernel
theorem dX3_pair_51 : decode cX3_pair 51 = .ok (.getfield 40, 3) := by decide +kernel
theorem dX3_pair_54 : decode cX3_pair 54 = .ok (.iload 6, 2) := by decide +kernel
theorem dX3_pair_56 : decode cX3_pair 56 = .ok (.iaload, 1) := by decide +kernel
theorem dX3_pair_57 : decode cX3_pair 57 = .ok (.iload 5, 2) := by decide +kernel
theorem dX3_pair_59 : decode cX3_pair 59 = .ok (.if_icmp .ne 21, 3) := by decide +kernel
theorem dX3_pair_62 : decode cX3_pair 62 = .ok (.aload_n 0, 1) := by decide +kernel
theorem dX3_pair_63 : decode cX3_pair 63 = .ok (.getfield 18, 3) := by decide +kernel
theorem dX3_pair_66 : decode cX3_pair 66 = .ok (.iload 6, 2) := by decide +kernel
theorem dX3_pair_68 : decode cX3_pair 68 = .ok (.iaload, 1) := by decide +kernel
theorem dX3_pair_69 : decode cX3_pair 69 = .ok (.ifCond .ne 11, 3) := by decide +kernel
theorem dX3_pair_72 : decode cX3_pair 72 = .ok (.aload_n 0, 1) := by decide +kernel
theorem dX3_pair_73 : decode cX3_pair 73 = .ok (.aload_n 1, 1) := by decide +kernel
theorem dX3_pair_74 : decode cX3_pair 74 = .ok (.iload 6, 2) := by decide +kernel
theorem dX3_pair_76 : decode cX3_pair 76 = .ok (.aload_n 3, 1) := by decide +kernel
theorem dX3_pair_77 : decode cX3_pair 77 = .ok (.invokevirtual 43, 3) := by decide +kernel
theorem dX3_pair_80 : decode cX3_pair 80 = .ok (.iinc 6 1, 3) := by decide +kernel
theorem dX3_pair_83 : decode cX3_pair 83 = .ok (.goto (-42), 3) := by decide +kernel
theorem dX3_pair_86 : decode cX3_pair 86 = .ok (.iinc 5 (-1), 3) := by decide +kernel
theorem dX3_pair_89 : decode cX3_pair 89 = .ok (.goto (-56), 3) := by decide +kernel
theorem dX3_pair_92 : decode cX3_pair 92 = .ok (.return_, 1) := by decide +kernel
theorem dX3_useLed_0 : decode cX3_useLed 0 = .ok (.iconst 0, 1) := by decide +kernel
theorem dX3_useLed_1 : decode cX3_useLed 1 = .ok (.istore_n 3, 1) := by decide +kernel
theorem dX3_useLed_2 : decode cX3_useLed 2 = .ok (.iload_n 3, 1) := by decide +kernel
theorem dX3_useLed_3 : decode cX3_useLed 3 = .ok (.aload_n 0, 1) := by decide +kernel
theorem dX3_useLed_4 : decode cX3_useLed 4 = .ok (.getfield 35, 3) := by decide +kernel
theorem dX3_useLed_7 : decode cX3_useLed 7 = .ok (.if_icmp .ge 55, 3) := by decide +kernel
theorem dX3_useLed_10 : decode cX3_useLed 10 = .ok (.aload_n 2, 1) := by decide +kernel
theorem dX3_useLed_11 : decode cX3_useLed 11 = .ok (.iload_n 3, 1) := by decide +kernel
theorem dX3_useLed_12 : decode cX3_useLed 12 = .ok (.iconst 0, 1) := by decide +kernel
theorem dX3_useLed_13 : decode cX3_useLed 13 = .ok (.iastore, 1) := by decide +kernel
theorem dX3_useLed_14 : decode cX3_useLed 14 = .ok (.iload_n 3, 1) := by decide +kernel
theorem dX3_useLed_15 : decode cX3_useLed 15 = .ok (.istore 4, 2) := by decide +kernel
theorem dX3_useLed_17 : decode cX3_useLed 17 = .ok (.iload 4, 2) := by decide +kernel
theorem dX3_useLed_19 : decode cX3_useLed 19 = .ok (.iload_n 3, 1) := by decide +kernel
theorem dX3_useLed_20 : decode cX3_useLed 20 = .ok (.aload_n 0, 1) := by decide +kernel
theorem dX3_useLed_21 : decode cX3_useLed 21 = .ok (.getfield 40, 3) := by decide +kernel
theorem dX3_useLed_24 : decode cX3_useLed 24 = .ok (.iload_n 3, 1) := by decide +kernel
theorem dX3_useLed_25 : decode cX3_useLed 25 = .ok (.iaload, 1) := by decide +kernel
theorem dX3_useLed_26 : decode cX3_useLed 26 = .ok (.iadd, 1) := by decide +kernel
theorem dX3_useLed_27 : decode cX3_useLed 27 = .ok (.if_icmp .ge 29, 3) := by decide +kernel
theorem dX3_useLed_30 : decode cX3_useLed 30 = .ok (.iload 4, 2) := by decide +kernel
theorem dX3_useLed_32 : decode cX3_useLed 32 = .ok (.aload_n 1, 1) := by decide +kernel
theorem dX3_useLed_33 : decode cX3_useLed 33 = .ok (.arraylength, 1) := by decide +kernel
theorem dX3_useLed_34 : decode cX3_useLed 34 = .ok (.if_icmp .ge 22, 3) := by decide +kernel
theorem dX3_useLed_37 : decode cX3_useLed 37 = .ok (.aload_n 1, 1) := by decide +kernel
theorem dX3_useLed_38 : decode cX3_useLed 38 = .ok (.iload 4, 2) := by decide +kernel
theorem dX3_useLed_40 : decode cX3_useLed 40 = .ok (.iaload, 1) := by decide +kernel
theorem dX3_useLed_41 : decode cX3_useLed 41 = .ok (.bipush 99, 2) := by decide +kernel
theorem dX3_useLed_43 : decode cX3_useLed 43 = .ok (.if_icmp .eq 7, 3) := by decide +kernel
theorem dX3_useLed_46 : decode cX3_useLed 46 = .ok (.aload_n 2, 1) := by decide +kernel
theorem dX3_useLed_47 : decode cX3_useLed 47 = .ok (.iload_n 3, 1) := by decide +kernel
theorem dX3_useLed_48 : decode cX3_useLed 48 = .ok (.iconst 1, 1) := by decide +kernel
theorem dX3_useLed_49 : decode cX3_useLed 49 = .ok (.iastore, 1) := by decide +kernel
theorem dX3_useLed_50 : decode cX3_useLed 50 = .ok (.iinc 4 1, 3) := by decide +kernel
theorem dX3_useLed_53 : decode cX3_useLed 53 = .ok (.goto (-36), 3) := by decide +kernel
theorem dX3_useLed_56 : decode cX3_useLed 56 = .ok (.iinc 3 1, 3) := by decide +kernel
theorem dX3_useLed_59 : decode cX3_useLed 59 = .ok (.goto (-57), 3) := by decide +kernel
theorem dX3_useLed_62 : decode cX3_useLed 62 = .ok (.return_, 1) := by decide +kernel
theorem dX3_pairFirst_0 : decode cX3_pairFirst 0 = .ok (.iconst 0, 1) := by decide +kernel
theorem dX3_pairFirst_1 : decode cX3_pairFirst 1 = .ok (.istore 4, 2) := by decide +kernel
theorem dX3_pairFirst_3 : decode cX3_pairFirst 3 = .ok (.iload 4, 2) := by decide +kernel
theorem dX3_pairFirst_5 : decode cX3_pairFirst 5 = .ok (.aload_n 3, 1) := by decide +kernel
theorem dX3_pairFirst_6 : decode cX3_pairFirst 6 = .ok (.getfield 35, 3) := by decide +kernel
theorem dX3_pairFirst_9 : decode cX3_pairFirst 9 = .ok (.if_icmp .ge 105, 3) := by decide +kernel
theorem dX3_pairFirst_12 : decode cX3_pairFirst 12 = .ok (.aload_n 0, 1) := by decide +kernel
theorem dX3_pairFirst_13 : decode cX3_pairFirst 13 = .ok (.getfield 21, 3) := by decide +kernel
theorem dX3_pairFirst_16 : decode cX3_pairFirst 16 = .ok (.iload 4, 2) := by decide +kernel
theorem dX3_pairFirst_18 : decode cX3_pairFirst 18 = .ok (.iaload, 1) := by decide +kernel
theorem dX3_pairFirst_19 : decode cX3_pairFirst 19 = .ok (.ifCond .ne 89, 3) := by decide +kernel
theorem dX3_pairFirst_22 : decode cX3_pairFirst 22 = .ok (.aload_n 1, 1) := by decide +kernel
theorem dX3_pairFirst_23 : decode cX3_pairFirst 23 = .ok (.iload_n 2, 1) := by decide +kernel
theorem dX3_pairFirst_24 : decode cX3_pairFirst 24 = .ok (.aload_n 3, 1) := by decide +kernel
theorem dX3_pairFirst_25 : decode cX3_pairFirst 25 = .ok (.iload 4, 2) := by decide +kernel
theorem dX3_pairFirst_27 : decode cX3_pairFirst 27 = .ok (.invokevirtual 47, 3) := by decide +kernel
theorem dX3_pairFirst_30 : decode cX3_pairFirst 30 = .ok (.ifCond .eq 78, 3) := by decide +kernel
theorem dX3_pairFirst_33 : decode cX3_pairFirst 33 = .ok (.aload_n 0, 1) := by decide +kernel
theorem dX3_pairFirst_34 : decode cX3_pairFirst 34 = .ok (.getfield 24, 3) := by decide +kernel
theorem dX3_pairFirst_37 : decode cX3_pairFirst 37 = .ok (.bipush 16, 2) := by decide +kernel
theorem dX3_pairFirst_39 : decode cX3_pairFirst 39 = .ok (.if_icmp .ge 69, 3) := by decide +kernel
theorem dX3_pairFirst_42 : decode cX3_pairFirst 42 = .ok (.aload_n 0, 1) := by decide +kernel
theorem dX3_pairFirst_43 : decode cX3_pairFirst 43 = .ok (.getfield 9, 3) := by decide +kernel
theorem dX3_pairFirst_46 : decode cX3_pairFirst 46 = .ok (.aload_n 0, 1) := by decide +kernel
theorem dX3_pairFirst_47 : decode cX3_pairFirst 47 = .ok (.getfield 24, 3) := by decide +kernel
theorem dX3_pairFirst_50 : decode cX3_pairFirst 50 = .ok (.iload_n 2, 1) := by decide +kernel
theorem dX3_pairFirst_51 : decode cX3_pairFirst 51 = .ok (.iastore, 1) := by decide +kernel
theorem dX3_pairFirst_52 : decode cX3_pairFirst 52 = .ok (.aload_n 0, 1) := by decide +kernel
theorem dX3_pairFirst_53 : decode cX3_pairFirst 53 = .ok (.getfield 15, 3) := by decide +kernel
theorem dX3_pairFirst_56 : decode cX3_pairFirst 56 = .ok (.aload_n 0, 1) := by decide +kernel
theorem dX3_pairFirst_57 : decode cX3_pairFirst 57 = .ok (.getfield 24, 3) := by decide +kernel
theorem dX3_pairFirst_60 : decode cX3_pairFirst 60 = .ok (.iload 4, 2) := by decide +kernel
theorem dX3_pairFirst_62 : decode cX3_pairFirst 62 = .ok (.iastore, 1) := by decide +kernel
theorem dX3_pairFirst_63 : decode cX3_pairFirst 63 = .ok (.aload_n 0, 1) := by decide +kernel
theorem dX3_pairFirst_64 : decode cX3_pairFirst 64 = .ok (.dup, 1) := by decide +kernel
theorem dX3_pairFirst_65 : decode cX3_pairFirst 65 = .ok (.getfield 24, 3) := by decide +kernel
theorem dX3_pairFirst_68 : decode cX3_pairFirst 68 = .ok (.iconst 1, 1) := by decide +kernel
theorem dX3_pairFirst_69 : decode cX3_pairFirst 69 = .ok (.iadd, 1) := by decide +kernel
theorem dX3_pairFirst_70 : decode cX3_pairFirst 70 = .ok (.putfield 24, 3) := by decide +kernel
theorem dX3_pairFirst_73 : decode cX3_pairFirst 73 = .ok (.aload_n 0, 1) := by decide +kernel
theorem dX3_pairFirst_74 : decode cX3_pairFirst 74 = .ok (.dup, 1) := by decide +kernel
theorem dX3_pairFirst_75 : decode cX3_pairFirst 75 = .ok (.getfield 28, 3) := by decide +kernel
theorem dX3_pairFirst_78 : decode cX3_pairFirst 78 = .ok (.aload_n 1, 1) := by decide +kernel
theorem dX3_pairFirst_79 : decode cX3_pairFirst 79 = .ok (.getfield 40, 3) := by decide +kernel
theorem dX3_pairFirst_82 : decode cX3_pairFirst 82 = .ok (.iload_n 2, 1) := by decide +kernel
theorem dX3_pairFirst_83 : decode cX3_pairFirst 83 = .ok (.iaload, 1) := by decide +kernel
theorem dX3_pairFirst_84 : decode cX3_pairFirst 84 = .ok (.iadd, 1) := by decide +kernel
theorem dX3_pairFirst_85 : decode cX3_pairFirst 85 = .ok (.putfield 28, 3) := by decide +kernel
theorem dX3_pairFirst_88 : decode cX3_pairFirst 88 = .ok (.aload_n 1, 1) := by decide +kernel
theorem dX3_pairFirst_89 : decode cX3_pairFirst 89 = .ok (.iload_n 2, 1) := by decide +kernel
theorem dX3_pairFirst_90 : decode cX3_pairFirst 90 = .ok (.aload_n 0, 1) := by decide +kernel
theorem dX3_pairFirst_91 : decode cX3_pairFirst 91 = .ok (.getfield 18, 3) := by decide +kernel
theorem dX3_pairFirst_94 : decode cX3_pairFirst 94 = .ok (.invokestatic 51, 3) := by decide +kernel
theorem dX3_pairFirst_97 : decode cX3_pairFirst 97 = .ok (.aload_n 3, 1) := by decide +kernel
theorem dX3_pairFirst_98 : decode cX3_pairFirst 98 = .ok (.iload 4, 2) := by decide +kernel
theorem dX3_pairFirst_100 : decode cX3_pairFirst 100 = .ok (.aload_n 0, 1) := by decide +kernel
theorem dX3_pairFirst_101 : decode cX3_pairFirst 101 = .ok (.getfield 21, 3) := by decide +kernel
theorem dX3_pairFirst_104 : decode cX3_pairFirst 104 = .ok (.invokestatic 51, 3) := by decide +kernel
theorem dX3_pairFirst_107 : decode cX3_pairFirst 107 = .ok (.return_, 1) := by decide +kernel
theorem dX3_pairFirst_108 : decode cX3_pairFirst 108 = .ok (.iinc 4 1, 3) := by decide +kernel
theorem dX3_pairFirst_111 : decode cX3_pairFirst 111 = .ok (.goto (-108), 3) := by decide +kernel
theorem dX3_pairFirst_114 : decode cX3_pairFirst 114 = .ok (.return_, 1) := by decide +kernel
theorem dX3_use_0 : decode cX3_use 0 = .ok (.iload_n 1, 1) := by decide +kernel
theorem dX3_use_1 : decode cX3_use 1 = .ok (.istore_n 3, 1) := by decide +kernel
theorem dX3_use_2 : decode cX3_use 2 = .ok (.iload_n 3, 1) := by decide +kernel
theorem dX3_use_3 : decode cX3_use 3 = .ok (.iload_n 1, 1) := by decide +kernel
theorem dX3_use_4 : decode cX3_use 4 = .ok (.aload_n 0, 1) := by decide +kernel
theorem dX3_use_5 : decode cX3_use 5 = .ok (.getfield 40, 3) := by decide +kernel
theorem dX3_use_8 : decode cX3_use 8 = .ok (.iload_n 1, 1) := by decide +kernel
theorem dX3_use_9 : decode cX3_use 9 = .ok (.iaload, 1) := by decide +kernel
theorem dX3_use_10 : decode cX3_use 10 = .ok (.iadd, 1) := by decide +kernel
theorem dX3_use_11 : decode cX3_use 11 = .ok (.if_icmp .ge 19, 3) := by decide +kernel
theorem dX3_use_14 : decode cX3_use 14 = .ok (.iload_n 3, 1) := by decide +kernel
theorem dX3_use_15 : decode cX3_use 15 = .ok (.aload_n 2, 1) := by decide +kernel
theorem dX3_use_16 : decode cX3_use 16 = .ok (.arraylength, 1) := by decide +kernel
theorem dX3_use_17 : decode cX3_use 17 = .ok (.if_icmp .ge 13, 3) := by decide +kernel
theorem dX3_use_20 : decode cX3_use 20 = .ok (.aload_n 2, 1) := by decide +kernel
theorem dX3_use_21 : decode cX3_use 21 = .ok (.iload_n 3, 1) := by decide +kernel
theorem dX3_use_22 : decode cX3_use 22 = .ok (.iconst 1, 1) := by decide +kernel
theorem dX3_use_23 : decode cX3_use 23 = .ok (.iastore, 1) := by decide +kernel
theorem dX3_use_24 : decode cX3_use 24 = .ok (.iinc 3 1, 3) := by decide +kernel
theorem dX3_use_27 : decode cX3_use 27 = .ok (.goto (-25), 3) := by decide +kernel
theorem dX3_use_30 : decode cX3_use 30 = .ok (.return_, 1) := by decide +kernel
theorem dX3_pairAt_0 : decode cX3_pairAt 0 = .ok (.iload_n 1, 1) := by decide +kernel
theorem dX3_pairAt_1 : decode cX3_pairAt 1 = .ok (.ifCond .lt 36, 3) := by decide +kernel
theorem dX3_pairAt_4 : decode cX3_pairAt 4 = .ok (.iload_n 1, 1) := by decide +kernel
theorem dX3_pairAt_5 : decode cX3_pairAt 5 = .ok (.aload_n 0, 1) := by decide +kernel
theorem dX3_pairAt_6 : decode cX3_pairAt 6 = .ok (.getfield 24, 3) := by decide +kernel
theorem dX3_pairAt_9 : decode cX3_pairAt 9 = .ok (.if_icmp .ge 28, 3) := by decide +kernel
theorem dX3_pairAt_12 : decode cX3_pairAt 12 = .ok (.iload_n 1, 1) := by decide +kernel
theorem dX3_pairAt_13 : decode cX3_pairAt 13 = .ok (.bipush 16, 2) := by decide +kernel
theorem dX3_pairAt_15 : decode cX3_pairAt 15 = .ok (.if_icmp .ge 22, 3) := by decide +kernel
theorem dX3_pairAt_18 : decode cX3_pairAt 18 = .ok (.bipush 100, 2) := by decide +kernel
theorem dX3_pairAt_20 : decode cX3_pairAt 20 = .ok (.aload_n 0, 1) := by decide +kernel
theorem dX3_pairAt_21 : decode cX3_pairAt 21 = .ok (.getfield 9, 3) := by decide +kernel
theorem dX3_pairAt_24 : decode cX3_pairAt 24 = .ok (.iload_n 1, 1) := by decide +kernel
theorem dX3_pairAt_25 : decode cX3_pairAt 25 = .ok (.iaload, 1) := by decide +kernel
theorem dX3_pairAt_26 : decode cX3_pairAt 26 = .ok (.imul, 1) := by decide +kernel
theorem dX3_pairAt_27 : decode cX3_pairAt 27 = .ok (.aload_n 0, 1) := by decide +kernel
theorem dX3_pairAt_28 : decode cX3_pairAt 28 = .ok (.getfield 15, 3) := by decide +kernel
theorem dX3_pairAt_31 : decode cX3_pairAt 31 = .ok (.iload_n 1, 1) := by decide +kernel
theorem dX3_pairAt_32 : decode cX3_pairAt 32 = .ok (.iaload, 1) := by decide +kernel
theorem dX3_pairAt_33 : decode cX3_pairAt 33 = .ok (.iadd, 1) := by decide +kernel
theorem dX3_pairAt_34 : decode cX3_pairAt 34 = .ok (.goto 5, 3) := by decide +kernel
theorem dX3_pairAt_37 : decode cX3_pairAt 37 = .ok (.bipush (-6), 2) := by decide +kernel
theorem dX3_pairAt_39 : decode cX3_pairAt 39 = .ok (.ireturn, 1) := by decide +kernel
theorem dX4_init_0 : decode cX4_init 0 = .ok (.aload_n 0, 1) := by decide +kernel
theorem dX4_init_1 : decode cX4_init 1 = .ok (.invokespecial 3, 3) := by decide +kernel
theorem dX4_init_4 : decode cX4_init 4 = .ok (.aload_n 0, 1) := by decide +kernel
theorem dX4_init_5 : decode cX4_init 5 = .ok (.iconst 4, 1) := by decide +kernel
theorem dX4_init_6 : decode cX4_init 6 = .ok (.newarray .int, 2) := by decide +kernel
theorem dX4_init_8 : decode cX4_init 8 = .ok (.putfield 9, 3) := by decide +kernel
theorem dX4_init_11 : decode cX4_init 11 = .ok (.aload_n 0, 1) := by decide +kernel
theorem dX4_init_12 : decode cX4_init 12 = .ok (.new 15, 3) := by decide +kernel
theorem dX4_init_15 : decode cX4_init 15 = .ok (.dup, 1) := by decide +kernel
theorem dX4_init_16 : decode cX4_init 16 = .ok (.invokespecial 17, 3) := by decide +kernel
theorem dX4_init_19 : decode cX4_init 19 = .ok (.putfield 18, 3) := by decide +kernel
theorem dX4_init_22 : decode cX4_init 22 = .ok (.aload_n 0, 1) := by decide +kernel
theorem dX4_init_23 : decode cX4_init 23 = .ok (.new 22, 3) := by decide +kernel
theorem dX4_init_26 : decode cX4_init 26 = .ok (.dup, 1) := by decide +kernel
theorem dX4_init_27 : decode cX4_init 27 = .ok (.invokespecial 24, 3) := by decide +kernel
theorem dX4_init_30 : decode cX4_init 30 = .ok (.putfield 25, 3) := by decide +kernel
theorem dX4_init_33 : decode cX4_init 33 = .ok (.aload_n 0, 1) := by decide +kernel
theorem dX4_init_34 : decode cX4_init 34 = .ok (.new 22, 3) := by decide +kernel
theorem dX4_init_37 : decode cX4_init 37 = .ok (.dup, 1) := by decide +kernel
theorem dX4_init_38 : decode cX4_init 38 = .ok (.invokespecial 24, 3) := by decide +kernel
theorem dX4_init_41 : decode cX4_init 41 = .ok (.putfield 29, 3) := by decide +kernel
theorem dX4_init_44 : decode cX4_init 44 = .ok (.aload_n 0, 1) := by decide +kernel
theorem dX4_init_45 : decode cX4_init 45 = .ok (.new 22, 3) := by decide +kernel
theorem dX4_init_48 : decode cX4_init 48 = .ok (.dup, 1) := by decide +kernel
theorem dX4_init_49 : decode cX4_init 49 = .ok (.invokespecial 24, 3) := by decide +kernel
theorem dX4_init_52 : decode cX4_init 52 = .ok (.putfield 32, 3) := by decide +kernel
theorem dX4_init_55 : decode cX4_init 55 = .ok (.aload_n 0, 1) := by decide +kernel
theorem dX4_init_56 : decode cX4_init 56 = .ok (.aload_n 1, 1) := by decide +kernel
theorem dX4_init_57 : decode cX4_init 57 = .ok (.putfield 35, 3) := by decide +kernel
theorem dX4_init_60 : decode cX4_init 60 = .ok (.aload_n 0, 1) := by decide +kernel
theorem dX4_init_61 : decode cX4_init 61 = .ok (.aload_n 2, 1) := by decide +kernel
theorem dX4_init_62 : decode cX4_init 62 = .ok (.putfield 39, 3) := by decide +kernel
theorem dX4_init_65 : decode cX4_init 65 = .ok (.return_, 1) := by decide +kernel
theorem dX4_findPeak_0 : decode cX4_findPeak 0 = .ok (.aload_n 0, 1) := by decide +kernel
theorem dX4_findPeak_1 : decode cX4_findPeak 1 = .ok (.getfield 35, 3) := by decide +kernel
theorem dX4_findPeak_4 : decode cX4_findPeak 4 = .ok (.iload_n 1, 1) := by decide +kernel
theorem dX4_findPeak_5 : decode cX4_findPeak 5 = .ok (.invokevirtual 43, 3) := by decide +kernel
theorem dX4_findPeak_8 : decode cX4_findPeak 8 = .ok (.ifCond .eq 43, 3) := by decide +kernel
theorem dX4_findPeak_11 : decode cX4_findPeak 11 = .ok (.aload_n 0, 1) := by decide +kernel
theorem dX4_findPeak_12 : decode cX4_findPeak 12 = .ok (.getfield 35, 3) := by decide +kernel
theorem dX4_findPeak_15 : decode cX4_findPeak 15 = .ok (.iload_n 2, 1) := by decide +kernel
theorem dX4_findPeak_16 : decode cX4_findPeak 16 = .ok (.invokevirtual 43, 3) := by decide +kernel
theorem dX4_findPeak_19 : decode cX4_findPeak 19 = .ok (.ifCond .eq 32, 3) := by decide +kernel
theorem dX4_findPeak_22 : decode cX4_findPeak 22 = .ok (.aload_n 0, 1) := by decide +kernel
theorem dX4_findPeak_23 : decode cX4_findPeak 23 = .ok (.getfield 18, 3) := by decide +kernel
theorem dX4_findPeak_26 : decode cX4_findPeak 26 = .ok (.aload_n 0, 1) := by decide +kernel
theorem dX4_findPeak_27 : decode cX4_findPeak 27 = .ok (.getfield 35, 3) := by decide +kernel
theorem dX4_findPeak_30 : decode cX4_findPeak 30 = .ok (.getfield 49, 3) := by decide +kernel
theorem dX4_findPeak_33 : decode cX4_findPeak 33 = .ok (.iload_n 1, 1) := by decide +kernel
theorem dX4_findPeak_34 : decode cX4_findPeak 34 = .ok (.aaload, 1) := by decide +kernel
theorem dX4_findPeak_35 : decode cX4_findPeak 35 = .ok (.iload_n 3, 1) := by decide +kernel
theorem dX4_findPeak_36 : decode cX4_findPeak 36 = .ok (.aload_n 0, 1) := by decide +kernel
theorem dX4_findPeak_37 : decode cX4_findPeak 37 = .ok (.getfield 35, 3) := by decide +kernel
theorem dX4_findPeak_40 : decode cX4_findPeak 40 = .ok (.getfield 49, 3) := by decide +kernel
theorem dX4_findPeak_43 : decode cX4_findPeak 43 = .ok (.iload_n 2, 1) := by decide +kernel
theorem dX4_findPeak_44 : decode cX4_findPeak 44 = .ok (.aaload, 1) := by decide +kernel
theorem dX4_findPeak_45 : decode cX4_findPeak 45 = .ok (.invokevirtual 53, 3) := by decide +kernel
theorem dX4_findPeak_48 : decode cX4_findPeak 48 = .ok (.ifCond .ne 5, 3) := by decide +kernel
theorem dX4_findPeak_51 : decode cX4_findPeak 51 = .ok (.iconst 0, 1) := by decide +kernel
theorem dX4_findPeak_52 : decode cX4_findPeak 52 = .ok (.ireturn, 1) := by decide +kernel
theorem dX4_findPeak_53 : decode cX4_findPeak 53 = .ok (.aload_n 0, 1) := by decide +kernel
theorem dX4_findPeak_54 : decode cX4_findPeak 54 = .ok (.getfield 18, 3) := by decide +kernel
theorem dX4_findPeak_57 : decode cX4_findPeak 57 = .ok (.invokevirtual 57, 3) := by decide +kernel
theorem dX4_findPeak_60 : decode cX4_findPeak 60 = .ok (.bipush 16, 2) := by decide +kernel
theorem dX4_findPeak_62 : decode cX4_findPeak 62 = .ok (.if_icmp .le 5, 3) := by decide +kernel
theorem dX4_findPeak_65 : decode cX4_findPeak 65 = .ok (.iconst 3, 1) := by decide +kernel
theorem dX4_findPeak_66 : decode cX4_findPeak 66 = .ok (.ireturn, 1) := by decide +kernel
theorem dX4_findPeak_67 : decode cX4_findPeak 67 = .ok (.aload_n 0, 1) := by decide +kernel
theorem dX4_findPeak_68 : decode cX4_findPeak 68 = .ok (.aload_n 0, 1) := by decide +kernel
theorem dX4_findPeak_69 : decode cX4_findPeak 69 = .ok (.getfield 18, 3) := by decide +kernel
theorem dX4_findPeak_72 : decode cX4_findPeak 72 = .ok (.aload_n 0, 1) := by decide +kernel
theorem dX4_findPeak_73 : decode cX4_findPeak 73 = .ok (.getfield 25, 3) := by decide +kernel
theorem dX4_findPeak_76 : decode cX4_findPeak 76 = .ok (.invokevirtual 61, 3) := by decide +kernel
theorem dX4_findPeak_79 : decode cX4_findPeak 79 = .ok (.putfield 65, 3) := by decide +kernel
theorem dX4_findPeak_82 : decode cX4_findPeak 82 = .ok (.iconst 1, 1) := by decide +kernel
theorem dX4_findPeak_83 : decode cX4_findPeak 83 = .ok (.ireturn, 1) := by decide +kernel
theorem dX4_namePeak_0 : decode cX4_namePeak 0 = .ok (.aload_n 0, 1) := by decide +kernel
theorem dX4_namePeak_1 : decode cX4_namePeak 1 = .ok (.getfield 65, 3) := by decide +kernel
theorem dX4_namePeak_4 : decode cX4_namePeak 4 = .ok (.bipush 8, 2) := by decide +kernel
theorem dX4_namePeak_6 : decode cX4_namePeak 6 = .ok (.if_icmp .le 5, 3) := by decide +kernel
theorem dX4_namePeak_9 : decode cX4_namePeak 9 = .ok (.iconst 0, 1) := by decide +kernel
theorem dX4_namePeak_10 : decode cX4_namePeak 10 = .ok (.ireturn, 1) := by decide +kernel
theorem dX4_namePeak_11 : decode cX4_namePeak 11 = .ok (.aload_n 1, 1) := by decide +kernel
theorem dX4_namePeak_12 : decode cX4_namePeak 12 = .ok (.iconst 0, 1) := by decide +kernel
theorem dX4_namePeak_13 : decode cX4_namePeak 13 = .ok (.putfield 69, 3) := by decide +kernel
theorem dX4_namePeak_16 : decode cX4_namePeak 16 = .ok (.iconst 0, 1) := by decide +kernel
theorem dX4_namePeak_17 : decode cX4_namePeak 17 = .ok (.istore_n 2, 1) := by decide +kernel
theorem dX4_namePeak_18 : decode cX4_namePeak 18 = .ok (.iload_n 2, 1) := by decide +kernel
theorem dX4_namePeak_19 : decode cX4_namePeak 19 = .ok (.aload_n 0, 1) := by decide +kernel
theorem dX4_namePeak_20 : decode cX4_namePeak 20 = .ok (.getfield 25, 3) := by decide +kernel
theorem dX4_namePeak_23 : decode cX4_namePeak 23 = .ok (.getfield 69, 3) := by decide +kernel
theorem dX4_namePeak_26 : decode cX4_namePeak 26 = .ok (.if_icmp .ge 48, 3) := by decide +kernel
theorem dX4_namePeak_29 : decode cX4_namePeak 29 = .ok (.aload_n 0, 1) := by decide +kernel
theorem dX4_namePeak_30 : decode cX4_namePeak 30 = .ok (.getfield 25, 3) := by decide +kernel
theorem dX4_namePeak_33 : decode cX4_namePeak 33 = .ok (.getfield 72, 3) := by decide +kernel
theorem dX4_namePeak_36 : decode cX4_namePeak 36 = .ok (.iload_n 2, 1) := by decide +kernel
theorem dX4_namePeak_37 : decode cX4_namePeak 37 = .ok (.iaload, 1) := by decide +kernel
theorem dX4_namePeak_38 : decode cX4_namePeak 38 = .ok (.istore_n 3, 1) := by decide +kernel
theorem dX4_namePeak_39 : decode cX4_namePeak 39 = .ok (.aload_n 1, 1) := by decide +kernel
theorem dX4_namePeak_40 : decode cX4_namePeak 40 = .ok (.iload_n 3, 1) := by decide +kernel
theorem dX4_namePeak_41 : decode cX4_namePeak 41 = .ok (.bipush 16, 2) := by decide +kernel
theorem dX4_namePeak_43 : decode cX4_namePeak 43 = .ok (.if_icmp .gt 12, 3) := by decide +kernel
theorem dX4_namePeak_46 : decode cX4_namePeak 46 = .ok (.bipush 65, 2) := by decide +kernel
theorem dX4_namePeak_48 : decode cX4_namePeak 48 = .ok (.iload_n 3, 1) := by decide +kernel
theorem dX4_namePeak_49 : decode cX4_namePeak 49 = .ok (.iadd, 1) := by decide +kernel
theorem dX4_namePeak_50 : decode cX4_namePeak 50 = .ok (.iconst 1, 1) := by decide +kernel
theorem dX4_namePeak_51 : decode cX4_namePeak 51 = .ok (.isub, 1) := by decide +kernel
theorem dX4_namePeak_52 : decode cX4_namePeak 52 = .ok (.goto 4, 3) := by decide +kernel
theorem dX4_namePeak_55 : decode cX4_namePeak 55 = .ok (.iload_n 3, 1) := by decide +kernel
theorem dX4_namePeak_56 : decode cX4_namePeak 56 = .ok (.aload_n 0, 1) := by decide +kernel
theorem dX4_namePeak_57 : decode cX4_namePeak 57 = .ok (.getfield 25, 3) := by decide +kernel
theorem dX4_namePeak_60 : decode cX4_namePeak 60 = .ok (.getfield 75, 3) := by decide +kernel
theorem dX4_namePeak_63 : decode cX4_namePeak 63 = .ok (.iload_n 2, 1) := by decide +kernel
theorem dX4_namePeak_64 : decode cX4_namePeak 64 = .ok (.iaload, 1) := by decide +kernel
theorem dX4_namePeak_65 : decode cX4_namePeak 65 = .ok (.invokevirtual 78, 3) := by decide +kernel
theorem dX4_namePeak_68 : decode cX4_namePeak 68 = .ok (.iinc 2 1, 3) := by decide +kernel
theorem dX4_namePeak_71 : decode cX4_namePeak 71 = .ok (.goto (-53), 3) := by decide +kernel
theorem dX4_namePeak_74 : decode cX4_namePeak 74 = .ok (.aload_n 1, 1) := by decide +kernel
theorem dX4_namePeak_75 : decode cX4_namePeak 75 = .ok (.invokevirtual 82, 3) := by decide +kernel
theorem dX4_namePeak_78 : decode cX4_namePeak 78 = .ok (.iconst 1, 1) := by decide +kernel
theorem dX4_namePeak_79 : decode cX4_namePeak 79 = .ok (.ireturn, 1) := by decide +kernel
theorem dX4_kindAt_0 : decode cX4_kindAt 0 = .ok (.aload_n 0, 1) := by decide +kernel
theorem dX4_kindAt_1 : decode cX4_kindAt 1 = .ok (.iload_n 1, 1) := by decide +kernel
theorem dX4_kindAt_2 : decode cX4_kindAt 2 = .ok (.iload_n 2, 1) := by decide +kernel
theorem dX4_kindAt_3 : decode cX4_kindAt 3 = .ok (.iload_n 3, 1) := by decide +kernel
theorem dX4_kindAt_4 : decode cX4_kindAt 4 = .ok (.invokevirtual 85, 3) := by decide +kernel
theorem dX4_kindAt_7 : decode cX4_kindAt 7 = .ok (.istore 4, 2) := by decide +kernel
theorem dX4_kindAt_9 : decode cX4_kindAt 9 = .ok (.iload 4, 2) := by decide +kernel
theorem dX4_kindAt_11 : decode cX4_kindAt 11 = .ok (.iconst 1, 1) := by decide +kernel
theorem dX4_kindAt_12 : decode cX4_kindAt 12 = .ok (.if_icmp .eq 6, 3) := by decide +kernel
theorem dX4_kindAt_15 : decode cX4_kindAt 15 = .ok (.iload 4, 2) := by decide +kernel
theorem dX4_kindAt_17 : decode cX4_kindAt 17 = .ok (.ireturn, 1) := by decide +kernel
theorem dX4_kindAt_18 : decode cX4_kindAt 18 = .ok (.aload_n 0, 1) := by decide +kernel
theorem dX4_kindAt_19 : decode cX4_kindAt 19 = .ok (.getfield 29, 3) := by decide +kernel
theorem dX4_kindAt_22 : decode cX4_kindAt 22 = .ok (.aload_n 0, 1) := by decide +kernel
theorem dX4_kindAt_23 : decode cX4_kindAt 23 = .ok (.getfield 25, 3) := by decide +kernel
theorem dX4_kindAt_26 : decode cX4_kindAt 26 = .ok (.invokevirtual 89, 3) := by decide +kernel
theorem dX4_kindAt_29 : decode cX4_kindAt 29 = .ok (.aload_n 0, 1) := by decide +kernel
theorem dX4_kindAt_30 : decode cX4_kindAt 30 = .ok (.getfield 32, 3) := by decide +kernel
theorem dX4_kindAt_33 : decode cX4_kindAt 33 = .ok (.aload_n 0, 1) := by decide +kernel
theorem dX4_kindAt_34 : decode cX4_kindAt 34 = .ok (.getfield 25, 3) := by decide +kernel
theorem dX4_kindAt_37 : decode cX4_kindAt 37 = .ok (.invokevirtual 89, 3) := by decide +kernel
theorem dX4_kindAt_40 : decode cX4_kindAt 40 = .ok (.aload_n 0, 1) := by decide +kernel
theorem dX4_kindAt_41 : decode cX4_kindAt 41 = .ok (.getfield 35, 3) := by decide +kernel
theorem dX4_kindAt_44 : decode cX4_kindAt 44 = .ok (.iload_n 1, 1) := by decide +kernel
theorem dX4_kindAt_45 : decode cX4_kindAt 45 = .ok (.aload_n 0, 1) := by decide +kernel
theorem dX4_kindAt_46 : decode cX4_kindAt 46 = .ok (.getfield 29, 3) := by decide +kernel
theorem dX4_kindAt_49 : decode cX4_kindAt 49 = .ok (.iconst 0, 1) := by decide +kernel
theorem dX4_kindAt_50 : decode cX4_kindAt 50 = .ok (.invokevirtual 93, 3) := by decide +kernel
theorem dX4_kindAt_53 : decode cX4_kindAt 53 = .ok (.istore 5, 2) := by decide +kernel
theorem dX4_kindAt_55 : decode cX4_kindAt 55 = .ok (.aload_n 0, 1) := by decide +kernel
theorem dX4_kindAt_56 : decode cX4_kindAt 56 = .ok (.getfield 35, 3) := by decide +kernel
theorem dX4_kindAt_59 : decode cX4_kindAt 59 = .ok (.iload_n 2, 1) := by decide +kernel
theorem dX4_kindAt_60 : decode cX4_kindAt 60 = .ok (.aload_n 0, 1) := by decide +kernel
theorem dX4_kindAt_61 : decode cX4_kindAt 61 = .ok (.getfield 32, 3) := by decide +kernel
theorem dX4_kindAt_64 : decode cX4_kindAt 64 = .ok (.aload_n 0, 1) := by decide +kernel
theorem dX4_kindAt_65 : decode cX4_kindAt 65 = .ok (.getfield 18, 3) := by decide +kernel
theorem dX4_kindAt_68 : decode cX4_kindAt 68 = .ok (.iload_n 3, 1) := by decide +kernel
theorem dX4_kindAt_69 : decode cX4_kindAt 69 = .ok (.invokevirtual 97, 3) := by decide +kernel
theorem dX4_kindAt_72 : decode cX4_kindAt 72 = .ok (.invokevirtual 93, 3) := by decide +kernel
theorem dX4_kindAt_75 : decode cX4_kindAt 75 = .ok (.istore 6, 2) := by decide +kernel
theorem dX4_kindAt_77 : decode cX4_kindAt 77 = .ok (.iload 5, 2) := by decide +kernel
theorem dX4_kindAt_79 : decode cX4_kindAt 79 = .ok (.bipush 16, 2) := by decide +kernel
theorem dX4_kindAt_81 : decode cX4_kindAt 81 = .ok (.if_icmp .gt 10, 3) := by decide +kernel
theorem dX4_kindAt_84 : decode cX4_kindAt 84 = .ok (.iload 6, 2) := by decide +kernel
theorem dX4_kindAt_86 : decode cX4_kindAt 86 = .ok (.bipush 16, 2) := by decide +kernel
theorem dX4_kindAt_88 : decode cX4_kindAt 88 = .ok (.if_icmp .le 5, 3) := by decide +kernel
theorem dX4_kindAt_91 : decode cX4_kindAt 91 = .ok (.iconst 3, 1) := by decide +kernel
theorem dX4_kindAt_92 : decode cX4_kindAt 92 = .ok (.ireturn, 1) := by decide +kernel
theorem dX4_kindAt_93 : decode cX4_kindAt 93 = .ok (.aload_n 0, 1) := by decide +kernel
theorem dX4_kindAt_94 : decode cX4_kindAt 94 = .ok (.getfield 39, 3) := by decide +kernel
theorem dX4_kindAt_97 : decode cX4_kindAt 97 = .ok (.aload_n 0, 1) := by decide +kernel
theorem dX4_kindAt_98 : decode cX4_kindAt 98 = .ok (.getfield 29, 3) := by decide +kernel
theorem dX4_kindAt_101 : decode cX4_kindAt 101 = .ok (.iconst 1, 1) := by decide +kernel
theorem dX4_kindAt_102 : decode cX4_kindAt 102 = .ok (.invokevirtual 101, 3) := by decide +kernel
theorem dX4_kindAt_105 : decode cX4_kindAt 105 = .ok (.ifCond .ne 18, 3) := by decide +kernel
theorem dX4_kindAt_108 : decode cX4_kindAt 108 = .ok (.aload_n 0, 1) := by decide +kernel
theorem dX4_kindAt_109 : decode cX4_kindAt 109 = .ok (.getfield 39, 3) := by decide +kernel
theorem dX4_kindAt_112 : decode cX4_kindAt 112 = .ok (.aload_n 0, 1) := by decide +kernel
theorem dX4_kindAt_113 : decode cX4_kindAt 113 = .ok (.getfield 32, 3) := by decide +kernel
theorem dX4_kindAt_116 : decode cX4_kindAt 116 = .ok (.iconst 1, 1) := by decide +kernel
theorem dX4_kindAt_117 : decode cX4_kindAt 117 = .ok (.invokevirtual 101, 3) := by decide +kernel
theorem dX4_kindAt_120 : decode cX4_kindAt 120 = .ok (.ifCond .eq 5, 3) := by decide +kernel
theorem dX4_kindAt_123 : decode cX4_kindAt 123 = .ok (.iconst 1, 1) := by decide +kernel
theorem dX4_kindAt_124 : decode cX4_kindAt 124 = .ok (.ireturn, 1) := by decide +kernel
theorem dX4_kindAt_125 : decode cX4_kindAt 125 = .ok (.aload_n 0, 1) := by decide +kernel
theorem dX4_kindAt_126 : decode cX4_kindAt 126 = .ok (.getfield 29, 3) := by decide +kernel
theorem dX4_kindAt_129 : decode cX4_kindAt 129 = .ok (.iconst 0, 1) := by decide +kernel
theorem dX4_kindAt_130 : decode cX4_kindAt 130 = .ok (.aload_n 0, 1) := by decide +kernel
theorem dX4_kindAt_131 : decode cX4_kindAt 131 = .ok (.getfield 32, 3) := by decide +kernel
theorem dX4_kindAt_134 : decode cX4_kindAt 134 = .ok (.iconst 0, 1) := by decide +kernel
theorem dX4_kindAt_135 : decode cX4_kindAt 135 = .ok (.invokevirtual 107, 3) := by decide +kernel
theorem dX4_kindAt_138 : decode cX4_kindAt 138 = .ok (.ifCond .eq 7, 3) := by decide +kernel
theorem dX4_kindAt_141 : decode cX4_kindAt 141 = .ok (.iconst 2, 1) := by decide +kernel
theorem dX4_kindAt_142 : decode cX4_kindAt 142 = .ok (.goto 4, 3) := by decide +kernel
theorem dX4_kindAt_145 : decode cX4_kindAt 145 = .ok (.iconst 1, 1) := by decide +kernel
theorem dX4_kindAt_146 : decode cX4_kindAt 146 = .ok (.ireturn, 1) := by decide +kernel
theorem dX4_countAll_0 : decode cX4_countAll 0 = .ok (.aload_n 0, 1) := by decide +kernel
theorem dX4_countAll_1 : decode cX4_countAll 1 = .ok (.getfield 111, 3) := by decide +kernel
theorem dX4_countAll_4 : decode cX4_countAll 4 = .ok (.ifCond .eq 4, 3) := by decide +kernel
theorem dX4_countAll_7 : decode cX4_countAll 7 = .ok (.return_, 1) := by decide +kernel
theorem dX4_countAll_8 : decode cX4_countAll 8 = .ok (.iconst 0, 1) := by decide +kernel
theorem dX4_countAll_9 : decode cX4_countAll 9 = .ok (.istore_n 1, 1) := by decide +kernel
theorem dX4_countAll_10 : decode cX4_countAll 10 = .ok (.iload_n 1, 1) := by decide +kernel
theorem dX4_countAll_11 : decode cX4_countAll 11 = .ok (.aload_n 0, 1) := by decide +kernel
theorem dX4_countAll_12 : decode cX4_countAll 12 = .ok (.getfield 9, 3) := by decide +kernel
theorem dX4_countAll_15 : decode cX4_countAll 15 = .ok (.arraylength, 1) := by decide +kernel
theorem dX4_countAll_16 : decode cX4_countAll 16 = .ok (.if_icmp .ge 16, 3) := by decide +kernel
theorem dX4_countAll_19 : decode cX4_countAll 19 = .ok (.aload_n 0, 1) := by decide +kernel
theorem dX4_countAll_20 : decode cX4_countAll 20 = .ok (.getfield 9, 3) := by decide +kernel
theorem dX4_countAll_23 : decode cX4_countAll 23 = .ok (.iload_n 1, 1) := by decide +kernel
theorem dX4_countAll_24 : decode cX4_countAll 24 = .ok (.iconst 0, 1) := by decide +kernel
theorem dX4_countAll_25 : decode cX4_countAll 25 = .ok (.iastore, 1) := by decide +kernel
theorem dX4_countAll_26 : decode cX4_countAll 26 = .ok (.iinc 1 1, 3) := by decide +kernel
theorem dX4_countAll_29 : decode cX4_countAll 29 = .ok (.goto (-19), 3) := by decide +kernel
theorem dX4_countAll_32 : decode cX4_countAll 32 = .ok (.iconst 0, 1) := by decide +kernel
theorem dX4_countAll_33 : decode cX4_countAll 33 = .ok (.istore_n 1, 1) := by decide +kernel
theorem dX4_countAll_34 : decode cX4_countAll 34 = .ok (.iload_n 1, 1) := by decide +kernel
theorem dX4_countAll_35 : decode cX4_countAll 35 = .ok (.aload_n 0, 1) := by decide +kernel
theorem dX4_countAll_36 : decode cX4_countAll 36 = .ok (.getfield 35, 3) := by decide +kernel
theorem dX4_countAll_39 : decode cX4_countAll 39 = .ok (.getfield 115, 3) := by decide +kernel
theorem dX4_countAll_42 : decode cX4_countAll 42 = .ok (.if_icmp .ge 94, 3) := by decide +kernel
theorem dX4_countAll_45 : decode cX4_countAll 45 = .ok (.aload_n 0, 1) := by decide +kernel
theorem dX4_countAll_46 : decode cX4_countAll 46 = .ok (.getfield 35, 3) := by decide +kernel
theorem dX4_countAll_49 : decode cX4_countAll 49 = .ok (.getfield 49, 3) := by decide +kernel
theorem dX4_countAll_52 : decode cX4_countAll 52 = .ok (.iload_n 1, 1) := by decide +kernel
theorem dX4_countAll_53 : decode cX4_countAll 53 = .ok (.aaload, 1) := by decide +kernel
theorem dX4_countAll_54 : decode cX4_countAll 54 = .ok (.astore_n 2, 1) := by decide +kernel
theorem dX4_countAll_55 : decode cX4_countAll 55 = .ok (.iconst 0, 1) := by decide +kernel
theorem dX4_countAll_56 : decode cX4_countAll 56 = .ok (.istore_n 3, 1) := by decide +kernel
theorem dX4_countAll_57 : decode cX4_countAll 57 = .ok (.iload_n 3, 1) := by decide +kernel
theorem dX4_countAll_58 : decode cX4_countAll 58 = .ok (.aload_n 0, 1) := by decide +kernel
theorem dX4_countAll_59 : decode cX4_countAll 59 = .ok (.getfield 35, 3) := by decide +kernel
theorem dX4_countAll_62 : decode cX4_countAll 62 = .ok (.getfield 115, 3) := by decide +kernel
theorem dX4_countAll_65 : decode cX4_countAll 65 = .ok (.if_icmp .ge 65, 3) := by decide +kernel
theorem dX4_countAll_68 : decode cX4_countAll 68 = .ok (.iload_n 1, 1) := by decide +kernel
theorem dX4_countAll_69 : decode cX4_countAll 69 = .ok (.iload_n 3, 1) := by decide +kernel
theorem dX4_countAll_70 : decode cX4_countAll 70 = .ok (.if_icmp .ne 7, 3) := by decide +kernel
theorem dX4_countAll_73 : decode cX4_countAll 73 = .ok (.iconst 1, 1) := by decide +kernel
theorem dX4_countAll_74 : decode cX4_countAll 74 = .ok (.goto 4, 3) := by decide +kernel
theorem dX4_countAll_77 : decode cX4_countAll 77 = .ok (.iconst 0, 1) := by decide +kernel
theorem dX4_countAll_78 : decode cX4_countAll 78 = .ok (.istore 4, 2) := by decide +kernel
theorem dX4_countAll_80 : decode cX4_countAll 80 = .ok (.iload 4, 2) := by decide +kernel
theorem dX4_countAll_82 : decode cX4_countAll 82 = .ok (.aload_n 2, 1) := by decide +kernel
theorem dX4_countAll_83 : decode cX4_countAll 83 = .ok (.getfield 69, 3) := by decide +kernel
theorem dX4_countAll_86 : decode cX4_countAll 86 = .ok (.if_icmp .ge 38, 3) := by decide +kernel
theorem dX4_countAll_89 : decode cX4_countAll 89 = .ok (.aload_n 0, 1) := by decide +kernel
theorem dX4_countAll_90 : decode cX4_countAll 90 = .ok (.aload_n 2, 1) := by decide +kernel
theorem dX4_countAll_91 : decode cX4_countAll 91 = .ok (.getfield 72, 3) := by decide +kernel
theorem dX4_countAll_94 : decode cX4_countAll 94 = .ok (.iload 4, 2) := by decide +kernel
theorem dX4_countAll_96 : decode cX4_countAll 96 = .ok (.iaload, 1) := by decide +kernel
theorem dX4_countAll_97 : decode cX4_countAll 97 = .ok (.invokestatic 116, 3) := by decide +kernel
theorem dX4_countAll_100 : decode cX4_countAll 100 = .ok (.ifCond .eq 7, 3) := by decide +kernel
theorem dX4_countAll_103 : decode cX4_countAll 103 = .ok (.iconst 0, 1) := by decide +kernel
theorem dX4_countAll_104 : decode cX4_countAll 104 = .ok (.goto 11, 3) := by decide +kernel
theorem dX4_countAll_107 : decode cX4_countAll 107 = .ok (.aload_n 0, 1) := by decide +kernel
theorem dX4_countAll_108 : decode cX4_countAll 108 = .ok (.iload_n 1, 1) := by decide +kernel
theorem dX4_countAll_109 : decode cX4_countAll 109 = .ok (.iload_n 3, 1) := by decide +kernel
theorem dX4_countAll_110 : decode cX4_countAll 110 = .ok (.iload 4, 2) := by decide +kernel
theorem dX4_countAll_112 : decode cX4_countAll 112 = .ok (.invokevirtual 119, 3) := by decide +kernel
theorem dX4_countAll_115 : decode cX4_countAll 115 = .ok (.invokevirtual 122, 3) := by decide +kernel
theorem dX4_countAll_118 : decode cX4_countAll 118 = .ok (.iinc 4 1, 3) := by decide +kernel
theorem dX4_countAll_121 : decode cX4_countAll 121 = .ok (.goto (-41), 3) := by decide +kernel
theorem dX4_countAll_124 : decode cX4_countAll 124 = .ok (.iinc 3 1, 3) := by decide +kernel
theorem dX4_countAll_127 : decode cX4_countAll 127 = .ok (.goto (-70), 3) := by decide +kernel
theorem dX4_countAll_130 : decode cX4_countAll 130 = .ok (.iinc 1 1, 3) := by decide +kernel
theorem dX4_countAll_133 : decode cX4_countAll 133 = .ok (.goto (-99), 3) := by decide +kernel
theorem dX4_countAll_136 : decode cX4_countAll 136 = .ok (.aload_n 0, 1) := by decide +kernel
theorem dX4_countAll_137 : decode cX4_countAll 137 = .ok (.iconst 1, 1) := by decide +kernel
theorem dX4_countAll_138 : decode cX4_countAll 138 = .ok (.putfield 111, 3) := by decide +kernel
theorem dX4_countAll_141 : decode cX4_countAll 141 = .ok (.return_, 1) := by decide +kernel
theorem dX4_count_0 : decode cX4_count 0 = .ok (.iload_n 1, 1) := by decide +kernel
theorem dX4_count_1 : decode cX4_count 1 = .ok (.ifCond .ne 4, 3) := by decide +kernel
theorem dX4_count_4 : decode cX4_count 4 = .ok (.return_, 1) := by decide +kernel
theorem dX4_count_5 : decode cX4_count 5 = .ok (.aload_n 0, 1) := by decide +kernel
theorem dX4_count_6 : decode cX4_count 6 = .ok (.getfield 9, 3) := by decide +kernel
theorem dX4_count_9 : decode cX4_count 9 = .ok (.iconst 0, 1) := by decide +kernel
theorem dX4_count_10 : decode cX4_count 10 = .ok (.dup2, 1) := by decide +kernel
theorem dX4_count_11 : decode cX4_count 11 = .ok (.iaload, 1) := by decide +kernel
theorem dX4_count_12 : decode cX4_count 12 = .ok (.iconst 1, 1) := by decide +kernel
theorem dX4_count_13 : decode cX4_count 13 = .ok (.iadd, 1) := by decide +kernel
theorem dX4_count_14 : decode cX4_count 14 = .ok (.iastore, 1) := by decide +kernel
theorem dX4_count_15 : decode cX4_count 15 = .ok (.aload_n 0, 1) := by decide +kernel
theorem dX4_count_16 : decode cX4_count 16 = .ok (.getfield 9, 3) := by decide +kernel
theorem dX4_count_19 : decode cX4_count 19 = .ok (.iload_n 1, 1) := by decide +kernel
theorem dX4_count_20 : decode cX4_count 20 = .ok (.iconst 2, 1) := by decide +kernel
theorem dX4_count_21 : decode cX4_count 21 = .ok (.if_icmp .ne 7, 3) := by decide +kernel
theorem dX4_count_24 : decode cX4_count 24 = .ok (.iconst 1, 1) := by decide +kernel
theorem dX4_count_25 : decode cX4_count 25 = .ok (.goto 13, 3) := by decide +kernel
theorem dX4_count_28 : decode cX4_count 28 = .ok (.iload_n 1, 1) := by decide +kernel
theorem dX4_count_29 : decode cX4_count 29 = .ok (.iconst 1, 1) := by decide +kernel
theorem dX4_count_30 : decode cX4_count 30 = .ok (.if_icmp .ne 7, 3) := by decide +kernel
theorem dX4_count_33 : decode cX4_count 33 = .ok (.iconst 2, 1) := by decide +kernel
theorem dX4_count_34 : decode cX4_count 34 = .ok (.goto 4, 3) := by decide +kernel
theorem dX4_count_37 : decode cX4_count 37 = .ok (.iconst 3, 1) := by decide +kernel
theorem dX4_count_38 : decode cX4_count 38 = .ok (.dup2, 1) := by decide +kernel
theorem dX4_count_39 : decode cX4_count 39 = .ok (.iaload, 1) := by decide +kernel
theorem dX4_count_40 : decode cX4_count 40 = .ok (.iconst 1, 1) := by decide +kernel
theorem dX4_count_41 : decode cX4_count 41 = .ok (.iadd, 1) := by decide +kernel
theorem dX4_count_42 : decode cX4_count 42 = .ok (.iastore, 1) := by decide +kernel
theorem dX4_count_43 : decode cX4_count 43 = .ok (.return_, 1) := by decide +kernel
theorem dX5_init_0 : decode cX5_init 0 = .ok (.aload_n 0, 1) := by decide +kernel
theorem dX5_init_1 : decode cX5_init 1 = .ok (.invokespecial 3, 3) := by decide +kernel
theorem dX5_init_4 : decode cX5_init 4 = .ok (.aload_n 0, 1) := by decide +kernel
theorem dX5_init_5 : decode cX5_init 5 = .ok (.bipush 60, 2) := by decide +kernel
theorem dX5_init_7 : decode cX5_init 7 = .ok (.newarray .int, 2) := by decide +kernel
theorem dX5_init_9 : decode cX5_init 9 = .ok (.putfield 9, 3) := by decide +kernel
theorem dX5_init_12 : decode cX5_init 12 = .ok (.return_, 1) := by decide +kernel
theorem dX5_append_0 : decode cX5_append 0 = .ok (.aload_n 0, 1) := by decide +kernel
theorem dX5_append_1 : decode cX5_append 1 = .ok (.getfield 15, 3) := by decide +kernel
theorem dX5_append_4 : decode cX5_append 4 = .ok (.bipush 60, 2) := by decide +kernel
theorem dX5_append_6 : decode cX5_append 6 = .ok (.if_icmp .lt 5, 3) := by decide +kernel
theorem dX5_append_9 : decode cX5_append 9 = .ok (.iconst 0, 1) := by decide +kernel
theorem dX5_append_10 : decode cX5_append 10 = .ok (.ireturn, 1) := by decide +kernel
theorem dX5_append_11 : decode cX5_append 11 = .ok (.aload_n 0, 1) := by decide +kernel
theorem dX5_append_12 : decode cX5_append 12 = .ok (.getfield 9, 3) := by decide +kernel
theorem dX5_append_15 : decode cX5_append 15 = .ok (.aload_n 0, 1) := by decide +kernel
theorem dX5_append_16 : decode cX5_append 16 = .ok (.getfield 15, 3) := by decide +kernel
theorem dX5_append_19 : decode cX5_append 19 = .ok (.iload_n 1, 1) := by decide +kernel
theorem dX5_append_20 : decode cX5_append 20 = .ok (.iastore, 1) := by decide +kernel
theorem dX5_append_21 : decode cX5_append 21 = .ok (.aload_n 0, 1) := by decide +kernel
theorem dX5_append_22 : decode cX5_append 22 = .ok (.dup, 1) := by decide +kernel
theorem dX5_append_23 : decode cX5_append 23 = .ok (.getfield 15, 3) := by decide +kernel
theorem dX5_append_26 : decode cX5_append 26 = .ok (.iconst 1, 1) := by decide +kernel
theorem dX5_append_27 : decode cX5_append 27 = .ok (.iadd, 1) := by decide +kernel
theorem dX5_append_28 : decode cX5_append 28 = .ok (.putfield 15, 3) := by decide +kernel
theorem dX5_append_31 : decode cX5_append 31 = .ok (.iconst 1, 1) := by decide +kernel
theorem dX5_append_32 : decode cX5_append 32 = .ok (.ireturn, 1) := by decide +kernel
theorem dX5_firstFault_0 : decode cX5_firstFault 0 = .ok (.iconst 0, 1) := by decide +kernel
theorem dX5_firstFault_1 : decode cX5_firstFault 1 = .ok (.istore_n 1, 1) := by decide +kernel
theorem dX5_firstFault_2 : decode cX5_firstFault 2 = .ok (.iconst 0, 1) := by decide +kernel
theorem dX5_firstFault_3 : decode cX5_firstFault 3 = .ok (.istore_n 2, 1) := by decide +kernel
theorem dX5_firstFault_4 : decode cX5_firstFault 4 = .ok (.iconst 0, 1) := by decide +kernel
theorem dX5_firstFault_5 : decode cX5_firstFault 5 = .ok (.istore_n 3, 1) := by decide +kernel
theorem dX5_firstFault_6 : decode cX5_firstFault 6 = .ok (.iload_n 3, 1) := by decide +kernel
theorem dX5_firstFault_7 : decode cX5_firstFault 7 = .ok (.aload_n 0, 1) := by decide +kernel
theorem dX5_firstFault_8 : decode cX5_firstFault 8 = .ok (.getfield 15, 3) := by decide +kernel
theorem dX5_firstFault_11 : decode cX5_firstFault 11 = .ok (.if_icmp .ge 55, 3) := by decide +kernel
theorem dX5_firstFault_14 : decode cX5_firstFault 14 = .ok (.aload_n 0, 1) := by decide +kernel
theorem dX5_firstFault_15 : decode cX5_firstFault 15 = .ok (.getfield 9, 3) := by decide +kernel
theorem dX5_firstFault_18 : decode cX5_firstFault 18 = .ok (.iload_n 3, 1) := by decide +kernel
theorem dX5_firstFault_19 : decode cX5_firstFault 19 = .ok (.iaload, 1) := by decide +kernel
theorem dX5_firstFault_20 : decode cX5_firstFault 20 = .ok (.istore 4, 2) := by decide +kernel
theorem dX5_firstFault_22 : decode cX5_firstFault 22 = .ok (.iload_n 2, 1) := by decide +kernel
theorem dX5_firstFault_23 : decode cX5_firstFault 23 = .ok (.iload 4, 2) := by decide +kernel
theorem dX5_firstFault_25 : decode cX5_firstFault 25 = .ok (.iload_n 1, 1) := by decide +kernel
theorem dX5_firstFault_26 : decode cX5_firstFault 26 = .ok (.invokestatic 19, 3) := by decide +kernel
theorem dX5_firstFault_29 : decode cX5_firstFault 29 = .ok (.ifCond .ne 5, 3) := by decide +kernel
theorem dX5_firstFault_32 : decode cX5_firstFault 32 = .ok (.iload_n 3, 1) := by decide +kernel
theorem dX5_firstFault_33 : decode cX5_firstFault 33 = .ok (.ireturn, 1) := by decide +kernel
theorem dX5_firstFault_34 : decode cX5_firstFault 34 = .ok (.iload 4, 2) := by decide +kernel
theorem dX5_firstFault_36 : decode cX5_firstFault 36 = .ok (.bipush 40, 2) := by decide +kernel
theorem dX5_firstFault_38 : decode cX5_firstFault 38 = .ok (.if_icmp .ne 9, 3) := by decide +kernel
theorem dX5_firstFault_41 : decode cX5_firstFault 41 = .ok (.iinc 1 1, 3) := by decide +kernel
theorem dX5_firstFault_44 : decode cX5_firstFault 44 = .ok (.goto 13, 3) := by decide +kernel
theorem dX5_firstFault_47 : decode cX5_firstFault 47 = .ok (.iload 4, 2) := by decide +kernel
theorem dX5_firstFault_49 : decode cX5_firstFault 49 = .ok (.bipush 41, 2) := by decide +kernel
theorem dX5_firstFault_51 : decode cX5_firstFault 51 = .ok (.if_icmp .ne 6, 3) := by decide +kernel
theorem dX5_firstFault_54 : decode cX5_firstFault 54 = .ok (.iinc 1 (-1), 3) := by decide +kernel
theorem dX5_firstFault_57 : decode cX5_firstFault 57 = .ok (.iload 4, 2) := by decide +kernel
theorem dX5_firstFault_59 : decode cX5_firstFault 59 = .ok (.istore_n 2, 1) := by decide +kernel
theorem dX5_firstFault_60 : decode cX5_firstFault 60 = .ok (.iinc 3 1, 3) := by decide +kernel
theorem dX5_firstFault_63 : decode cX5_firstFault 63 = .ok (.goto (-57), 3) := by decide +kernel
theorem dX5_firstFault_66 : decode cX5_firstFault 66 = .ok (.iload_n 2, 1) := by decide +kernel
theorem dX5_firstFault_67 : decode cX5_firstFault 67 = .ok (.ifCond .eq 7, 3) := by decide +kernel
theorem dX5_firstFault_70 : decode cX5_firstFault 70 = .ok (.iload_n 1, 1) := by decide +kernel
theorem dX5_firstFault_71 : decode cX5_firstFault 71 = .ok (.ifCond .le 10, 3) := by decide +kernel
theorem dX5_firstFault_74 : decode cX5_firstFault 74 = .ok (.aload_n 0, 1) := by decide +kernel
theorem dX5_firstFault_75 : decode cX5_firstFault 75 = .ok (.getfield 15, 3) := by decide +kernel
theorem dX5_firstFault_78 : decode cX5_firstFault 78 = .ok (.goto 4, 3) := by decide +kernel
theorem dX5_firstFault_81 : decode cX5_firstFault 81 = .ok (.iconst (-1), 1) := by decide +kernel
theorem dX5_firstFault_82 : decode cX5_firstFault 82 = .ok (.ireturn, 1) := by decide +kernel
theorem dX5_mayFollow_0 : decode cX5_mayFollow 0 = .ok (.iload_n 1, 1) := by decide +kernel
theorem dX5_mayFollow_1 : decode cX5_mayFollow 1 = .ok (.invokestatic 23, 3) := by decide +kernel
theorem dX5_mayFollow_4 : decode cX5_mayFollow 4 = .ok (.ifCond .ne 10, 3) := by decide +kernel
theorem dX5_mayFollow_7 : decode cX5_mayFollow 7 = .ok (.iload_n 1, 1) := by decide +kernel
theorem dX5_mayFollow_8 : decode cX5_mayFollow 8 = .ok (.invokestatic 27, 3) := by decide +kernel
theorem dX5_mayFollow_11 : decode cX5_mayFollow 11 = .ok (.ifCond .eq 7, 3) := by decide +kernel
theorem dX5_mayFollow_14 : decode cX5_mayFollow 14 = .ok (.iconst 1, 1) := by decide +kernel
theorem dX5_mayFollow_15 : decode cX5_mayFollow 15 = .ok (.goto 4, 3) := by decide +kernel
theorem dX5_mayFollow_18 : decode cX5_mayFollow 18 = .ok (.iconst 0, 1) := by decide +kernel
theorem dX5_mayFollow_19 : decode cX5_mayFollow 19 = .ok (.istore_n 3, 1) := by decide +kernel
theorem dX5_mayFollow_20 : decode cX5_mayFollow 20 = .ok (.iload_n 0, 1) := by decide +kernel
theorem dX5_mayFollow_21 : decode cX5_mayFollow 21 = .ok (.ifCond .eq 9, 3) := by decide +kernel
theorem dX5_mayFollow_24 : decode cX5_mayFollow 24 = .ok (.iload_n 0, 1) := by decide +kernel
theorem dX5_mayFollow_25 : decode cX5_mayFollow 25 = .ok (.bipush 40, 2) := by decide +kernel
theorem dX5_mayFollow_27 : decode cX5_mayFollow 27 = .ok (.if_icmp .ne 5, 3) := by decide +kernel
theorem dX5_mayFollow_30 : decode cX5_mayFollow 30 = .ok (.iload_n 3, 1) := by decide +kernel
theorem dX5_mayFollow_31 : decode cX5_mayFollow 31 = .ok (.ireturn, 1) := by decide +kernel
theorem dX5_mayFollow_32 : decode cX5_mayFollow 32 = .ok (.iload_n 1, 1) := by decide +kernel
theorem dX5_mayFollow_33 : decode cX5_mayFollow 33 = .ok (.bipush 40, 2) := by decide +kernel
theorem dX5_mayFollow_35 : decode cX5_mayFollow 35 = .ok (.if_icmp .ne 8, 3) := by decide +kernel
theorem dX5_mayFollow_38 : decode cX5_mayFollow 38 = .ok (.iload_n 0, 1) := by decide +kernel
theorem dX5_mayFollow_39 : decode cX5_mayFollow 39 = .ok (.invokestatic 23, 3) := by decide +kernel
theorem dX5_mayFollow_42 : decode cX5_mayFollow 42 = .ok (.ireturn, 1) := by decide +kernel
theorem dX5_mayFollow_43 : decode cX5_mayFollow 43 = .ok (.iload_n 2, 1) := by decide +kernel
theorem dX5_mayFollow_44 : decode cX5_mayFollow 44 = .ok (.ifCond .le 17, 3) := by decide +kernel
theorem dX5_mayFollow_47 : decode cX5_mayFollow 47 = .ok (.iload_n 3, 1) := by decide +kernel
theorem dX5_mayFollow_48 : decode cX5_mayFollow 48 = .ok (.ifCond .ne 9, 3) := by decide +kernel
theorem dX5_mayFollow_51 : decode cX5_mayFollow 51 = .ok (.iload_n 1, 1) := by decide +kernel
theorem dX5_mayFollow_52 : decode cX5_mayFollow 52 = .ok (.bipush 41, 2) := by decide +kernel
theorem dX5_mayFollow_54 : decode cX5_mayFollow 54 = .ok (.if_icmp .ne 7, 3) := by decide +kernel
theorem dX5_mayFollow_57 : decode cX5_mayFollow 57 = .ok (.iconst 1, 1) := by decide +kernel
theorem dX5_mayFollow_58 : decode cX5_mayFollow 58 = .ok (.goto 4, 3) := by decide +kernel
theorem dX5_mayFollow_61 : decode cX5_mayFollow 61 = .ok (.iconst 0, 1) := by decide +kernel
theorem dX5_mayFollow_62 : decode cX5_mayFollow 62 = .ok (.ireturn, 1) := by decide +kernel
theorem dX5_nodeCount_0 : decode cX5_nodeCount 0 = .ok (.iconst 0, 1) := by decide +kernel
theorem dX5_nodeCount_1 : decode cX5_nodeCount 1 = .ok (.istore_n 1, 1) := by decide +kernel
theorem dX5_nodeCount_2 : decode cX5_nodeCount 2 = .ok (.iconst 0, 1) := by decide +kernel
theorem dX5_nodeCount_3 : decode cX5_nodeCount 3 = .ok (.istore_n 2, 1) := by decide +kernel
theorem dX5_nodeCount_4 : decode cX5_nodeCount 4 = .ok (.iload_n 2, 1) := by decide +kernel
theorem dX5_nodeCount_5 : decode cX5_nodeCount 5 = .ok (.aload_n 0, 1) := by decide +kernel
theorem dX5_nodeCount_6 : decode cX5_nodeCount 6 = .ok (.getfield 15, 3) := by decide +kernel
theorem dX5_nodeCount_9 : decode cX5_nodeCount 9 = .ok (.if_icmp .ge 34, 3) := by decide +kernel
theorem dX5_nodeCount_12 : decode cX5_nodeCount 12 = .ok (.aload_n 0, 1) := by decide +kernel
theorem dX5_nodeCount_13 : decode cX5_nodeCount 13 = .ok (.getfield 9, 3) := by decide +kernel
theorem dX5_nodeCount_16 : decode cX5_nodeCount 16 = .ok (.iload_n 2, 1) := by decide +kernel
theorem dX5_nodeCount_17 : decode cX5_nodeCount 17 = .ok (.iaload, 1) := by decide +kernel
theorem dX5_nodeCount_18 : decode cX5_nodeCount 18 = .ok (.bipush 40, 2) := by decide +kernel
theorem dX5_nodeCount_20 : decode cX5_nodeCount 20 = .ok (.if_icmp .eq 17, 3) := by decide +kernel
theorem dX5_nodeCount_23 : decode cX5_nodeCount 23 = .ok (.aload_n 0, 1) := by decide +kernel
theorem dX5_nodeCount_24 : decode cX5_nodeCount 24 = .ok (.getfield 9, 3) := by decide +kernel
theorem dX5_nodeCount_27 : decode cX5_nodeCount 27 = .ok (.iload_n 2, 1) := by decide +kernel
theorem dX5_nodeCount_28 : decode cX5_nodeCount 28 = .ok (.iaload, 1) := by decide +kernel
theorem dX5_nodeCount_29 : decode cX5_nodeCount 29 = .ok (.bipush 41, 2) := by decide +kernel
theorem dX5_nodeCount_31 : decode cX5_nodeCount 31 = .ok (.if_icmp .eq 6, 3) := by decide +kernel
theorem dX5_nodeCount_34 : decode cX5_nodeCount 34 = .ok (.iinc 1 1, 3) := by decide +kernel
theorem dX5_nodeCount_37 : decode cX5_nodeCount 37 = .ok (.iinc 2 1, 3) := by decide +kernel
theorem dX5_nodeCount_40 : decode cX5_nodeCount 40 = .ok (.goto (-36), 3) := by decide +kernel
theorem dX5_nodeCount_43 : decode cX5_nodeCount 43 = .ok (.iload_n 1, 1) := by decide +kernel
theorem dX5_nodeCount_44 : decode cX5_nodeCount 44 = .ok (.ireturn, 1) := by decide +kernel
theorem dX5_parse_0 : decode cX5_parse 0 = .ok (.aload_n 1, 1) := by decide +kernel
theorem dX5_parse_1 : decode cX5_parse 1 = .ok (.iconst 0, 1) := by decide +kernel
theorem dX5_parse_2 : decode cX5_parse 2 = .ok (.putfield 30, 3) := by decide +kernel
theorem dX5_parse_5 : decode cX5_parse 5 = .ok (.bipush (-6), 2) := by decide +kernel
theorem dX5_parse_7 : decode cX5_parse 7 = .ok (.istore_n 2, 1) := by decide +kernel
theorem dX5_parse_8 : decode cX5_parse 8 = .ok (.iconst 0, 1) := by decide +kernel
theorem dX5_parse_9 : decode cX5_parse 9 = .ok (.istore_n 3, 1) := by decide +kernel
theorem dX5_parse_10 : decode cX5_parse 10 = .ok (.iload_n 3, 1) := by decide +kernel
theorem dX5_parse_11 : decode cX5_parse 11 = .ok (.aload_n 0, 1) := by decide +kernel
theorem dX5_parse_12 : decode cX5_parse 12 = .ok (.getfield 15, 3) := by decide +kernel
theorem dX5_parse_15 : decode cX5_parse 15 = .ok (.if_icmp .ge 112, 3) := by decide +kernel
theorem dX5_parse_18 : decode cX5_parse 18 = .ok (.aload_n 0, 1) := by decide +kernel
theorem dX5_parse_19 : decode cX5_parse 19 = .ok (.getfield 9, 3) := by decide +kernel
theorem dX5_parse_22 : decode cX5_parse 22 = .ok (.iload_n 3, 1) := by decide +kernel
theorem dX5_parse_23 : decode cX5_parse 23 = .ok (.iaload, 1) := by decide +kernel
theorem dX5_parse_24 : decode cX5_parse 24 = .ok (.bipush 40, 2) := by decide +kernel
theorem dX5_parse_26 : decode cX5_parse 26 = .ok (.if_icmp .ne 13, 3) := by decide +kernel
theorem dX5_parse_29 : decode cX5_parse 29 = .ok (.aload_n 1, 1) := by decide +kernel
theorem dX5_parse_30 : decode cX5_parse 30 = .ok (.getfield 30, 3) := by decide +kernel
theorem dX5_parse_33 : decode cX5_parse 33 = .ok (.iconst 1, 1) := by decide +kernel
theorem dX5_parse_34 : decode cX5_parse 34 = .ok (.isub, 1) := by decide +kernel
theorem dX5_parse_35 : decode cX5_parse 35 = .ok (.istore_n 2, 1) := by decide +kernel
theorem dX5_parse_36 : decode cX5_parse 36 = .ok (.goto 85, 3) := by decide +kernel
theorem dX5_parse_39 : decode cX5_parse 39 = .ok (.aload_n 0, 1) := by decide +kernel
theorem dX5_parse_40 : decode cX5_parse 40 = .ok (.getfield 9, 3) := by decide +kernel
theorem dX5_parse_43 : decode cX5_parse 43 = .ok (.iload_n 3, 1) := by decide +kernel
theorem dX5_parse_44 : decode cX5_parse 44 = .ok (.iaload, 1) := by decide +kernel
theorem dX5_parse_45 : decode cX5_parse 45 = .ok (.bipush 41, 2) := by decide +kernel
theorem dX5_parse_47 : decode cX5_parse 47 = .ok (.if_icmp .ne 26, 3) := by decide +kernel
theorem dX5_parse_50 : decode cX5_parse 50 = .ok (.aload_n 1, 1) := by decide +kernel
theorem dX5_parse_51 : decode cX5_parse 51 = .ok (.iload_n 2, 1) := by decide +kernel
theorem dX5_parse_52 : decode cX5_parse 52 = .ok (.invokevirtual 33, 3) := by decide +kernel
theorem dX5_parse_55 : decode cX5_parse 55 = .ok (.ifCond .eq 12, 3) := by decide +kernel
theorem dX5_parse_58 : decode cX5_parse 58 = .ok (.aload_n 1, 1) := by decide +kernel
theorem dX5_parse_59 : decode cX5_parse 59 = .ok (.getfield 36, 3) := by decide +kernel
theorem dX5_parse_62 : decode cX5_parse 62 = .ok (.iload_n 2, 1) := by decide +kernel
theorem dX5_parse_63 : decode cX5_parse 63 = .ok (.iaload, 1) := by decide +kernel
theorem dX5_parse_64 : decode cX5_parse 64 = .ok (.goto 5, 3) := by decide +kernel
theorem dX5_parse_67 : decode cX5_parse 67 = .ok (.bipush (-6), 2) := by decide +kernel
theorem dX5_parse_69 : decode cX5_parse 69 = .ok (.istore_n 2, 1) := by decide +kernel
theorem dX5_parse_70 : decode cX5_parse 70 = .ok (.goto 51, 3) := by decide +kernel
theorem dX5_parse_73 : decode cX5_parse 73 = .ok (.aload_n 1, 1) := by decide +kernel
theorem dX5_parse_74 : decode cX5_parse 74 = .ok (.iload_n 2, 1) := by decide +kernel
theorem dX5_parse_75 : decode cX5_parse 75 = .ok (.invokevirtual 33, 3) := by decide +kernel
theorem dX5_parse_78 : decode cX5_parse 78 = .ok (.ifCond .eq 13, 3) := by decide +kernel
theorem dX5_parse_81 : decode cX5_parse 81 = .ok (.aload_n 1, 1) := by decide +kernel
theorem dX5_parse_82 : decode cX5_parse 82 = .ok (.getfield 39, 3) := by decide +kernel
theorem dX5_parse_85 : decode cX5_parse 85 = .ok (.iload_n 2, 1) := by decide +kernel
theorem dX5_parse_86 : decode cX5_parse 86 = .ok (.dup2, 1) := by decide +kernel
theorem dX5_parse_87 : decode cX5_parse 87 = .ok (.iaload, 1) := by decide +kernel
theorem dX5_parse_88 : decode cX5_parse 88 = .ok (.iconst 1, 1) := by decide +kernel
theorem dX5_parse_89 : decode cX5_parse 89 = .ok (.iadd, 1) := by decide +kernel
theorem dX5_parse_90 : decode cX5_parse 90 = .ok (.iastore, 1) := by decide +kernel
theorem dX5_parse_91 : decode cX5_parse 91 = .ok (.aload_n 1, 1) := by decide +kernel
theorem dX5_parse_92 : decode cX5_parse 92 = .ok (.aload_n 0, 1) := by decide +kernel
theorem dX5_parse_93 : decode cX5_parse 93 = .ok (.getfield 9, 3) := by decide +kernel
theorem dX5_parse_96 : decode cX5_parse 96 = .ok (.iload_n 3, 1) := by decide +kernel
theorem dX5_parse_97 : decode cX5_parse 97 = .ok (.iaload, 1) := by decide +kernel
theorem dX5_parse_98 : decode cX5_parse 98 = .ok (.iconst 0, 1) := by decide +kernel
theorem dX5_parse_99 : decode cX5_parse 99 = .ok (.invokevirtual 42, 3) := by decide +kernel
theorem dX5_parse_102 : decode cX5_parse 102 = .ok (.aload_n 1, 1) := by decide +kernel
theorem dX5_parse_103 : decode cX5_parse 103 = .ok (.getfield 30, 3) := by decide +kernel
theorem dX5_parse_106 : decode cX5_parse 106 = .ok (.ifCond .le 15, 3) := by decide +kernel
theorem dX5_parse_109 : decode cX5_parse 109 = .ok (.aload_n 1, 1) := by decide +kernel
theorem dX5_parse_110 : decode cX5_parse 110 = .ok (.getfield 36, 3) := by decide +kernel
theorem dX5_parse_113 : decode cX5_parse 113 = .ok (.aload_n 1, 1) := by decide +kernel
theorem dX5_parse_114 : decode cX5_parse 114 = .ok (.getfield 30, 3) := by decide +kernel
theorem dX5_parse_117 : decode cX5_parse 117 = .ok (.iconst 1, 1) := by decide +kernel
theorem dX5_parse_118 : decode cX5_parse 118 = .ok (.isub, 1) := by decide +kernel
theorem dX5_parse_119 : decode cX5_parse 119 = .ok (.iload_n 2, 1) := by decide +kernel
theorem dX5_parse_120 : decode cX5_parse 120 = .ok (.iastore, 1) := by decide +kernel
theorem dX5_parse_121 : decode cX5_parse 121 = .ok (.iinc 3 1, 3) := by decide +kernel
theorem dX5_parse_124 : decode cX5_parse 124 = .ok (.goto (-114), 3) := by decide +kernel
theorem dX5_parse_127 : decode cX5_parse 127 = .ok (.aload_n 1, 1) := by decide +kernel
theorem dX5_parse_128 : decode cX5_parse 128 = .ok (.invokevirtual 46, 3) := by decide +kernel
theorem dX5_parse_131 : decode cX5_parse 131 = .ok (.return_, 1) := by decide +kernel
theorem dX6_init_0 : decode cX6_init 0 = .ok (.aload_n 0, 1) := by decide +kernel
theorem dX6_init_1 : decode cX6_init 1 = .ok (.invokespecial 3, 3) := by decide +kernel
theorem dX6_init_4 : decode cX6_init 4 = .ok (.aload_n 0, 1) := by decide +kernel
theorem dX6_init_5 : decode cX6_init 5 = .ok (.bipush 6, 2) := by decide +kernel
theorem dX6_init_7 : decode cX6_init 7 = .ok (.anewarray 9, 3) := by decide +kernel
theorem dX6_init_10 : decode cX6_init 10 = .ok (.putfield 11, 3) := by decide +kernel
theorem dX6_init_13 : decode cX6_init 13 = .ok (.aload_n 0, 1) := by decide +kernel
theorem dX6_init_14 : decode cX6_init 14 = .ok (.bipush 6, 2) := by decide +kernel
theorem dX6_init_16 : decode cX6_init 16 = .ok (.anewarray 9, 3) := by decide +kernel
theorem dX6_init_19 : decode cX6_init 19 = .ok (.putfield 17, 3) := by decide +kernel
theorem dX6_init_22 : decode cX6_init 22 = .ok (.aload_n 0, 1) := by decide +kernel
theorem dX6_init_23 : decode cX6_init 23 = .ok (.bipush 8, 2) := by decide +kernel
theorem dX6_init_25 : decode cX6_init 25 = .ok (.newarray .int, 2) := by decide +kernel
theorem dX6_init_27 : decode cX6_init 27 = .ok (.putfield 20, 3) := by decide +kernel
theorem dX6_init_30 : decode cX6_init 30 = .ok (.aload_n 0, 1) := by decide +kernel
theorem dX6_init_31 : decode cX6_init 31 = .ok (.new 9, 3) := by decide +kernel
theorem dX6_init_34 : decode cX6_init 34 = .ok (.dup, 1) := by decide +kernel
theorem dX6_init_35 : decode cX6_init 35 = .ok (.invokespecial 24, 3) := by decide +kernel
theorem dX6_init_38 : decode cX6_init 38 = .ok (.putfield 25, 3) := by decide +kernel
theorem dX6_init_41 : decode cX6_init 41 = .ok (.iconst 0, 1) := by decide +kernel
theorem dX6_init_42 : decode cX6_init 42 = .ok (.istore_n 1, 1) := by decide +kernel
theorem dX6_init_43 : decode cX6_init 43 = .ok (.iload_n 1, 1) := by decide +kernel
theorem dX6_init_44 : decode cX6_init 44 = .ok (.bipush 6, 2) := by decide +kernel
theorem dX6_init_46 : decode cX6_init 46 = .ok (.if_icmp .ge 35, 3) := by decide +kernel
theorem dX6_init_49 : decode cX6_init 49 = .ok (.aload_n 0, 1) := by decide +kernel
theorem dX6_init_50 : decode cX6_init 50 = .ok (.getfield 11, 3) := by decide +kernel
theorem dX6_init_53 : decode cX6_init 53 = .ok (.iload_n 1, 1) := by decide +kernel
theorem dX6_init_54 : decode cX6_init 54 = .ok (.new 9, 3) := by decide +kernel
theorem dX6_init_57 : decode cX6_init 57 = .ok (.dup, 1) := by decide +kernel
theorem dX6_init_58 : decode cX6_init 58 = .ok (.invokespecial 24, 3) := by decide +kernel
theorem dX6_init_61 : decode cX6_init 61 = .ok (.aastore, 1) := by decide +kernel
theorem dX6_init_62 : decode cX6_init 62 = .ok (.aload_n 0, 1) := by decide +kernel
theorem dX6_init_63 : decode cX6_init 63 = .ok (.getfield 17, 3) := by decide +kernel
theorem dX6_init_66 : decode cX6_init 66 = .ok (.iload_n 1, 1) := by decide +kernel
theorem dX6_init_67 : decode cX6_init 67 = .ok (.new 9, 3) := by decide +kernel
theorem dX6_init_70 : decode cX6_init 70 = .ok (.dup, 1) := by decide +kernel
theorem dX6_init_71 : decode cX6_init 71 = .ok (.invokespecial 24, 3) := by decide +kernel
theorem dX6_init_74 : decode cX6_init 74 = .ok (.aastore, 1) := by decide +kernel
theorem dX6_init_75 : decode cX6_init 75 = .ok (.iinc 1 1, 3) := by decide +kernel
theorem dX6_init_78 : decode cX6_init 78 = .ok (.goto (-35), 3) := by decide +kernel
theorem dX6_init_81 : decode cX6_init 81 = .ok (.return_, 1) := by decide +kernel
theorem dX6_has_0 : decode cX6_has 0 = .ok (.iload_n 1, 1) := by decide +kernel
theorem dX6_has_1 : decode cX6_has 1 = .ok (.ifCond .lt 21, 3) := by decide +kernel
theorem dX6_has_4 : decode cX6_has 4 = .ok (.iload_n 1, 1) := by decide +kernel
theorem dX6_has_5 : decode cX6_has 5 = .ok (.aload_n 0, 1) := by decide +kernel
theorem dX6_has_6 : decode cX6_has 6 = .ok (.getfield 29, 3) := by decide +kernel
theorem dX6_has_9 : decode cX6_has 9 = .ok (.if_icmp .ge 13, 3) := by decide +kernel
theorem dX6_has_12 : decode cX6_has 12 = .ok (.iload_n 1, 1) := by decide +kernel
theorem dX6_has_13 : decode cX6_has 13 = .ok (.bipush 6, 2) := by decide +kernel
theorem dX6_has_15 : decode cX6_has 15 = .ok (.if_icmp .ge 7, 3) := by decide +kernel
theorem dX6_has_18 : decode cX6_has 18 = .ok (.iconst 1, 1) := by decide +kernel
theorem dX6_has_19 : decode cX6_has 19 = .ok (.goto 4, 3) := by decide +kernel
theorem dX6_has_22 : decode cX6_has 22 = .ok (.iconst 0, 1) := by decide +kernel
theorem dX6_has_23 : decode cX6_has 23 = .ok (.ireturn, 1) := by decide +kernel
theorem dX6_append_0 : decode cX6_append 0 = .ok (.aload_n 0, 1) := by decide +kernel
theorem dX6_append_1 : decode cX6_append 1 = .ok (.getfield 29, 3) := by decide +kernel
theorem dX6_append_4 : decode cX6_append 4 = .ok (.bipush 6, 2) := by decide +kernel
theorem dX6_append_6 : decode cX6_append 6 = .ok (.if_icmp .lt 6, 3) := by decide +kernel
theorem dX6_append_9 : decode cX6_append 9 = .ok (.bipush (-4), 2) := by decide +kernel
theorem dX6_append_11 : decode cX6_append 11 = .ok (.ireturn, 1) := by decide +kernel
theorem dX6_append_12 : decode cX6_append 12 = .ok (.aload_n 0, 1) := by decide +kernel
theorem dX6_append_13 : decode cX6_append 13 = .ok (.getfield 11, 3) := by decide +kernel
theorem dX6_append_16 : decode cX6_append 16 = .ok (.aload_n 0, 1) := by decide +kernel
theorem dX6_append_17 : decode cX6_append 17 = .ok (.getfield 29, 3) := by decide +kernel
theorem dX6_append_20 : decode cX6_append 20 = .ok (.aaload, 1) := by decide +kernel
theorem dX6_append_21 : decode cX6_append 21 = .ok (.aload_n 1, 1) := by decide +kernel
theorem dX6_append_22 : decode cX6_append 22 = .ok (.invokevirtual 33, 3) := by decide +kernel
theorem dX6_append_25 : decode cX6_append 25 = .ok (.aload_n 0, 1) := by decide +kernel
theorem dX6_append_26 : decode cX6_append 26 = .ok (.getfield 17, 3) := by decide +kernel
theorem dX6_append_29 : decode cX6_append 29 = .ok (.aload_n 0, 1) := by decide +kernel
theorem dX6_append_30 : decode cX6_append 30 = .ok (.getfield 29, 3) := by decide +kernel
theorem dX6_append_33 : decode cX6_append 33 = .ok (.aaload, 1) := by decide +kernel
theorem dX6_append_34 : decode cX6_append 34 = .ok (.aload_n 2, 1) := by decide +kernel
theorem dX6_append_35 : decode cX6_append 35 = .ok (.invokevirtual 33, 3) := by decide +kernel
theorem dX6_append_38 : decode cX6_append 38 = .ok (.aload_n 0, 1) := by decide +kernel
theorem dX6_append_39 : decode cX6_append 39 = .ok (.dup, 1) := by decide +kernel
theorem dX6_append_40 : decode cX6_append 40 = .ok (.getfield 29, 3) := by decide +kernel
theorem dX6_append_43 : decode cX6_append 43 = .ok (.iconst 1, 1) := by decide +kernel
theorem dX6_append_44 : decode cX6_append 44 = .ok (.iadd, 1) := by decide +kernel
theorem dX6_append_45 : decode cX6_append 45 = .ok (.putfield 29, 3) := by decide +kernel
theorem dX6_append_48 : decode cX6_append 48 = .ok (.aload_n 0, 1) := by decide +kernel
theorem dX6_append_49 : decode cX6_append 49 = .ok (.getfield 29, 3) := by decide +kernel
theorem dX6_append_52 : decode cX6_append 52 = .ok (.iconst 1, 1) := by decide +kernel
theorem dX6_append_53 : decode cX6_append 53 = .ok (.isub, 1) := by decide +kernel
theorem dX6_append_54 : decode cX6_append 54 = .ok (.ireturn, 1) := by decide +kernel
theorem dX6_suits_0 : decode cX6_suits 0 = .ok (.aload_n 0, 1) := by decide +kernel
theorem dX6_suits_1 : decode cX6_suits 1 = .ok (.iload_n 1, 1) := by decide +kernel
theorem dX6_suits_2 : decode cX6_suits 2 = .ok (.invokevirtual 37, 3) := by decide +kernel
theorem dX6_suits_5 : decode cX6_suits 5 = .ok (.ifCond .eq 31, 3) := by decide +kernel
theorem dX6_suits_8 : decode cX6_suits 8 = .ok (.aload_n 2, 1) := by decide +kernel
theorem dX6_suits_9 : decode cX6_suits 9 = .ok (.iload_n 3, 1) := by decide +kernel
theorem dX6_suits_10 : decode cX6_suits 10 = .ok (.invokevirtual 41, 3) := by decide +kernel
theorem dX6_suits_13 : decode cX6_suits 13 = .ok (.ifCond .eq 23, 3) := by decide +kernel
theorem dX6_suits_16 : decode cX6_suits 16 = .ok (.aload_n 0, 1) := by decide +kernel
theorem dX6_suits_17 : decode cX6_suits 17 = .ok (.getfield 11, 3) := by decide +kernel
theorem dX6_suits_20 : decode cX6_suits 20 = .ok (.iload_n 1, 1) := by decide +kernel
theorem dX6_suits_21 : decode cX6_suits 21 = .ok (.aaload, 1) := by decide +kernel
theorem dX6_suits_22 : decode cX6_suits 22 = .ok (.getfield 42, 3) := by decide +kernel
theorem dX6_suits_25 : decode cX6_suits 25 = .ok (.iconst 0, 1) := by decide +kernel
theorem dX6_suits_26 : decode cX6_suits 26 = .ok (.iaload, 1) := by decide +kernel
theorem dX6_suits_27 : decode cX6_suits 27 = .ok (.aload_n 2, 1) := by decide +kernel
theorem dX6_suits_28 : decode cX6_suits 28 = .ok (.getfield 42, 3) := by decide +kernel
theorem dX6_suits_31 : decode cX6_suits 31 = .ok (.iload_n 3, 1) := by decide +kernel
theorem dX6_suits_32 : decode cX6_suits 32 = .ok (.iaload, 1) := by decide +kernel
theorem dX6_suits_33 : decode cX6_suits 33 = .ok (.if_icmp .eq 5, 3) := by decide +kernel
theorem dX6_suits_36 : decode cX6_suits 36 = .ok (.iconst 0, 1) := by decide +kernel
theorem dX6_suits_37 : decode cX6_suits 37 = .ok (.ireturn, 1) := by decide +kernel
theorem dX6_suits_38 : decode cX6_suits 38 = .ok (.iconst 0, 1) := by decide +kernel
theorem dX6_suits_39 : decode cX6_suits 39 = .ok (.istore 4, 2) := by decide +kernel
theorem dX6_suits_41 : decode cX6_suits 41 = .ok (.iload 4, 2) := by decide +kernel
theorem dX6_suits_43 : decode cX6_suits 43 = .ok (.bipush 8, 2) := by decide +kernel
theorem dX6_suits_45 : decode cX6_suits 45 = .ok (.if_icmp .ge 17, 3) := by decide +kernel
theorem dX6_suits_48 : decode cX6_suits 48 = .ok (.aload_n 0, 1) := by decide +kernel
theorem dX6_suits_49 : decode cX6_suits 49 = .ok (.getfield 20, 3) := by decide +kernel
theorem dX6_suits_52 : decode cX6_suits 52 = .ok (.iload 4, 2) := by decide +kernel
theorem dX6_suits_54 : decode cX6_suits 54 = .ok (.iconst (-1), 1) := by decide +kernel
theorem dX6_suits_55 : decode cX6_suits 55 = .ok (.iastore, 1) := by decide +kernel
theorem dX6_suits_56 : decode cX6_suits 56 = .ok (.iinc 4 1, 3) := by decide +kernel
theorem dX6_suits_59 : decode cX6_suits 59 = .ok (.goto (-18), 3) := by decide +kernel
theorem dX6_suits_62 : decode cX6_suits 62 = .ok (.aload_n 0, 1) := by decide +kernel
theorem dX6_suits_63 : decode cX6_suits 63 = .ok (.getfield 11, 3) := by decide +kernel
theorem dX6_suits_66 : decode cX6_suits 66 = .ok (.iload_n 1, 1) := by decide +kernel
theorem dX6_suits_67 : decode cX6_suits 67 = .ok (.aaload, 1) := by decide +kernel
theorem dX6_suits_68 : decode cX6_suits 68 = .ok (.astore 4, 2) := by decide +kernel
theorem dX6_suits_70 : decode cX6_suits 70 = .ok (.iload_n 3, 1) := by decide +kernel
theorem dX6_suits_71 : decode cX6_suits 71 = .ok (.istore 5, 2) := by decide +kernel
theorem dX6_suits_73 : decode cX6_suits 73 = .ok (.iconst 0, 1) := by decide +kernel
theorem dX6_suits_74 : decode cX6_suits 74 = .ok (.istore 6, 2) := by decide +kernel
theorem dX6_suits_76 : decode cX6_suits 76 = .ok (.iload 6, 2) := by decide +kernel
theorem dX6_suits_78 : decode cX6_suits 78 = .ok (.aload 4, 2) := by decide +kernel
theorem dX6_suits_80 : decode cX6_suits 80 = .ok (.getfield 45, 3) := by decide +kernel
theorem dX6_suits_83 : decode cX6_suits 83 = .ok (.if_icmp .ge 147, 3) := by decide +kernel
theorem dX6_suits_86 : decode cX6_suits 86 = .ok (.aload_n 2, 1) := by decide +kernel
theorem dX6_suits_87 : decode cX6_suits 87 = .ok (.iload 5, 2) := by decide +kernel
theorem dX6_suits_89 : decode cX6_suits 89 = .ok (.invokevirtual 41, 3) := by decide +kernel
theorem dX6_suits_92 : decode cX6_suits 92 = .ok (.ifCond .ne 5, 3) := by decide +kernel
theorem dX6_suits_95 : decode cX6_suits 95 = .ok (.iconst 0, 1) := by decide +kernel
theorem dX6_suits_96 : decode cX6_suits 96 = .ok (.ireturn, 1) := by decide +kernel
theorem dX6_suits_97 : decode cX6_suits 97 = .ok (.aload 4, 2) := by decide +kernel
theorem dX6_suits_99 : decode cX6_suits 99 = .ok (.getfield 42, 3) := by decide +kernel
theorem dX6_suits_102 : decode cX6_suits 102 = .ok (.iload 6, 2) := by decide +kernel
theorem dX6_suits_104 : decode cX6_suits 104 = .ok (.iaload, 1) := by decide +kernel
