theorem dX10_layPart_40 : decode cX10_layPart 40 = .ok (.goto (-37), 3) := by decide +kernel
theorem dX10_layPart_43 : decode cX10_layPart 43 = .ok (.return_, 1) := by decide +kernel
theorem dX10_makes_0 : decode cX10_makes 0 = .ok (.aload_n 0, 1) := by decide +kernel
theorem dX10_makes_1 : decode cX10_makes 1 = .ok (.iconst 0, 1) := by decide +kernel
theorem dX10_makes_2 : decode cX10_makes 2 = .ok (.putfield 214, 3) := by decide +kernel
theorem dX10_makes_5 : decode cX10_makes 5 = .ok (.aload_n 0, 1) := by decide +kernel
theorem dX10_makes_6 : decode cX10_makes 6 = .ok (.iload_n 1, 1) := by decide +kernel
theorem dX10_makes_7 : decode cX10_makes 7 = .ok (.iconst 0, 1) := by decide +kernel
theorem dX10_makes_8 : decode cX10_makes 8 = .ok (.iload_n 2, 1) := by decide +kernel
theorem dX10_makes_9 : decode cX10_makes 9 = .ok (.invokevirtual 220, 3) := by decide +kernel
theorem dX10_makes_12 : decode cX10_makes 12 = .ok (.bipush 12, 2) := by decide +kernel
theorem dX10_makes_14 : decode cX10_makes 14 = .ok (.iload_n 3, 1) := by decide +kernel
theorem dX10_makes_15 : decode cX10_makes 15 = .ok (.iadd, 1) := by decide +kernel
theorem dX10_makes_16 : decode cX10_makes 16 = .ok (.istore 4, 2) := by decide +kernel
theorem dX10_makes_18 : decode cX10_makes 18 = .ok (.iconst 0, 1) := by decide +kernel
theorem dX10_makes_19 : decode cX10_makes 19 = .ok (.istore 5, 2) := by decide +kernel
theorem dX10_makes_21 : decode cX10_makes 21 = .ok (.iload 5, 2) := by decide +kernel
theorem dX10_makes_23 : decode cX10_makes 23 = .ok (.aload_n 0, 1) := by decide +kernel
theorem dX10_makes_24 : decode cX10_makes 24 = .ok (.getfield 7, 3) := by decide +kernel
theorem dX10_makes_27 : decode cX10_makes 27 = .ok (.iload 4, 2) := by decide +kernel
theorem dX10_makes_29 : decode cX10_makes 29 = .ok (.iaload, 1) := by decide +kernel
theorem dX10_makes_30 : decode cX10_makes 30 = .ok (.if_icmp .ge 83, 3) := by decide +kernel
theorem dX10_makes_33 : decode cX10_makes 33 = .ok (.aload_n 0, 1) := by decide +kernel
theorem dX10_makes_34 : decode cX10_makes 34 = .ok (.getfield 13, 3) := by decide +kernel
theorem dX10_makes_37 : decode cX10_makes 37 = .ok (.bipush 32, 2) := by decide +kernel
theorem dX10_makes_39 : decode cX10_makes 39 = .ok (.iload 4, 2) := by decide +kernel
theorem dX10_makes_41 : decode cX10_makes 41 = .ok (.imul, 1) := by decide +kernel
theorem dX10_makes_42 : decode cX10_makes 42 = .ok (.iload 5, 2) := by decide +kernel
theorem dX10_makes_44 : decode cX10_makes 44 = .ok (.iadd, 1) := by decide +kernel
theorem dX10_makes_45 : decode cX10_makes 45 = .ok (.iaload, 1) := by decide +kernel
theorem dX10_makes_46 : decode cX10_makes 46 = .ok (.istore 6, 2) := by decide +kernel
theorem dX10_makes_48 : decode cX10_makes 48 = .ok (.iload 6, 2) := by decide +kernel
theorem dX10_makes_50 : decode cX10_makes 50 = .ok (.invokestatic 121, 3) := by decide +kernel
theorem dX10_makes_53 : decode cX10_makes 53 = .ok (.ifCond .eq 35, 3) := by decide +kernel
theorem dX10_makes_56 : decode cX10_makes 56 = .ok (.aload_n 0, 1) := by decide +kernel
theorem dX10_makes_57 : decode cX10_makes 57 = .ok (.getfield 82, 3) := by decide +kernel
theorem dX10_makes_60 : decode cX10_makes 60 = .ok (.iload 6, 2) := by decide +kernel
theorem dX10_makes_62 : decode cX10_makes 62 = .ok (.bipush 65, 2) := by decide +kernel
theorem dX10_makes_64 : decode cX10_makes 64 = .ok (.isub, 1) := by decide +kernel
theorem dX10_makes_65 : decode cX10_makes 65 = .ok (.iaload, 1) := by decide +kernel
theorem dX10_makes_66 : decode cX10_makes 66 = .ok (.istore 7, 2) := by decide +kernel
theorem dX10_makes_68 : decode cX10_makes 68 = .ok (.aload_n 0, 1) := by decide +kernel
theorem dX10_makes_69 : decode cX10_makes 69 = .ok (.iload_n 1, 1) := by decide +kernel
theorem dX10_makes_70 : decode cX10_makes 70 = .ok (.iload 7, 2) := by decide +kernel
theorem dX10_makes_72 : decode cX10_makes 72 = .ok (.iload 7, 2) := by decide +kernel
theorem dX10_makes_74 : decode cX10_makes 74 = .ok (.aload_n 0, 1) := by decide +kernel
theorem dX10_makes_75 : decode cX10_makes 75 = .ok (.iload_n 1, 1) := by decide +kernel
theorem dX10_makes_76 : decode cX10_makes 76 = .ok (.iload 7, 2) := by decide +kernel
theorem dX10_makes_78 : decode cX10_makes 78 = .ok (.invokevirtual 128, 3) := by decide +kernel
theorem dX10_makes_81 : decode cX10_makes 81 = .ok (.iadd, 1) := by decide +kernel
theorem dX10_makes_82 : decode cX10_makes 82 = .ok (.invokevirtual 220, 3) := by decide +kernel
theorem dX10_makes_85 : decode cX10_makes 85 = .ok (.goto 22, 3) := by decide +kernel
theorem dX10_makes_88 : decode cX10_makes 88 = .ok (.aload_n 0, 1) := by decide +kernel
theorem dX10_makes_89 : decode cX10_makes 89 = .ok (.iload 6, 2) := by decide +kernel
theorem dX10_makes_91 : decode cX10_makes 91 = .ok (.aload_n 0, 1) := by decide +kernel
theorem dX10_makes_92 : decode cX10_makes 92 = .ok (.getfield 16, 3) := by decide +kernel
theorem dX10_makes_95 : decode cX10_makes 95 = .ok (.bipush 32, 2) := by decide +kernel
theorem dX10_makes_97 : decode cX10_makes 97 = .ok (.iload 4, 2) := by decide +kernel
theorem dX10_makes_99 : decode cX10_makes 99 = .ok (.imul, 1) := by decide +kernel
theorem dX10_makes_100 : decode cX10_makes 100 = .ok (.iload 5, 2) := by decide +kernel
theorem dX10_makes_102 : decode cX10_makes 102 = .ok (.iadd, 1) := by decide +kernel
theorem dX10_makes_103 : decode cX10_makes 103 = .ok (.iaload, 1) := by decide +kernel
theorem dX10_makes_104 : decode cX10_makes 104 = .ok (.invokevirtual 217, 3) := by decide +kernel
theorem dX10_makes_107 : decode cX10_makes 107 = .ok (.iinc 5 1, 3) := by decide +kernel
theorem dX10_makes_110 : decode cX10_makes 110 = .ok (.goto (-89), 3) := by decide +kernel
theorem dX10_makes_113 : decode cX10_makes 113 = .ok (.aload_n 0, 1) := by decide +kernel
theorem dX10_makes_114 : decode cX10_makes 114 = .ok (.iload_n 1, 1) := by decide +kernel
theorem dX10_makes_115 : decode cX10_makes 115 = .ok (.iload_n 2, 1) := by decide +kernel
theorem dX10_makes_116 : decode cX10_makes 116 = .ok (.aload_n 0, 1) := by decide +kernel
theorem dX10_makes_117 : decode cX10_makes 117 = .ok (.iload_n 1, 1) := by decide +kernel
theorem dX10_makes_118 : decode cX10_makes 118 = .ok (.iload_n 2, 1) := by decide +kernel
theorem dX10_makes_119 : decode cX10_makes 119 = .ok (.invokevirtual 128, 3) := by decide +kernel
theorem dX10_makes_122 : decode cX10_makes 122 = .ok (.iadd, 1) := by decide +kernel
theorem dX10_makes_123 : decode cX10_makes 123 = .ok (.aload_n 0, 1) := by decide +kernel
theorem dX10_makes_124 : decode cX10_makes 124 = .ok (.getfield 7, 3) := by decide +kernel
theorem dX10_makes_127 : decode cX10_makes 127 = .ok (.iload_n 1, 1) := by decide +kernel
theorem dX10_makes_128 : decode cX10_makes 128 = .ok (.iaload, 1) := by decide +kernel
theorem dX10_makes_129 : decode cX10_makes 129 = .ok (.invokevirtual 220, 3) := by decide +kernel
theorem dX10_makes_132 : decode cX10_makes 132 = .ok (.aload_n 0, 1) := by decide +kernel
theorem dX10_makes_133 : decode cX10_makes 133 = .ok (.getfield 214, 3) := by decide +kernel
theorem dX10_makes_136 : decode cX10_makes 136 = .ok (.bipush 16, 2) := by decide +kernel
theorem dX10_makes_138 : decode cX10_makes 138 = .ok (.if_icmp .le 5, 3) := by decide +kernel
theorem dX10_makes_141 : decode cX10_makes 141 = .ok (.iconst 0, 1) := by decide +kernel
theorem dX10_makes_142 : decode cX10_makes 142 = .ok (.ireturn, 1) := by decide +kernel
theorem dX10_makes_143 : decode cX10_makes 143 = .ok (.aload_n 0, 1) := by decide +kernel
theorem dX10_makes_144 : decode cX10_makes 144 = .ok (.bipush 20, 2) := by decide +kernel
theorem dX10_makes_146 : decode cX10_makes 146 = .ok (.iconst 0, 1) := by decide +kernel
theorem dX10_makes_147 : decode cX10_makes 147 = .ok (.aload_n 0, 1) := by decide +kernel
theorem dX10_makes_148 : decode cX10_makes 148 = .ok (.getfield 214, 3) := by decide +kernel
theorem dX10_makes_151 : decode cX10_makes 151 = .ok (.iload_n 1, 1) := by decide +kernel
theorem dX10_makes_152 : decode cX10_makes 152 = .ok (.invokevirtual 149, 3) := by decide +kernel
theorem dX10_makes_155 : decode cX10_makes 155 = .ok (.iconst 1, 1) := by decide +kernel
theorem dX10_makes_156 : decode cX10_makes 156 = .ok (.ireturn, 1) := by decide +kernel
theorem dX10_fits_0 : decode cX10_fits 0 = .ok (.aload_n 0, 1) := by decide +kernel
theorem dX10_fits_1 : decode cX10_fits 1 = .ok (.iload_n 1, 1) := by decide +kernel
theorem dX10_fits_2 : decode cX10_fits 2 = .ok (.iload_n 2, 1) := by decide +kernel
theorem dX10_fits_3 : decode cX10_fits 3 = .ok (.invokevirtual 132, 3) := by decide +kernel
theorem dX10_fits_6 : decode cX10_fits 6 = .ok (.ifCond .ne 5, 3) := by decide +kernel
theorem dX10_fits_9 : decode cX10_fits 9 = .ok (.iconst (-1), 1) := by decide +kernel
theorem dX10_fits_10 : decode cX10_fits 10 = .ok (.ireturn, 1) := by decide +kernel
theorem dX10_fits_11 : decode cX10_fits 11 = .ok (.aload_n 0, 1) := by decide +kernel
theorem dX10_fits_12 : decode cX10_fits 12 = .ok (.iload_n 1, 1) := by decide +kernel
theorem dX10_fits_13 : decode cX10_fits 13 = .ok (.invokevirtual 205, 3) := by decide +kernel
theorem dX10_fits_16 : decode cX10_fits 16 = .ok (.ifCond .ne 6, 3) := by decide +kernel
theorem dX10_fits_19 : decode cX10_fits 19 = .ok (.bipush (-3), 2) := by decide +kernel
theorem dX10_fits_21 : decode cX10_fits 21 = .ok (.ireturn, 1) := by decide +kernel
theorem dX10_fits_22 : decode cX10_fits 22 = .ok (.iconst 0, 1) := by decide +kernel
theorem dX10_fits_23 : decode cX10_fits 23 = .ok (.istore_n 3, 1) := by decide +kernel
theorem dX10_fits_24 : decode cX10_fits 24 = .ok (.iconst 0, 1) := by decide +kernel
theorem dX10_fits_25 : decode cX10_fits 25 = .ok (.istore 4, 2) := by decide +kernel
theorem dX10_fits_27 : decode cX10_fits 27 = .ok (.iload 4, 2) := by decide +kernel
theorem dX10_fits_29 : decode cX10_fits 29 = .ok (.aload_n 0, 1) := by decide +kernel
theorem dX10_fits_30 : decode cX10_fits 30 = .ok (.getfield 208, 3) := by decide +kernel
theorem dX10_fits_33 : decode cX10_fits 33 = .ok (.if_icmp .ge 31, 3) := by decide +kernel
theorem dX10_fits_36 : decode cX10_fits 36 = .ok (.iload_n 3, 1) := by decide +kernel
theorem dX10_fits_37 : decode cX10_fits 37 = .ok (.aload_n 0, 1) := by decide +kernel
theorem dX10_fits_38 : decode cX10_fits 38 = .ok (.iload_n 1, 1) := by decide +kernel
theorem dX10_fits_39 : decode cX10_fits 39 = .ok (.iload_n 2, 1) := by decide +kernel
theorem dX10_fits_40 : decode cX10_fits 40 = .ok (.iload 4, 2) := by decide +kernel
theorem dX10_fits_42 : decode cX10_fits 42 = .ok (.invokevirtual 223, 3) := by decide +kernel
theorem dX10_fits_45 : decode cX10_fits 45 = .ok (.ifCond .eq 10, 3) := by decide +kernel
theorem dX10_fits_48 : decode cX10_fits 48 = .ok (.iconst 1, 1) := by decide +kernel
theorem dX10_fits_49 : decode cX10_fits 49 = .ok (.iload 4, 2) := by decide +kernel
theorem dX10_fits_51 : decode cX10_fits 51 = .ok (.ishl, 1) := by decide +kernel
theorem dX10_fits_52 : decode cX10_fits 52 = .ok (.goto 4, 3) := by decide +kernel
theorem dX10_fits_55 : decode cX10_fits 55 = .ok (.iconst 0, 1) := by decide +kernel
theorem dX10_fits_56 : decode cX10_fits 56 = .ok (.ior, 1) := by decide +kernel
theorem dX10_fits_57 : decode cX10_fits 57 = .ok (.istore_n 3, 1) := by decide +kernel
theorem dX10_fits_58 : decode cX10_fits 58 = .ok (.iinc 4 1, 3) := by decide +kernel
theorem dX10_fits_61 : decode cX10_fits 61 = .ok (.goto (-34), 3) := by decide +kernel
theorem dX10_fits_64 : decode cX10_fits 64 = .ok (.iload_n 3, 1) := by decide +kernel
theorem dX10_fits_65 : decode cX10_fits 65 = .ok (.ireturn, 1) := by decide +kernel
theorem dX10_make_0 : decode cX10_make 0 = .ok (.aload_n 0, 1) := by decide +kernel
theorem dX10_make_1 : decode cX10_make 1 = .ok (.iload_n 1, 1) := by decide +kernel
theorem dX10_make_2 : decode cX10_make 2 = .ok (.iload_n 2, 1) := by decide +kernel
theorem dX10_make_3 : decode cX10_make 3 = .ok (.invokevirtual 132, 3) := by decide +kernel
theorem dX10_make_6 : decode cX10_make 6 = .ok (.ifCond .eq 17, 3) := by decide +kernel
theorem dX10_make_9 : decode cX10_make 9 = .ok (.iload_n 3, 1) := by decide +kernel
theorem dX10_make_10 : decode cX10_make 10 = .ok (.iconst 0, 1) := by decide +kernel
theorem dX10_make_11 : decode cX10_make 11 = .ok (.aload_n 0, 1) := by decide +kernel
theorem dX10_make_12 : decode cX10_make 12 = .ok (.getfield 208, 3) := by decide +kernel
theorem dX10_make_15 : decode cX10_make 15 = .ok (.iconst 1, 1) := by decide +kernel
theorem dX10_make_16 : decode cX10_make 16 = .ok (.isub, 1) := by decide +kernel
theorem dX10_make_17 : decode cX10_make 17 = .ok (.invokestatic 110, 3) := by decide +kernel
theorem dX10_make_20 : decode cX10_make 20 = .ok (.ifCond .ne 5, 3) := by decide +kernel
theorem dX10_make_23 : decode cX10_make 23 = .ok (.iconst (-1), 1) := by decide +kernel
theorem dX10_make_24 : decode cX10_make 24 = .ok (.ireturn, 1) := by decide +kernel
theorem dX10_make_25 : decode cX10_make 25 = .ok (.aload_n 0, 1) := by decide +kernel
theorem dX10_make_26 : decode cX10_make 26 = .ok (.iload_n 1, 1) := by decide +kernel
theorem dX10_make_27 : decode cX10_make 27 = .ok (.invokevirtual 205, 3) := by decide +kernel
theorem dX10_make_30 : decode cX10_make 30 = .ok (.ifCond .ne 6, 3) := by decide +kernel
theorem dX10_make_33 : decode cX10_make 33 = .ok (.bipush (-3), 2) := by decide +kernel
theorem dX10_make_35 : decode cX10_make 35 = .ok (.ireturn, 1) := by decide +kernel
theorem dX10_make_36 : decode cX10_make 36 = .ok (.aload_n 0, 1) := by decide +kernel
theorem dX10_make_37 : decode cX10_make 37 = .ok (.iload_n 1, 1) := by decide +kernel
theorem dX10_make_38 : decode cX10_make 38 = .ok (.iload_n 2, 1) := by decide +kernel
theorem dX10_make_39 : decode cX10_make 39 = .ok (.iload_n 3, 1) := by decide +kernel
theorem dX10_make_40 : decode cX10_make 40 = .ok (.invokevirtual 223, 3) := by decide +kernel
theorem dX10_make_43 : decode cX10_make 43 = .ok (.ifCond .ne 6, 3) := by decide +kernel
theorem dX10_make_46 : decode cX10_make 46 = .ok (.bipush (-5), 2) := by decide +kernel
theorem dX10_make_48 : decode cX10_make 48 = .ok (.ireturn, 1) := by decide +kernel
theorem dX10_make_49 : decode cX10_make 49 = .ok (.aload_n 0, 1) := by decide +kernel
theorem dX10_make_50 : decode cX10_make 50 = .ok (.iload_n 1, 1) := by decide +kernel
theorem dX10_make_51 : decode cX10_make 51 = .ok (.iload_n 2, 1) := by decide +kernel
theorem dX10_make_52 : decode cX10_make 52 = .ok (.iload_n 3, 1) := by decide +kernel
theorem dX10_make_53 : decode cX10_make 53 = .ok (.invokevirtual 226, 3) := by decide +kernel
theorem dX10_make_56 : decode cX10_make 56 = .ok (.ifCond .eq 12, 3) := by decide +kernel
theorem dX10_make_59 : decode cX10_make 59 = .ok (.aload_n 0, 1) := by decide +kernel
theorem dX10_make_60 : decode cX10_make 60 = .ok (.getfield 7, 3) := by decide +kernel
theorem dX10_make_63 : decode cX10_make 63 = .ok (.iload_n 1, 1) := by decide +kernel
theorem dX10_make_64 : decode cX10_make 64 = .ok (.iaload, 1) := by decide +kernel
theorem dX10_make_65 : decode cX10_make 65 = .ok (.goto 5, 3) := by decide +kernel
theorem dX10_make_68 : decode cX10_make 68 = .ok (.bipush (-4), 2) := by decide +kernel
theorem dX10_make_70 : decode cX10_make 70 = .ok (.ireturn, 1) := by decide +kernel
theorem dX10_keep_0 : decode cX10_keep 0 = .ok (.aload_n 0, 1) := by decide +kernel
theorem dX10_keep_1 : decode cX10_keep 1 = .ok (.getfield 85, 3) := by decide +kernel
theorem dX10_keep_4 : decode cX10_keep 4 = .ok (.aload_n 0, 1) := by decide +kernel
theorem dX10_keep_5 : decode cX10_keep 5 = .ok (.getfield 229, 3) := by decide +kernel
theorem dX10_keep_8 : decode cX10_keep 8 = .ok (.aload_n 0, 1) := by decide +kernel
theorem dX10_keep_9 : decode cX10_keep 9 = .ok (.getfield 7, 3) := by decide +kernel
theorem dX10_keep_12 : decode cX10_keep 12 = .ok (.iload_n 1, 1) := by decide +kernel
theorem dX10_keep_13 : decode cX10_keep 13 = .ok (.iaload, 1) := by decide +kernel
theorem dX10_keep_14 : decode cX10_keep 14 = .ok (.iastore, 1) := by decide +kernel
theorem dX10_keep_15 : decode cX10_keep 15 = .ok (.iconst 0, 1) := by decide +kernel
theorem dX10_keep_16 : decode cX10_keep 16 = .ok (.istore_n 2, 1) := by decide +kernel
theorem dX10_keep_17 : decode cX10_keep 17 = .ok (.iload_n 2, 1) := by decide +kernel
theorem dX10_keep_18 : decode cX10_keep 18 = .ok (.aload_n 0, 1) := by decide +kernel
theorem dX10_keep_19 : decode cX10_keep 19 = .ok (.getfield 7, 3) := by decide +kernel
theorem dX10_keep_22 : decode cX10_keep 22 = .ok (.iload_n 1, 1) := by decide +kernel
theorem dX10_keep_23 : decode cX10_keep 23 = .ok (.iaload, 1) := by decide +kernel
theorem dX10_keep_24 : decode cX10_keep 24 = .ok (.if_icmp .ge 59, 3) := by decide +kernel
theorem dX10_keep_27 : decode cX10_keep 27 = .ok (.aload_n 0, 1) := by decide +kernel
theorem dX10_keep_28 : decode cX10_keep 28 = .ok (.getfield 88, 3) := by decide +kernel
theorem dX10_keep_31 : decode cX10_keep 31 = .ok (.bipush 16, 2) := by decide +kernel
theorem dX10_keep_33 : decode cX10_keep 33 = .ok (.aload_n 0, 1) := by decide +kernel
theorem dX10_keep_34 : decode cX10_keep 34 = .ok (.getfield 229, 3) := by decide +kernel
theorem dX10_keep_37 : decode cX10_keep 37 = .ok (.imul, 1) := by decide +kernel
theorem dX10_keep_38 : decode cX10_keep 38 = .ok (.iload_n 2, 1) := by decide +kernel
theorem dX10_keep_39 : decode cX10_keep 39 = .ok (.iadd, 1) := by decide +kernel
theorem dX10_keep_40 : decode cX10_keep 40 = .ok (.aload_n 0, 1) := by decide +kernel
theorem dX10_keep_41 : decode cX10_keep 41 = .ok (.getfield 13, 3) := by decide +kernel
theorem dX10_keep_44 : decode cX10_keep 44 = .ok (.bipush 32, 2) := by decide +kernel
theorem dX10_keep_46 : decode cX10_keep 46 = .ok (.iload_n 1, 1) := by decide +kernel
theorem dX10_keep_47 : decode cX10_keep 47 = .ok (.imul, 1) := by decide +kernel
theorem dX10_keep_48 : decode cX10_keep 48 = .ok (.iload_n 2, 1) := by decide +kernel
theorem dX10_keep_49 : decode cX10_keep 49 = .ok (.iadd, 1) := by decide +kernel
theorem dX10_keep_50 : decode cX10_keep 50 = .ok (.iaload, 1) := by decide +kernel
theorem dX10_keep_51 : decode cX10_keep 51 = .ok (.iastore, 1) := by decide +kernel
theorem dX10_keep_52 : decode cX10_keep 52 = .ok (.aload_n 0, 1) := by decide +kernel
theorem dX10_keep_53 : decode cX10_keep 53 = .ok (.getfield 91, 3) := by decide +kernel
theorem dX10_keep_56 : decode cX10_keep 56 = .ok (.bipush 16, 2) := by decide +kernel
theorem dX10_keep_58 : decode cX10_keep 58 = .ok (.aload_n 0, 1) := by decide +kernel
theorem dX10_keep_59 : decode cX10_keep 59 = .ok (.getfield 229, 3) := by decide +kernel
theorem dX10_keep_62 : decode cX10_keep 62 = .ok (.imul, 1) := by decide +kernel
theorem dX10_keep_63 : decode cX10_keep 63 = .ok (.iload_n 2, 1) := by decide +kernel
theorem dX10_keep_64 : decode cX10_keep 64 = .ok (.iadd, 1) := by decide +kernel
theorem dX10_keep_65 : decode cX10_keep 65 = .ok (.aload_n 0, 1) := by decide +kernel
theorem dX10_keep_66 : decode cX10_keep 66 = .ok (.getfield 16, 3) := by decide +kernel
theorem dX10_keep_69 : decode cX10_keep 69 = .ok (.bipush 32, 2) := by decide +kernel
theorem dX10_keep_71 : decode cX10_keep 71 = .ok (.iload_n 1, 1) := by decide +kernel
theorem dX10_keep_72 : decode cX10_keep 72 = .ok (.imul, 1) := by decide +kernel
theorem dX10_keep_73 : decode cX10_keep 73 = .ok (.iload_n 2, 1) := by decide +kernel
theorem dX10_keep_74 : decode cX10_keep 74 = .ok (.iadd, 1) := by decide +kernel
theorem dX10_keep_75 : decode cX10_keep 75 = .ok (.iaload, 1) := by decide +kernel
theorem dX10_keep_76 : decode cX10_keep 76 = .ok (.iastore, 1) := by decide +kernel
theorem dX10_keep_77 : decode cX10_keep 77 = .ok (.iinc 2 1, 3) := by decide +kernel
theorem dX10_keep_80 : decode cX10_keep 80 = .ok (.goto (-63), 3) := by decide +kernel
theorem dX10_keep_83 : decode cX10_keep 83 = .ok (.return_, 1) := by decide +kernel
theorem dX10_wasSo_0 : decode cX10_wasSo 0 = .ok (.iconst 0, 1) := by decide +kernel
theorem dX10_wasSo_1 : decode cX10_wasSo 1 = .ok (.istore_n 2, 1) := by decide +kernel
theorem dX10_wasSo_2 : decode cX10_wasSo 2 = .ok (.iload_n 2, 1) := by decide +kernel
theorem dX10_wasSo_3 : decode cX10_wasSo 3 = .ok (.aload_n 0, 1) := by decide +kernel
theorem dX10_wasSo_4 : decode cX10_wasSo 4 = .ok (.getfield 229, 3) := by decide +kernel
theorem dX10_wasSo_7 : decode cX10_wasSo 7 = .ok (.if_icmp .ge 120, 3) := by decide +kernel
theorem dX10_wasSo_10 : decode cX10_wasSo 10 = .ok (.aload_n 0, 1) := by decide +kernel
theorem dX10_wasSo_11 : decode cX10_wasSo 11 = .ok (.getfield 85, 3) := by decide +kernel
theorem dX10_wasSo_14 : decode cX10_wasSo 14 = .ok (.iload_n 2, 1) := by decide +kernel
theorem dX10_wasSo_15 : decode cX10_wasSo 15 = .ok (.iaload, 1) := by decide +kernel
theorem dX10_wasSo_16 : decode cX10_wasSo 16 = .ok (.aload_n 0, 1) := by decide +kernel
theorem dX10_wasSo_17 : decode cX10_wasSo 17 = .ok (.getfield 7, 3) := by decide +kernel
theorem dX10_wasSo_20 : decode cX10_wasSo 20 = .ok (.iload_n 1, 1) := by decide +kernel
theorem dX10_wasSo_21 : decode cX10_wasSo 21 = .ok (.iaload, 1) := by decide +kernel
theorem dX10_wasSo_22 : decode cX10_wasSo 22 = .ok (.if_icmp .ne 7, 3) := by decide +kernel
theorem dX10_wasSo_25 : decode cX10_wasSo 25 = .ok (.iconst 1, 1) := by decide +kernel
theorem dX10_wasSo_26 : decode cX10_wasSo 26 = .ok (.goto 4, 3) := by decide +kernel
theorem dX10_wasSo_29 : decode cX10_wasSo 29 = .ok (.iconst 0, 1) := by decide +kernel
theorem dX10_wasSo_30 : decode cX10_wasSo 30 = .ok (.istore_n 3, 1) := by decide +kernel
theorem dX10_wasSo_31 : decode cX10_wasSo 31 = .ok (.iconst 0, 1) := by decide +kernel
theorem dX10_wasSo_32 : decode cX10_wasSo 32 = .ok (.istore 4, 2) := by decide +kernel
theorem dX10_wasSo_34 : decode cX10_wasSo 34 = .ok (.iload 4, 2) := by decide +kernel
theorem dX10_wasSo_36 : decode cX10_wasSo 36 = .ok (.aload_n 0, 1) := by decide +kernel
theorem dX10_wasSo_37 : decode cX10_wasSo 37 = .ok (.getfield 7, 3) := by decide +kernel
theorem dX10_wasSo_40 : decode cX10_wasSo 40 = .ok (.iload_n 1, 1) := by decide +kernel
theorem dX10_wasSo_41 : decode cX10_wasSo 41 = .ok (.iaload, 1) := by decide +kernel
theorem dX10_wasSo_42 : decode cX10_wasSo 42 = .ok (.if_icmp .ge 73, 3) := by decide +kernel
theorem dX10_wasSo_45 : decode cX10_wasSo 45 = .ok (.iload_n 3, 1) := by decide +kernel
theorem dX10_wasSo_46 : decode cX10_wasSo 46 = .ok (.ifCond .eq 69, 3) := by decide +kernel
theorem dX10_wasSo_49 : decode cX10_wasSo 49 = .ok (.aload_n 0, 1) := by decide +kernel
theorem dX10_wasSo_50 : decode cX10_wasSo 50 = .ok (.getfield 88, 3) := by decide +kernel
theorem dX10_wasSo_53 : decode cX10_wasSo 53 = .ok (.bipush 16, 2) := by decide +kernel
theorem dX10_wasSo_55 : decode cX10_wasSo 55 = .ok (.iload_n 2, 1) := by decide +kernel
theorem dX10_wasSo_56 : decode cX10_wasSo 56 = .ok (.imul, 1) := by decide +kernel
theorem dX10_wasSo_57 : decode cX10_wasSo 57 = .ok (.iload 4, 2) := by decide +kernel
theorem dX10_wasSo_59 : decode cX10_wasSo 59 = .ok (.iadd, 1) := by decide +kernel
theorem dX10_wasSo_60 : decode cX10_wasSo 60 = .ok (.iaload, 1) := by decide +kernel
theorem dX10_wasSo_61 : decode cX10_wasSo 61 = .ok (.aload_n 0, 1) := by decide +kernel
theorem dX10_wasSo_62 : decode cX10_wasSo 62 = .ok (.getfield 13, 3) := by decide +kernel
theorem dX10_wasSo_65 : decode cX10_wasSo 65 = .ok (.bipush 32, 2) := by decide +kernel
theorem dX10_wasSo_67 : decode cX10_wasSo 67 = .ok (.iload_n 1, 1) := by decide +kernel
theorem dX10_wasSo_68 : decode cX10_wasSo 68 = .ok (.imul, 1) := by decide +kernel
theorem dX10_wasSo_69 : decode cX10_wasSo 69 = .ok (.iload 4, 2) := by decide +kernel
theorem dX10_wasSo_71 : decode cX10_wasSo 71 = .ok (.iadd, 1) := by decide +kernel
theorem dX10_wasSo_72 : decode cX10_wasSo 72 = .ok (.iaload, 1) := by decide +kernel
theorem dX10_wasSo_73 : decode cX10_wasSo 73 = .ok (.if_icmp .ne 34, 3) := by decide +kernel
theorem dX10_wasSo_76 : decode cX10_wasSo 76 = .ok (.aload_n 0, 1) := by decide +kernel
theorem dX10_wasSo_77 : decode cX10_wasSo 77 = .ok (.getfield 91, 3) := by decide +kernel
theorem dX10_wasSo_80 : decode cX10_wasSo 80 = .ok (.bipush 16, 2) := by decide +kernel
theorem dX10_wasSo_82 : decode cX10_wasSo 82 = .ok (.iload_n 2, 1) := by decide +kernel
theorem dX10_wasSo_83 : decode cX10_wasSo 83 = .ok (.imul, 1) := by decide +kernel
theorem dX10_wasSo_84 : decode cX10_wasSo 84 = .ok (.iload 4, 2) := by decide +kernel
theorem dX10_wasSo_86 : decode cX10_wasSo 86 = .ok (.iadd, 1) := by decide +kernel
theorem dX10_wasSo_87 : decode cX10_wasSo 87 = .ok (.iaload, 1) := by decide +kernel
theorem dX10_wasSo_88 : decode cX10_wasSo 88 = .ok (.aload_n 0, 1) := by decide +kernel
theorem dX10_wasSo_89 : decode cX10_wasSo 89 = .ok (.getfield 16, 3) := by decide +kernel
theorem dX10_wasSo_92 : decode cX10_wasSo 92 = .ok (.bipush 32, 2) := by decide +kernel
theorem dX10_wasSo_94 : decode cX10_wasSo 94 = .ok (.iload_n 1, 1) := by decide +kernel
theorem dX10_wasSo_95 : decode cX10_wasSo 95 = .ok (.imul, 1) := by decide +kernel
theorem dX10_wasSo_96 : decode cX10_wasSo 96 = .ok (.iload 4, 2) := by decide +kernel
theorem dX10_wasSo_98 : decode cX10_wasSo 98 = .ok (.iadd, 1) := by decide +kernel
theorem dX10_wasSo_99 : decode cX10_wasSo 99 = .ok (.iaload, 1) := by decide +kernel
theorem dX10_wasSo_100 : decode cX10_wasSo 100 = .ok (.if_icmp .ne 7, 3) := by decide +kernel
theorem dX10_wasSo_103 : decode cX10_wasSo 103 = .ok (.iconst 1, 1) := by decide +kernel
theorem dX10_wasSo_104 : decode cX10_wasSo 104 = .ok (.goto 4, 3) := by decide +kernel
theorem dX10_wasSo_107 : decode cX10_wasSo 107 = .ok (.iconst 0, 1) := by decide +kernel
theorem dX10_wasSo_108 : decode cX10_wasSo 108 = .ok (.istore_n 3, 1) := by decide +kernel
theorem dX10_wasSo_109 : decode cX10_wasSo 109 = .ok (.iinc 4 1, 3) := by decide +kernel
theorem dX10_wasSo_112 : decode cX10_wasSo 112 = .ok (.goto (-78), 3) := by decide +kernel
theorem dX10_wasSo_115 : decode cX10_wasSo 115 = .ok (.iload_n 3, 1) := by decide +kernel
theorem dX10_wasSo_116 : decode cX10_wasSo 116 = .ok (.ifCond .eq 5, 3) := by decide +kernel
theorem dX10_wasSo_119 : decode cX10_wasSo 119 = .ok (.iconst 1, 1) := by decide +kernel
theorem dX10_wasSo_120 : decode cX10_wasSo 120 = .ok (.ireturn, 1) := by decide +kernel
theorem dX10_wasSo_121 : decode cX10_wasSo 121 = .ok (.iinc 2 1, 3) := by decide +kernel
theorem dX10_wasSo_124 : decode cX10_wasSo 124 = .ok (.goto (-122), 3) := by decide +kernel
theorem dX10_wasSo_127 : decode cX10_wasSo 127 = .ok (.iconst 0, 1) := by decide +kernel
theorem dX10_wasSo_128 : decode cX10_wasSo 128 = .ok (.ireturn, 1) := by decide +kernel
theorem dX10_nodeAt_0 : decode cX10_nodeAt 0 = .ok (.iconst 0, 1) := by decide +kernel
theorem dX10_nodeAt_1 : decode cX10_nodeAt 1 = .ok (.istore 4, 2) := by decide +kernel
theorem dX10_nodeAt_3 : decode cX10_nodeAt 3 = .ok (.iload 4, 2) := by decide +kernel
theorem dX10_nodeAt_5 : decode cX10_nodeAt 5 = .ok (.aload_n 0, 1) := by decide +kernel
theorem dX10_nodeAt_6 : decode cX10_nodeAt 6 = .ok (.getfield 7, 3) := by decide +kernel
theorem dX10_nodeAt_9 : decode cX10_nodeAt 9 = .ok (.iload_n 1, 1) := by decide +kernel
theorem dX10_nodeAt_10 : decode cX10_nodeAt 10 = .ok (.iaload, 1) := by decide +kernel
theorem dX10_nodeAt_11 : decode cX10_nodeAt 11 = .ok (.if_icmp .ge 40, 3) := by decide +kernel
theorem dX10_nodeAt_14 : decode cX10_nodeAt 14 = .ok (.iload_n 3, 1) := by decide +kernel
theorem dX10_nodeAt_15 : decode cX10_nodeAt 15 = .ok (.ifCond .eq 36, 3) := by decide +kernel
theorem dX10_nodeAt_18 : decode cX10_nodeAt 18 = .ok (.iload 4, 2) := by decide +kernel
theorem dX10_nodeAt_20 : decode cX10_nodeAt 20 = .ok (.aload_n 0, 1) := by decide +kernel
theorem dX10_nodeAt_21 : decode cX10_nodeAt 21 = .ok (.iload_n 1, 1) := by decide +kernel
theorem dX10_nodeAt_22 : decode cX10_nodeAt 22 = .ok (.iload 4, 2) := by decide +kernel
theorem dX10_nodeAt_24 : decode cX10_nodeAt 24 = .ok (.invokevirtual 128, 3) := by decide +kernel
theorem dX10_nodeAt_27 : decode cX10_nodeAt 27 = .ok (.iadd, 1) := by decide +kernel
theorem dX10_nodeAt_28 : decode cX10_nodeAt 28 = .ok (.aload_n 0, 1) := by decide +kernel
theorem dX10_nodeAt_29 : decode cX10_nodeAt 29 = .ok (.iload_n 1, 1) := by decide +kernel
theorem dX10_nodeAt_30 : decode cX10_nodeAt 30 = .ok (.iload 4, 2) := by decide +kernel
theorem dX10_nodeAt_32 : decode cX10_nodeAt 32 = .ok (.invokevirtual 139, 3) := by decide +kernel
theorem dX10_nodeAt_35 : decode cX10_nodeAt 35 = .ok (.isub, 1) := by decide +kernel
theorem dX10_nodeAt_36 : decode cX10_nodeAt 36 = .ok (.iconst 1, 1) := by decide +kernel
theorem dX10_nodeAt_37 : decode cX10_nodeAt 37 = .ok (.isub, 1) := by decide +kernel
theorem dX10_nodeAt_38 : decode cX10_nodeAt 38 = .ok (.iload_n 2, 1) := by decide +kernel
theorem dX10_nodeAt_39 : decode cX10_nodeAt 39 = .ok (.if_icmp .ne 6, 3) := by decide +kernel
theorem dX10_nodeAt_42 : decode cX10_nodeAt 42 = .ok (.iload 4, 2) := by decide +kernel
theorem dX10_nodeAt_44 : decode cX10_nodeAt 44 = .ok (.ireturn, 1) := by decide +kernel
theorem dX10_nodeAt_45 : decode cX10_nodeAt 45 = .ok (.iinc 4 1, 3) := by decide +kernel
theorem dX10_nodeAt_48 : decode cX10_nodeAt 48 = .ok (.goto (-45), 3) := by decide +kernel
theorem dX10_nodeAt_51 : decode cX10_nodeAt 51 = .ok (.iload_n 2, 1) := by decide +kernel
theorem dX10_nodeAt_52 : decode cX10_nodeAt 52 = .ok (.ireturn, 1) := by decide +kernel
theorem dX10_walkTree_0 : decode cX10_walkTree 0 = .ok (.aload_n 0, 1) := by decide +kernel
theorem dX10_walkTree_1 : decode cX10_walkTree 1 = .ok (.iconst 0, 1) := by decide +kernel
theorem dX10_walkTree_2 : decode cX10_walkTree 2 = .ok (.putfield 229, 3) := by decide +kernel
theorem dX10_walkTree_5 : decode cX10_walkTree 5 = .ok (.aload_n 0, 1) := by decide +kernel
theorem dX10_walkTree_6 : decode cX10_walkTree 6 = .ok (.iload_n 1, 1) := by decide +kernel
theorem dX10_walkTree_7 : decode cX10_walkTree 7 = .ok (.invokevirtual 232, 3) := by decide +kernel
theorem dX10_walkTree_10 : decode cX10_walkTree 10 = .ok (.bipush (-6), 2) := by decide +kernel
theorem dX10_walkTree_12 : decode cX10_walkTree 12 = .ok (.istore_n 3, 1) := by decide +kernel
theorem dX10_walkTree_13 : decode cX10_walkTree 13 = .ok (.bipush (-6), 2) := by decide +kernel
theorem dX10_walkTree_15 : decode cX10_walkTree 15 = .ok (.istore 4, 2) := by decide +kernel
theorem dX10_walkTree_17 : decode cX10_walkTree 17 = .ok (.iconst 0, 1) := by decide +kernel
theorem dX10_walkTree_18 : decode cX10_walkTree 18 = .ok (.istore 5, 2) := by decide +kernel
theorem dX10_walkTree_20 : decode cX10_walkTree 20 = .ok (.iload 5, 2) := by decide +kernel
theorem dX10_walkTree_22 : decode cX10_walkTree 22 = .ok (.aload_n 0, 1) := by decide +kernel
theorem dX10_walkTree_23 : decode cX10_walkTree 23 = .ok (.getfield 7, 3) := by decide +kernel
theorem dX10_walkTree_26 : decode cX10_walkTree 26 = .ok (.iload_n 1, 1) := by decide +kernel
theorem dX10_walkTree_27 : decode cX10_walkTree 27 = .ok (.iaload, 1) := by decide +kernel
theorem dX10_walkTree_28 : decode cX10_walkTree 28 = .ok (.if_icmp .ge 64, 3) := by decide +kernel
theorem dX10_walkTree_31 : decode cX10_walkTree 31 = .ok (.iload_n 3, 1) := by decide +kernel
theorem dX10_walkTree_32 : decode cX10_walkTree 32 = .ok (.ifCond .ge 60, 3) := by decide +kernel
theorem dX10_walkTree_35 : decode cX10_walkTree 35 = .ok (.aload_n 0, 1) := by decide +kernel
theorem dX10_walkTree_36 : decode cX10_walkTree 36 = .ok (.iload_n 1, 1) := by decide +kernel
theorem dX10_walkTree_37 : decode cX10_walkTree 37 = .ok (.iload 5, 2) := by decide +kernel
theorem dX10_walkTree_39 : decode cX10_walkTree 39 = .ok (.iload_n 2, 1) := by decide +kernel
theorem dX10_walkTree_40 : decode cX10_walkTree 40 = .ok (.invokevirtual 235, 3) := by decide +kernel
theorem dX10_walkTree_43 : decode cX10_walkTree 43 = .ok (.istore 6, 2) := by decide +kernel
theorem dX10_walkTree_45 : decode cX10_walkTree 45 = .ok (.iconst 0, 1) := by decide +kernel
theorem dX10_walkTree_46 : decode cX10_walkTree 46 = .ok (.istore 7, 2) := by decide +kernel
theorem dX10_walkTree_48 : decode cX10_walkTree 48 = .ok (.iload 7, 2) := by decide +kernel
theorem dX10_walkTree_50 : decode cX10_walkTree 50 = .ok (.aload_n 0, 1) := by decide +kernel
theorem dX10_walkTree_51 : decode cX10_walkTree 51 = .ok (.getfield 208, 3) := by decide +kernel
theorem dX10_walkTree_54 : decode cX10_walkTree 54 = .ok (.if_icmp .ge 32, 3) := by decide +kernel
theorem dX10_walkTree_57 : decode cX10_walkTree 57 = .ok (.iload_n 3, 1) := by decide +kernel
theorem dX10_walkTree_58 : decode cX10_walkTree 58 = .ok (.ifCond .ge 28, 3) := by decide +kernel
theorem dX10_walkTree_61 : decode cX10_walkTree 61 = .ok (.aload_n 0, 1) := by decide +kernel
theorem dX10_walkTree_62 : decode cX10_walkTree 62 = .ok (.iload_n 1, 1) := by decide +kernel
theorem dX10_walkTree_63 : decode cX10_walkTree 63 = .ok (.iload 6, 2) := by decide +kernel
theorem dX10_walkTree_65 : decode cX10_walkTree 65 = .ok (.iload 7, 2) := by decide +kernel
theorem dX10_walkTree_67 : decode cX10_walkTree 67 = .ok (.invokevirtual 223, 3) := by decide +kernel
theorem dX10_walkTree_70 : decode cX10_walkTree 70 = .ok (.ifCond .eq 10, 3) := by decide +kernel
theorem dX10_walkTree_73 : decode cX10_walkTree 73 = .ok (.iload 6, 2) := by decide +kernel
theorem dX10_walkTree_75 : decode cX10_walkTree 75 = .ok (.istore_n 3, 1) := by decide +kernel
theorem dX10_walkTree_76 : decode cX10_walkTree 76 = .ok (.iload 7, 2) := by decide +kernel
theorem dX10_walkTree_78 : decode cX10_walkTree 78 = .ok (.istore 4, 2) := by decide +kernel
theorem dX10_walkTree_80 : decode cX10_walkTree 80 = .ok (.iinc 7 1, 3) := by decide +kernel
theorem dX10_walkTree_83 : decode cX10_walkTree 83 = .ok (.goto (-35), 3) := by decide +kernel
theorem dX10_walkTree_86 : decode cX10_walkTree 86 = .ok (.iinc 5 1, 3) := by decide +kernel
theorem dX10_walkTree_89 : decode cX10_walkTree 89 = .ok (.goto (-69), 3) := by decide +kernel
theorem dX10_walkTree_92 : decode cX10_walkTree 92 = .ok (.iload_n 3, 1) := by decide +kernel
theorem dX10_walkTree_93 : decode cX10_walkTree 93 = .ok (.ifCond .ge 5, 3) := by decide +kernel
theorem dX10_walkTree_96 : decode cX10_walkTree 96 = .ok (.iconst 0, 1) := by decide +kernel
theorem dX10_walkTree_97 : decode cX10_walkTree 97 = .ok (.ireturn, 1) := by decide +kernel
theorem dX10_walkTree_98 : decode cX10_walkTree 98 = .ok (.aload_n 0, 1) := by decide +kernel
theorem dX10_walkTree_99 : decode cX10_walkTree 99 = .ok (.getfield 229, 3) := by decide +kernel
theorem dX10_walkTree_102 : decode cX10_walkTree 102 = .ok (.bipush 100, 2) := by decide +kernel
theorem dX10_walkTree_104 : decode cX10_walkTree 104 = .ok (.if_icmp .ne 5, 3) := by decide +kernel
theorem dX10_walkTree_107 : decode cX10_walkTree 107 = .ok (.iconst 3, 1) := by decide +kernel
theorem dX10_walkTree_108 : decode cX10_walkTree 108 = .ok (.ireturn, 1) := by decide +kernel
theorem dX10_walkTree_109 : decode cX10_walkTree 109 = .ok (.aload_n 0, 1) := by decide +kernel
theorem dX10_walkTree_110 : decode cX10_walkTree 110 = .ok (.iload_n 1, 1) := by decide +kernel
theorem dX10_walkTree_111 : decode cX10_walkTree 111 = .ok (.iload_n 3, 1) := by decide +kernel
theorem dX10_walkTree_112 : decode cX10_walkTree 112 = .ok (.iload 4, 2) := by decide +kernel
theorem dX10_walkTree_114 : decode cX10_walkTree 114 = .ok (.invokevirtual 226, 3) := by decide +kernel
theorem dX10_walkTree_117 : decode cX10_walkTree 117 = .ok (.ifCond .ne 5, 3) := by decide +kernel
theorem dX10_walkTree_120 : decode cX10_walkTree 120 = .ok (.iconst 2, 1) := by decide +kernel
theorem dX10_walkTree_121 : decode cX10_walkTree 121 = .ok (.ireturn, 1) := by decide +kernel
theorem dX10_walkTree_122 : decode cX10_walkTree 122 = .ok (.aload_n 0, 1) := by decide +kernel
theorem dX10_walkTree_123 : decode cX10_walkTree 123 = .ok (.dup, 1) := by decide +kernel
theorem dX10_walkTree_124 : decode cX10_walkTree 124 = .ok (.getfield 229, 3) := by decide +kernel
theorem dX10_walkTree_127 : decode cX10_walkTree 127 = .ok (.iconst 1, 1) := by decide +kernel
theorem dX10_walkTree_128 : decode cX10_walkTree 128 = .ok (.iadd, 1) := by decide +kernel
theorem dX10_walkTree_129 : decode cX10_walkTree 129 = .ok (.putfield 229, 3) := by decide +kernel
theorem dX10_walkTree_132 : decode cX10_walkTree 132 = .ok (.aload_n 0, 1) := by decide +kernel
theorem dX10_walkTree_133 : decode cX10_walkTree 133 = .ok (.iload_n 1, 1) := by decide +kernel
theorem dX10_walkTree_134 : decode cX10_walkTree 134 = .ok (.invokevirtual 239, 3) := by decide +kernel
theorem dX10_walkTree_137 : decode cX10_walkTree 137 = .ok (.ifCond .eq 5, 3) := by decide +kernel
theorem dX10_walkTree_140 : decode cX10_walkTree 140 = .ok (.iconst 1, 1) := by decide +kernel
theorem dX10_walkTree_141 : decode cX10_walkTree 141 = .ok (.ireturn, 1) := by decide +kernel
theorem dX10_walkTree_142 : decode cX10_walkTree 142 = .ok (.aload_n 0, 1) := by decide +kernel
theorem dX10_walkTree_143 : decode cX10_walkTree 143 = .ok (.iload_n 1, 1) := by decide +kernel
theorem dX10_walkTree_144 : decode cX10_walkTree 144 = .ok (.invokevirtual 232, 3) := by decide +kernel
theorem dX10_walkTree_147 : decode cX10_walkTree 147 = .ok (.goto (-137), 3) := by decide +kernel
theorem dX10_walk_0 : decode cX10_walk 0 = .ok (.iload_n 1, 1) := by decide +kernel
theorem dX10_walk_1 : decode cX10_walk 1 = .ok (.invokestatic 114, 3) := by decide +kernel
theorem dX10_walk_4 : decode cX10_walk 4 = .ok (.ifCond .eq 12, 3) := by decide +kernel
theorem dX10_walk_7 : decode cX10_walk 7 = .ok (.aload_n 0, 1) := by decide +kernel
theorem dX10_walk_8 : decode cX10_walk 8 = .ok (.getfield 7, 3) := by decide +kernel
theorem dX10_walk_11 : decode cX10_walk 11 = .ok (.iload_n 1, 1) := by decide +kernel
theorem dX10_walk_12 : decode cX10_walk 12 = .ok (.iaload, 1) := by decide +kernel
theorem dX10_walk_13 : decode cX10_walk 13 = .ok (.ifCond .ne 5, 3) := by decide +kernel
theorem dX10_walk_16 : decode cX10_walk 16 = .ok (.iconst (-1), 1) := by decide +kernel
theorem dX10_walk_17 : decode cX10_walk 17 = .ok (.ireturn, 1) := by decide +kernel
theorem dX10_walk_18 : decode cX10_walk 18 = .ok (.aload_n 0, 1) := by decide +kernel
theorem dX10_walk_19 : decode cX10_walk 19 = .ok (.iload_n 1, 1) := by decide +kernel
theorem dX10_walk_20 : decode cX10_walk 20 = .ok (.invokevirtual 205, 3) := by decide +kernel
theorem dX10_walk_23 : decode cX10_walk 23 = .ok (.ifCond .ne 6, 3) := by decide +kernel
theorem dX10_walk_26 : decode cX10_walk 26 = .ok (.bipush (-3), 2) := by decide +kernel
theorem dX10_walk_28 : decode cX10_walk 28 = .ok (.ireturn, 1) := by decide +kernel
theorem dX10_walk_29 : decode cX10_walk 29 = .ok (.aload_n 0, 1) := by decide +kernel
theorem dX10_walk_30 : decode cX10_walk 30 = .ok (.iload_n 1, 1) := by decide +kernel
theorem dX10_walk_31 : decode cX10_walk 31 = .ok (.iload_n 2, 1) := by decide +kernel
theorem dX10_walk_32 : decode cX10_walk 32 = .ok (.invokevirtual 242, 3) := by decide +kernel
theorem dX10_walk_35 : decode cX10_walk 35 = .ok (.istore_n 3, 1) := by decide +kernel
theorem dX10_walk_36 : decode cX10_walk 36 = .ok (.aload_n 0, 1) := by decide +kernel
theorem dX10_walk_37 : decode cX10_walk 37 = .ok (.aload_n 0, 1) := by decide +kernel
theorem dX10_walk_38 : decode cX10_walk 38 = .ok (.getfield 229, 3) := by decide +kernel
theorem dX10_walk_41 : decode cX10_walk 41 = .ok (.putfield 106, 3) := by decide +kernel
theorem dX10_walk_44 : decode cX10_walk 44 = .ok (.iload_n 3, 1) := by decide +kernel
theorem dX10_walk_45 : decode cX10_walk 45 = .ok (.ireturn, 1) := by decide +kernel
theorem dX10_steps_0 : decode cX10_steps 0 = .ok (.aload_n 0, 1) := by decide +kernel
theorem dX10_steps_1 : decode cX10_steps 1 = .ok (.getfield 106, 3) := by decide +kernel
theorem dX10_steps_4 : decode cX10_steps 4 = .ok (.ireturn, 1) := by decide +kernel
theorem dX10_slotOf_0 : decode cX10_slotOf 0 = .ok (.iload_n 1, 1) := by decide +kernel
theorem dX10_slotOf_1 : decode cX10_slotOf 1 = .ok (.bipush 16, 2) := by decide +kernel
theorem dX10_slotOf_3 : decode cX10_slotOf 3 = .ok (.if_icmp .ge 13, 3) := by decide +kernel
theorem dX10_slotOf_6 : decode cX10_slotOf 6 = .ok (.bipush 6, 2) := by decide +kernel
theorem dX10_slotOf_8 : decode cX10_slotOf 8 = .ok (.aload_n 0, 1) := by decide +kernel
theorem dX10_slotOf_9 : decode cX10_slotOf 9 = .ok (.getfield 246, 3) := by decide +kernel
theorem dX10_slotOf_12 : decode cX10_slotOf 12 = .ok (.iadd, 1) := by decide +kernel
theorem dX10_slotOf_13 : decode cX10_slotOf 13 = .ok (.goto 42, 3) := by decide +kernel
theorem dX10_slotOf_16 : decode cX10_slotOf 16 = .ok (.iload_n 1, 1) := by decide +kernel
theorem dX10_slotOf_17 : decode cX10_slotOf 17 = .ok (.bipush 32, 2) := by decide +kernel
theorem dX10_slotOf_19 : decode cX10_slotOf 19 = .ok (.if_icmp .ge 13, 3) := by decide +kernel
theorem dX10_slotOf_22 : decode cX10_slotOf 22 = .ok (.bipush 6, 2) := by decide +kernel
theorem dX10_slotOf_24 : decode cX10_slotOf 24 = .ok (.aload_n 0, 1) := by decide +kernel
theorem dX10_slotOf_25 : decode cX10_slotOf 25 = .ok (.getfield 249, 3) := by decide +kernel
theorem dX10_slotOf_28 : decode cX10_slotOf 28 = .ok (.iadd, 1) := by decide +kernel
theorem dX10_slotOf_29 : decode cX10_slotOf 29 = .ok (.goto 26, 3) := by decide +kernel
theorem dX10_slotOf_32 : decode cX10_slotOf 32 = .ok (.iload_n 1, 1) := by decide +kernel
theorem dX10_slotOf_33 : decode cX10_slotOf 33 = .ok (.bipush 48, 2) := by decide +kernel
theorem dX10_slotOf_35 : decode cX10_slotOf 35 = .ok (.if_icmp .ge 13, 3) := by decide +kernel
theorem dX10_slotOf_38 : decode cX10_slotOf 38 = .ok (.bipush 12, 2) := by decide +kernel
theorem dX10_slotOf_40 : decode cX10_slotOf 40 = .ok (.aload_n 0, 1) := by decide +kernel
theorem dX10_slotOf_41 : decode cX10_slotOf 41 = .ok (.getfield 246, 3) := by decide +kernel
theorem dX10_slotOf_44 : decode cX10_slotOf 44 = .ok (.iadd, 1) := by decide +kernel
theorem dX10_slotOf_45 : decode cX10_slotOf 45 = .ok (.goto 10, 3) := by decide +kernel
theorem dX10_slotOf_48 : decode cX10_slotOf 48 = .ok (.bipush 12, 2) := by decide +kernel
theorem dX10_slotOf_50 : decode cX10_slotOf 50 = .ok (.aload_n 0, 1) := by decide +kernel
theorem dX10_slotOf_51 : decode cX10_slotOf 51 = .ok (.getfield 249, 3) := by decide +kernel
theorem dX10_slotOf_54 : decode cX10_slotOf 54 = .ok (.iadd, 1) := by decide +kernel
theorem dX10_slotOf_55 : decode cX10_slotOf 55 = .ok (.ireturn, 1) := by decide +kernel
theorem dX10_labelAt_0 : decode cX10_labelAt 0 = .ok (.aload_n 0, 1) := by decide +kernel
theorem dX10_labelAt_1 : decode cX10_labelAt 1 = .ok (.getfield 13, 3) := by decide +kernel
theorem dX10_labelAt_4 : decode cX10_labelAt 4 = .ok (.bipush 32, 2) := by decide +kernel
theorem dX10_labelAt_6 : decode cX10_labelAt 6 = .ok (.aload_n 0, 1) := by decide +kernel
theorem dX10_labelAt_7 : decode cX10_labelAt 7 = .ok (.iload_n 1, 1) := by decide +kernel
theorem dX10_labelAt_8 : decode cX10_labelAt 8 = .ok (.invokevirtual 252, 3) := by decide +kernel
theorem dX10_labelAt_11 : decode cX10_labelAt 11 = .ok (.imul, 1) := by decide +kernel
theorem dX10_labelAt_12 : decode cX10_labelAt 12 = .ok (.iload_n 1, 1) := by decide +kernel
theorem dX10_labelAt_13 : decode cX10_labelAt 13 = .ok (.bipush 16, 2) := by decide +kernel
theorem dX10_labelAt_15 : decode cX10_labelAt 15 = .ok (.irem, 1) := by decide +kernel
theorem dX10_labelAt_16 : decode cX10_labelAt 16 = .ok (.iadd, 1) := by decide +kernel
theorem dX10_labelAt_17 : decode cX10_labelAt 17 = .ok (.iaload, 1) := by decide +kernel
theorem dX10_labelAt_18 : decode cX10_labelAt 18 = .ok (.ireturn, 1) := by decide +kernel
theorem dX10_partsAt_0 : decode cX10_partsAt 0 = .ok (.aload_n 0, 1) := by decide +kernel
theorem dX10_partsAt_1 : decode cX10_partsAt 1 = .ok (.getfield 16, 3) := by decide +kernel
theorem dX10_partsAt_4 : decode cX10_partsAt 4 = .ok (.bipush 32, 2) := by decide +kernel
theorem dX10_partsAt_6 : decode cX10_partsAt 6 = .ok (.aload_n 0, 1) := by decide +kernel
theorem dX10_partsAt_7 : decode cX10_partsAt 7 = .ok (.iload_n 1, 1) := by decide +kernel
theorem dX10_partsAt_8 : decode cX10_partsAt 8 = .ok (.invokevirtual 252, 3) := by decide +kernel
theorem dX10_partsAt_11 : decode cX10_partsAt 11 = .ok (.imul, 1) := by decide +kernel
theorem dX10_partsAt_12 : decode cX10_partsAt 12 = .ok (.iload_n 1, 1) := by decide +kernel
theorem dX10_partsAt_13 : decode cX10_partsAt 13 = .ok (.bipush 16, 2) := by decide +kernel
theorem dX10_partsAt_15 : decode cX10_partsAt 15 = .ok (.irem, 1) := by decide +kernel
theorem dX10_partsAt_16 : decode cX10_partsAt 16 = .ok (.iadd, 1) := by decide +kernel
theorem dX10_partsAt_17 : decode cX10_partsAt 17 = .ok (.iaload, 1) := by decide +kernel
theorem dX10_partsAt_18 : decode cX10_partsAt 18 = .ok (.ireturn, 1) := by decide +kernel
theorem dX10_holeAt_0 : decode cX10_holeAt 0 = .ok (.aload_n 0, 1) := by decide +kernel
theorem dX10_holeAt_1 : decode cX10_holeAt 1 = .ok (.iload_n 1, 1) := by decide +kernel
theorem dX10_holeAt_2 : decode cX10_holeAt 2 = .ok (.invokevirtual 256, 3) := by decide +kernel
theorem dX10_holeAt_5 : decode cX10_holeAt 5 = .ok (.istore_n 2, 1) := by decide +kernel
theorem dX10_holeAt_6 : decode cX10_holeAt 6 = .ok (.iload_n 2, 1) := by decide +kernel
theorem dX10_holeAt_7 : decode cX10_holeAt 7 = .ok (.invokestatic 121, 3) := by decide +kernel
theorem dX10_holeAt_10 : decode cX10_holeAt 10 = .ok (.ifCond .eq 27, 3) := by decide +kernel
theorem dX10_holeAt_13 : decode cX10_holeAt 13 = .ok (.iload_n 2, 1) := by decide +kernel
theorem dX10_holeAt_14 : decode cX10_holeAt 14 = .ok (.bipush 65, 2) := by decide +kernel
theorem dX10_holeAt_16 : decode cX10_holeAt 16 = .ok (.isub, 1) := by decide +kernel
theorem dX10_holeAt_17 : decode cX10_holeAt 17 = .ok (.iload_n 1, 1) := by decide +kernel
theorem dX10_holeAt_18 : decode cX10_holeAt 18 = .ok (.bipush 16, 2) := by decide +kernel
theorem dX10_holeAt_20 : decode cX10_holeAt 20 = .ok (.idiv, 1) := by decide +kernel
theorem dX10_holeAt_21 : decode cX10_holeAt 21 = .ok (.iconst 2, 1) := by decide +kernel
theorem dX10_holeAt_22 : decode cX10_holeAt 22 = .ok (.irem, 1) := by decide +kernel
theorem dX10_holeAt_23 : decode cX10_holeAt 23 = .ok (.iconst 1, 1) := by decide +kernel
theorem dX10_holeAt_24 : decode cX10_holeAt 24 = .ok (.if_icmp .ne 8, 3) := by decide +kernel
theorem dX10_holeAt_27 : decode cX10_holeAt 27 = .ok (.bipush 8, 2) := by decide +kernel
theorem dX10_holeAt_29 : decode cX10_holeAt 29 = .ok (.goto 4, 3) := by decide +kernel
theorem dX10_holeAt_32 : decode cX10_holeAt 32 = .ok (.iconst 0, 1) := by decide +kernel
theorem dX10_holeAt_33 : decode cX10_holeAt 33 = .ok (.iadd, 1) := by decide +kernel
theorem dX10_holeAt_34 : decode cX10_holeAt 34 = .ok (.goto 5, 3) := by decide +kernel
theorem dX10_holeAt_37 : decode cX10_holeAt 37 = .ok (.bipush (-6), 2) := by decide +kernel
theorem dX10_holeAt_39 : decode cX10_holeAt 39 = .ok (.ireturn, 1) := by decide +kernel
theorem dX10_sizeAt_0 : decode cX10_sizeAt 0 = .ok (.aload_n 0, 1) := by decide +kernel
theorem dX10_sizeAt_1 : decode cX10_sizeAt 1 = .ok (.aload_n 0, 1) := by decide +kernel
theorem dX10_sizeAt_2 : decode cX10_sizeAt 2 = .ok (.iload_n 1, 1) := by decide +kernel
theorem dX10_sizeAt_3 : decode cX10_sizeAt 3 = .ok (.invokevirtual 252, 3) := by decide +kernel
theorem dX10_sizeAt_6 : decode cX10_sizeAt 6 = .ok (.iload_n 1, 1) := by decide +kernel
theorem dX10_sizeAt_7 : decode cX10_sizeAt 7 = .ok (.bipush 16, 2) := by decide +kernel
theorem dX10_sizeAt_9 : decode cX10_sizeAt 9 = .ok (.irem, 1) := by decide +kernel
theorem dX10_sizeAt_10 : decode cX10_sizeAt 10 = .ok (.invokevirtual 128, 3) := by decide +kernel
theorem dX10_sizeAt_13 : decode cX10_sizeAt 13 = .ok (.ireturn, 1) := by decide +kernel
theorem dX10_follow_0 : decode cX10_follow 0 = .ok (.iload_n 1, 1) := by decide +kernel
theorem dX10_follow_1 : decode cX10_follow 1 = .ok (.istore_n 2, 1) := by decide +kernel
theorem dX10_follow_2 : decode cX10_follow 2 = .ok (.aload_n 0, 1) := by decide +kernel
theorem dX10_follow_3 : decode cX10_follow 3 = .ok (.iload_n 2, 1) := by decide +kernel
theorem dX10_follow_4 : decode cX10_follow 4 = .ok (.invokevirtual 259, 3) := by decide +kernel
theorem dX10_follow_7 : decode cX10_follow 7 = .ok (.istore_n 3, 1) := by decide +kernel
theorem dX10_follow_8 : decode cX10_follow 8 = .ok (.iload_n 3, 1) := by decide +kernel
theorem dX10_follow_9 : decode cX10_follow 9 = .ok (.ifCond .lt 28, 3) := by decide +kernel
theorem dX10_follow_12 : decode cX10_follow 12 = .ok (.aload_n 0, 1) := by decide +kernel
theorem dX10_follow_13 : decode cX10_follow 13 = .ok (.getfield 94, 3) := by decide +kernel
theorem dX10_follow_16 : decode cX10_follow 16 = .ok (.iload_n 3, 1) := by decide +kernel
theorem dX10_follow_17 : decode cX10_follow 17 = .ok (.iaload, 1) := by decide +kernel
theorem dX10_follow_18 : decode cX10_follow 18 = .ok (.ifCond .lt 19, 3) := by decide +kernel
theorem dX10_follow_21 : decode cX10_follow 21 = .ok (.aload_n 0, 1) := by decide +kernel
theorem dX10_follow_22 : decode cX10_follow 22 = .ok (.getfield 94, 3) := by decide +kernel
theorem dX10_follow_25 : decode cX10_follow 25 = .ok (.iload_n 3, 1) := by decide +kernel
theorem dX10_follow_26 : decode cX10_follow 26 = .ok (.iaload, 1) := by decide +kernel
theorem dX10_follow_27 : decode cX10_follow 27 = .ok (.istore_n 2, 1) := by decide +kernel
theorem dX10_follow_28 : decode cX10_follow 28 = .ok (.aload_n 0, 1) := by decide +kernel
theorem dX10_follow_29 : decode cX10_follow 29 = .ok (.iload_n 2, 1) := by decide +kernel
theorem dX10_follow_30 : decode cX10_follow 30 = .ok (.invokevirtual 259, 3) := by decide +kernel
theorem dX10_follow_33 : decode cX10_follow 33 = .ok (.istore_n 3, 1) := by decide +kernel
theorem dX10_follow_34 : decode cX10_follow 34 = .ok (.goto (-26), 3) := by decide +kernel
theorem dX10_follow_37 : decode cX10_follow 37 = .ok (.iload_n 2, 1) := by decide +kernel
theorem dX10_follow_38 : decode cX10_follow 38 = .ok (.ireturn, 1) := by decide +kernel
theorem dX10_liesIn_0 : decode cX10_liesIn 0 = .ok (.iconst 1, 1) := by decide +kernel
theorem dX10_liesIn_1 : decode cX10_liesIn 1 = .ok (.istore_n 3, 1) := by decide +kernel
theorem dX10_liesIn_2 : decode cX10_liesIn 2 = .ok (.aload_n 0, 1) := by decide +kernel
theorem dX10_liesIn_3 : decode cX10_liesIn 3 = .ok (.getfield 100, 3) := by decide +kernel
theorem dX10_liesIn_6 : decode cX10_liesIn 6 = .ok (.iconst 0, 1) := by decide +kernel
theorem dX10_liesIn_7 : decode cX10_liesIn 7 = .ok (.iload_n 2, 1) := by decide +kernel
theorem dX10_liesIn_8 : decode cX10_liesIn 8 = .ok (.iastore, 1) := by decide +kernel
theorem dX10_liesIn_9 : decode cX10_liesIn 9 = .ok (.lconst 0, 1) := by decide +kernel
theorem dX10_liesIn_10 : decode cX10_liesIn 10 = .ok (.lstore 4, 2) := by decide +kernel
theorem dX10_liesIn_12 : decode cX10_liesIn 12 = .ok (.iload_n 3, 1) := by decide +kernel
theorem dX10_liesIn_13 : decode cX10_liesIn 13 = .ok (.ifCond .le 111, 3) := by decide +kernel
theorem dX10_liesIn_16 : decode cX10_liesIn 16 = .ok (.iinc 3 (-1), 3) := by decide +kernel
theorem dX10_liesIn_19 : decode cX10_liesIn 19 = .ok (.aload_n 0, 1) := by decide +kernel
theorem dX10_liesIn_20 : decode cX10_liesIn 20 = .ok (.aload_n 0, 1) := by decide +kernel
theorem dX10_liesIn_21 : decode cX10_liesIn 21 = .ok (.getfield 100, 3) := by decide +kernel
theorem dX10_liesIn_24 : decode cX10_liesIn 24 = .ok (.iload_n 3, 1) := by decide +kernel
theorem dX10_liesIn_25 : decode cX10_liesIn 25 = .ok (.iaload, 1) := by decide +kernel
theorem dX10_liesIn_26 : decode cX10_liesIn 26 = .ok (.invokevirtual 262, 3) := by decide +kernel
theorem dX10_liesIn_29 : decode cX10_liesIn 29 = .ok (.istore 6, 2) := by decide +kernel
theorem dX10_liesIn_31 : decode cX10_liesIn 31 = .ok (.aload_n 0, 1) := by decide +kernel
theorem dX10_liesIn_32 : decode cX10_liesIn 32 = .ok (.iload 6, 2) := by decide +kernel
theorem dX10_liesIn_34 : decode cX10_liesIn 34 = .ok (.invokevirtual 259, 3) := by decide +kernel
theorem dX10_liesIn_37 : decode cX10_liesIn 37 = .ok (.istore 7, 2) := by decide +kernel
theorem dX10_liesIn_39 : decode cX10_liesIn 39 = .ok (.iload 7, 2) := by decide +kernel
theorem dX10_liesIn_41 : decode cX10_liesIn 41 = .ok (.iload_n 1, 1) := by decide +kernel
theorem dX10_liesIn_42 : decode cX10_liesIn 42 = .ok (.if_icmp .ne 5, 3) := by decide +kernel
theorem dX10_liesIn_45 : decode cX10_liesIn 45 = .ok (.iconst 1, 1) := by decide +kernel
theorem dX10_liesIn_46 : decode cX10_liesIn 46 = .ok (.ireturn, 1) := by decide +kernel
theorem dX10_liesIn_47 : decode cX10_liesIn 47 = .ok (.iload 7, 2) := by decide +kernel
theorem dX10_liesIn_49 : decode cX10_liesIn 49 = .ok (.ifCond .ge 72, 3) := by decide +kernel
theorem dX10_liesIn_52 : decode cX10_liesIn 52 = .ok (.lload 4, 2) := by decide +kernel
theorem dX10_liesIn_54 : decode cX10_liesIn 54 = .ok (.iload 6, 2) := by decide +kernel
theorem dX10_liesIn_56 : decode cX10_liesIn 56 = .ok (.lshr, 1) := by decide +kernel
theorem dX10_liesIn_57 : decode cX10_liesIn 57 = .ok (.lconst 1, 1) := by decide +kernel
theorem dX10_liesIn_58 : decode cX10_liesIn 58 = .ok (.land, 1) := by decide +kernel
theorem dX10_liesIn_59 : decode cX10_liesIn 59 = .ok (.lconst 0, 1) := by decide +kernel
theorem dX10_liesIn_60 : decode cX10_liesIn 60 = .ok (.lcmp, 1) := by decide +kernel
theorem dX10_liesIn_61 : decode cX10_liesIn 61 = .ok (.ifCond .ne 60, 3) := by decide +kernel
theorem dX10_liesIn_64 : decode cX10_liesIn 64 = .ok (.lload 4, 2) := by decide +kernel
theorem dX10_liesIn_66 : decode cX10_liesIn 66 = .ok (.lconst 1, 1) := by decide +kernel
theorem dX10_liesIn_67 : decode cX10_liesIn 67 = .ok (.iload 6, 2) := by decide +kernel
theorem dX10_liesIn_69 : decode cX10_liesIn 69 = .ok (.lshl, 1) := by decide +kernel
theorem dX10_liesIn_70 : decode cX10_liesIn 70 = .ok (.lor, 1) := by decide +kernel
theorem dX10_liesIn_71 : decode cX10_liesIn 71 = .ok (.lstore 4, 2) := by decide +kernel
theorem dX10_liesIn_73 : decode cX10_liesIn 73 = .ok (.iload 6, 2) := by decide +kernel
theorem dX10_liesIn_75 : decode cX10_liesIn 75 = .ok (.iconst 1, 1) := by decide +kernel
theorem dX10_liesIn_76 : decode cX10_liesIn 76 = .ok (.iadd, 1) := by decide +kernel
theorem dX10_liesIn_77 : decode cX10_liesIn 77 = .ok (.istore 8, 2) := by decide +kernel
theorem dX10_liesIn_79 : decode cX10_liesIn 79 = .ok (.iconst 0, 1) := by decide +kernel
theorem dX10_liesIn_80 : decode cX10_liesIn 80 = .ok (.istore 9, 2) := by decide +kernel
theorem dX10_liesIn_82 : decode cX10_liesIn 82 = .ok (.iload 9, 2) := by decide +kernel
theorem dX10_liesIn_84 : decode cX10_liesIn 84 = .ok (.aload_n 0, 1) := by decide +kernel
theorem dX10_liesIn_85 : decode cX10_liesIn 85 = .ok (.iload 6, 2) := by decide +kernel
theorem dX10_liesIn_87 : decode cX10_liesIn 87 = .ok (.invokevirtual 265, 3) := by decide +kernel
theorem dX10_liesIn_90 : decode cX10_liesIn 90 = .ok (.if_icmp .ge 31, 3) := by decide +kernel
theorem dX10_liesIn_93 : decode cX10_liesIn 93 = .ok (.aload_n 0, 1) := by decide +kernel
theorem dX10_liesIn_94 : decode cX10_liesIn 94 = .ok (.getfield 100, 3) := by decide +kernel
theorem dX10_liesIn_97 : decode cX10_liesIn 97 = .ok (.iload_n 3, 1) := by decide +kernel
theorem dX10_liesIn_98 : decode cX10_liesIn 98 = .ok (.iload 8, 2) := by decide +kernel
theorem dX10_liesIn_100 : decode cX10_liesIn 100 = .ok (.iastore, 1) := by decide +kernel
theorem dX10_liesIn_101 : decode cX10_liesIn 101 = .ok (.iinc 3 1, 3) := by decide +kernel
theorem dX10_liesIn_104 : decode cX10_liesIn 104 = .ok (.iload 8, 2) := by decide +kernel
theorem dX10_liesIn_106 : decode cX10_liesIn 106 = .ok (.aload_n 0, 1) := by decide +kernel
theorem dX10_liesIn_107 : decode cX10_liesIn 107 = .ok (.iload 8, 2) := by decide +kernel
theorem dX10_liesIn_109 : decode cX10_liesIn 109 = .ok (.invokevirtual 268, 3) := by decide +kernel
theorem dX10_liesIn_112 : decode cX10_liesIn 112 = .ok (.iadd, 1) := by decide +kernel
theorem dX10_liesIn_113 : decode cX10_liesIn 113 = .ok (.istore 8, 2) := by decide +kernel
theorem dX10_liesIn_115 : decode cX10_liesIn 115 = .ok (.iinc 9 1, 3) := by decide +kernel
theorem dX10_liesIn_118 : decode cX10_liesIn 118 = .ok (.goto (-36), 3) := by decide +kernel
theorem dX10_liesIn_121 : decode cX10_liesIn 121 = .ok (.goto (-109), 3) := by decide +kernel
theorem dX10_liesIn_124 : decode cX10_liesIn 124 = .ok (.iconst 0, 1) := by decide +kernel
theorem dX10_liesIn_125 : decode cX10_liesIn 125 = .ok (.ireturn, 1) := by decide +kernel
theorem dX10_unify_0 : decode cX10_unify 0 = .ok (.iconst 0, 1) := by decide +kernel
theorem dX10_unify_1 : decode cX10_unify 1 = .ok (.istore_n 3, 1) := by decide +kernel
theorem dX10_unify_2 : decode cX10_unify 2 = .ok (.iload_n 3, 1) := by decide +kernel
theorem dX10_unify_3 : decode cX10_unify 3 = .ok (.bipush 16, 2) := by decide +kernel
theorem dX10_unify_5 : decode cX10_unify 5 = .ok (.if_icmp .ge 17, 3) := by decide +kernel
theorem dX10_unify_8 : decode cX10_unify 8 = .ok (.aload_n 0, 1) := by decide +kernel
theorem dX10_unify_9 : decode cX10_unify 9 = .ok (.getfield 94, 3) := by decide +kernel
theorem dX10_unify_12 : decode cX10_unify 12 = .ok (.iload_n 3, 1) := by decide +kernel
theorem dX10_unify_13 : decode cX10_unify 13 = .ok (.bipush (-6), 2) := by decide +kernel
theorem dX10_unify_15 : decode cX10_unify 15 = .ok (.iastore, 1) := by decide +kernel
theorem dX10_unify_16 : decode cX10_unify 16 = .ok (.iinc 3 1, 3) := by decide +kernel
theorem dX10_unify_19 : decode cX10_unify 19 = .ok (.goto (-17), 3) := by decide +kernel
theorem dX10_unify_22 : decode cX10_unify 22 = .ok (.iconst 1, 1) := by decide +kernel
theorem dX10_unify_23 : decode cX10_unify 23 = .ok (.istore_n 3, 1) := by decide +kernel
theorem dX10_unify_24 : decode cX10_unify 24 = .ok (.aload_n 0, 1) := by decide +kernel
theorem dX10_unify_25 : decode cX10_unify 25 = .ok (.getfield 97, 3) := by decide +kernel
theorem dX10_unify_28 : decode cX10_unify 28 = .ok (.iconst 0, 1) := by decide +kernel
theorem dX10_unify_29 : decode cX10_unify 29 = .ok (.iload_n 1, 1) := by decide +kernel
theorem dX10_unify_30 : decode cX10_unify 30 = .ok (.iastore, 1) := by decide +kernel
theorem dX10_unify_31 : decode cX10_unify 31 = .ok (.aload_n 0, 1) := by decide +kernel
theorem dX10_unify_32 : decode cX10_unify 32 = .ok (.getfield 103, 3) := by decide +kernel
theorem dX10_unify_35 : decode cX10_unify 35 = .ok (.iconst 0, 1) := by decide +kernel
theorem dX10_unify_36 : decode cX10_unify 36 = .ok (.iload_n 2, 1) := by decide +kernel
theorem dX10_unify_37 : decode cX10_unify 37 = .ok (.iastore, 1) := by decide +kernel
theorem dX10_unify_38 : decode cX10_unify 38 = .ok (.iload_n 3, 1) := by decide +kernel
theorem dX10_unify_39 : decode cX10_unify 39 = .ok (.ifCond .le 231, 3) := by decide +kernel
theorem dX10_unify_42 : decode cX10_unify 42 = .ok (.iinc 3 (-1), 3) := by decide +kernel
theorem dX10_unify_45 : decode cX10_unify 45 = .ok (.aload_n 0, 1) := by decide +kernel
theorem dX10_unify_46 : decode cX10_unify 46 = .ok (.aload_n 0, 1) := by decide +kernel
theorem dX10_unify_47 : decode cX10_unify 47 = .ok (.getfield 97, 3) := by decide +kernel
theorem dX10_unify_50 : decode cX10_unify 50 = .ok (.iload_n 3, 1) := by decide +kernel
theorem dX10_unify_51 : decode cX10_unify 51 = .ok (.iaload, 1) := by decide +kernel
theorem dX10_unify_52 : decode cX10_unify 52 = .ok (.invokevirtual 262, 3) := by decide +kernel
theorem dX10_unify_55 : decode cX10_unify 55 = .ok (.istore 4, 2) := by decide +kernel
theorem dX10_unify_57 : decode cX10_unify 57 = .ok (.aload_n 0, 1) := by decide +kernel
theorem dX10_unify_58 : decode cX10_unify 58 = .ok (.aload_n 0, 1) := by decide +kernel
theorem dX10_unify_59 : decode cX10_unify 59 = .ok (.getfield 103, 3) := by decide +kernel
theorem dX10_unify_62 : decode cX10_unify 62 = .ok (.iload_n 3, 1) := by decide +kernel
theorem dX10_unify_63 : decode cX10_unify 63 = .ok (.iaload, 1) := by decide +kernel
theorem dX10_unify_64 : decode cX10_unify 64 = .ok (.invokevirtual 262, 3) := by decide +kernel
theorem dX10_unify_67 : decode cX10_unify 67 = .ok (.istore 5, 2) := by decide +kernel
theorem dX10_unify_69 : decode cX10_unify 69 = .ok (.aload_n 0, 1) := by decide +kernel
theorem dX10_unify_70 : decode cX10_unify 70 = .ok (.iload 4, 2) := by decide +kernel
theorem dX10_unify_72 : decode cX10_unify 72 = .ok (.invokevirtual 259, 3) := by decide +kernel
theorem dX10_unify_75 : decode cX10_unify 75 = .ok (.istore 6, 2) := by decide +kernel
theorem dX10_unify_77 : decode cX10_unify 77 = .ok (.aload_n 0, 1) := by decide +kernel
theorem dX10_unify_78 : decode cX10_unify 78 = .ok (.iload 5, 2) := by decide +kernel
theorem dX10_unify_80 : decode cX10_unify 80 = .ok (.invokevirtual 259, 3) := by decide +kernel
theorem dX10_unify_83 : decode cX10_unify 83 = .ok (.istore 7, 2) := by decide +kernel
theorem dX10_unify_85 : decode cX10_unify 85 = .ok (.iload 6, 2) := by decide +kernel
theorem dX10_unify_87 : decode cX10_unify 87 = .ok (.ifCond .ge 8, 3) := by decide +kernel
theorem dX10_unify_90 : decode cX10_unify 90 = .ok (.iload 7, 2) := by decide +kernel
theorem dX10_unify_92 : decode cX10_unify 92 = .ok (.ifCond .lt 63, 3) := by decide +kernel
theorem dX10_unify_95 : decode cX10_unify 95 = .ok (.iload 6, 2) := by decide +kernel
theorem dX10_unify_97 : decode cX10_unify 97 = .ok (.iload 7, 2) := by decide +kernel
theorem dX10_unify_99 : decode cX10_unify 99 = .ok (.if_icmp .eq 168, 3) := by decide +kernel
theorem dX10_unify_102 : decode cX10_unify 102 = .ok (.iload 6, 2) := by decide +kernel
theorem dX10_unify_104 : decode cX10_unify 104 = .ok (.ifCond .lt 8, 3) := by decide +kernel
theorem dX10_unify_107 : decode cX10_unify 107 = .ok (.iload 6, 2) := by decide +kernel
theorem dX10_unify_109 : decode cX10_unify 109 = .ok (.goto 5, 3) := by decide +kernel
theorem dX10_unify_112 : decode cX10_unify 112 = .ok (.iload 7, 2) := by decide +kernel
theorem dX10_unify_114 : decode cX10_unify 114 = .ok (.istore 8, 2) := by decide +kernel
theorem dX10_unify_116 : decode cX10_unify 116 = .ok (.iload 6, 2) := by decide +kernel
theorem dX10_unify_118 : decode cX10_unify 118 = .ok (.ifCond .lt 8, 3) := by decide +kernel
theorem dX10_unify_121 : decode cX10_unify 121 = .ok (.iload 5, 2) := by decide +kernel
theorem dX10_unify_123 : decode cX10_unify 123 = .ok (.goto 5, 3) := by decide +kernel
theorem dX10_unify_126 : decode cX10_unify 126 = .ok (.iload 4, 2) := by decide +kernel
theorem dX10_unify_128 : decode cX10_unify 128 = .ok (.istore 9, 2) := by decide +kernel
theorem dX10_unify_130 : decode cX10_unify 130 = .ok (.aload_n 0, 1) := by decide +kernel
theorem dX10_unify_131 : decode cX10_unify 131 = .ok (.iload 8, 2) := by decide +kernel
theorem dX10_unify_133 : decode cX10_unify 133 = .ok (.iload 9, 2) := by decide +kernel
theorem dX10_unify_135 : decode cX10_unify 135 = .ok (.invokevirtual 271, 3) := by decide +kernel
theorem dX10_unify_138 : decode cX10_unify 138 = .ok (.ifCond .eq 5, 3) := by decide +kernel
theorem dX10_unify_141 : decode cX10_unify 141 = .ok (.iconst 0, 1) := by decide +kernel
theorem dX10_unify_142 : decode cX10_unify 142 = .ok (.ireturn, 1) := by decide +kernel
theorem dX10_unify_143 : decode cX10_unify 143 = .ok (.aload_n 0, 1) := by decide +kernel
theorem dX10_unify_144 : decode cX10_unify 144 = .ok (.getfield 94, 3) := by decide +kernel
theorem dX10_unify_147 : decode cX10_unify 147 = .ok (.iload 8, 2) := by decide +kernel
theorem dX10_unify_149 : decode cX10_unify 149 = .ok (.iload 9, 2) := by decide +kernel
theorem dX10_unify_151 : decode cX10_unify 151 = .ok (.iastore, 1) := by decide +kernel
theorem dX10_unify_152 : decode cX10_unify 152 = .ok (.goto 115, 3) := by decide +kernel
theorem dX10_unify_155 : decode cX10_unify 155 = .ok (.iload 4, 2) := by decide +kernel
theorem dX10_unify_157 : decode cX10_unify 157 = .ok (.iload 5, 2) := by decide +kernel
theorem dX10_unify_159 : decode cX10_unify 159 = .ok (.if_icmp .eq 108, 3) := by decide +kernel
theorem dX10_unify_162 : decode cX10_unify 162 = .ok (.aload_n 0, 1) := by decide +kernel
theorem dX10_unify_163 : decode cX10_unify 163 = .ok (.iload 4, 2) := by decide +kernel
theorem dX10_unify_165 : decode cX10_unify 165 = .ok (.invokevirtual 256, 3) := by decide +kernel
theorem dX10_unify_168 : decode cX10_unify 168 = .ok (.aload_n 0, 1) := by decide +kernel
theorem dX10_unify_169 : decode cX10_unify 169 = .ok (.iload 5, 2) := by decide +kernel
theorem dX10_unify_171 : decode cX10_unify 171 = .ok (.invokevirtual 256, 3) := by decide +kernel
theorem dX10_unify_174 : decode cX10_unify 174 = .ok (.if_icmp .ne 18, 3) := by decide +kernel
theorem dX10_unify_177 : decode cX10_unify 177 = .ok (.aload_n 0, 1) := by decide +kernel
theorem dX10_unify_178 : decode cX10_unify 178 = .ok (.iload 4, 2) := by decide +kernel
theorem dX10_unify_180 : decode cX10_unify 180 = .ok (.invokevirtual 265, 3) := by decide +kernel
theorem dX10_unify_183 : decode cX10_unify 183 = .ok (.aload_n 0, 1) := by decide +kernel
theorem dX10_unify_184 : decode cX10_unify 184 = .ok (.iload 5, 2) := by decide +kernel
theorem dX10_unify_186 : decode cX10_unify 186 = .ok (.invokevirtual 265, 3) := by decide +kernel
theorem dX10_unify_189 : decode cX10_unify 189 = .ok (.if_icmp .eq 5, 3) := by decide +kernel
theorem dX10_unify_192 : decode cX10_unify 192 = .ok (.iconst 0, 1) := by decide +kernel
theorem dX10_unify_193 : decode cX10_unify 193 = .ok (.ireturn, 1) := by decide +kernel
theorem dX10_unify_194 : decode cX10_unify 194 = .ok (.iload 4, 2) := by decide +kernel
theorem dX10_unify_196 : decode cX10_unify 196 = .ok (.iconst 1, 1) := by decide +kernel
theorem dX10_unify_197 : decode cX10_unify 197 = .ok (.iadd, 1) := by decide +kernel
theorem dX10_unify_198 : decode cX10_unify 198 = .ok (.istore 8, 2) := by decide +kernel
theorem dX10_unify_200 : decode cX10_unify 200 = .ok (.iload 5, 2) := by decide +kernel
theorem dX10_unify_202 : decode cX10_unify 202 = .ok (.iconst 1, 1) := by decide +kernel
theorem dX10_unify_203 : decode cX10_unify 203 = .ok (.iadd, 1) := by decide +kernel
theorem dX10_unify_204 : decode cX10_unify 204 = .ok (.istore 9, 2) := by decide +kernel
theorem dX10_unify_206 : decode cX10_unify 206 = .ok (.iconst 0, 1) := by decide +kernel
theorem dX10_unify_207 : decode cX10_unify 207 = .ok (.istore 10, 2) := by decide +kernel
theorem dX10_unify_209 : decode cX10_unify 209 = .ok (.iload 10, 2) := by decide +kernel
theorem dX10_unify_211 : decode cX10_unify 211 = .ok (.aload_n 0, 1) := by decide +kernel
theorem dX10_unify_212 : decode cX10_unify 212 = .ok (.iload 4, 2) := by decide +kernel
theorem dX10_unify_214 : decode cX10_unify 214 = .ok (.invokevirtual 265, 3) := by decide +kernel
theorem dX10_unify_217 : decode cX10_unify 217 = .ok (.if_icmp .ge 50, 3) := by decide +kernel
theorem dX10_unify_220 : decode cX10_unify 220 = .ok (.aload_n 0, 1) := by decide +kernel
theorem dX10_unify_221 : decode cX10_unify 221 = .ok (.getfield 97, 3) := by decide +kernel
theorem dX10_unify_224 : decode cX10_unify 224 = .ok (.iload_n 3, 1) := by decide +kernel
theorem dX10_unify_225 : decode cX10_unify 225 = .ok (.iload 8, 2) := by decide +kernel
theorem dX10_unify_227 : decode cX10_unify 227 = .ok (.iastore, 1) := by decide +kernel
theorem dX10_unify_228 : decode cX10_unify 228 = .ok (.aload_n 0, 1) := by decide +kernel
theorem dX10_unify_229 : decode cX10_unify 229 = .ok (.getfield 103, 3) := by decide +kernel
theorem dX10_unify_232 : decode cX10_unify 232 = .ok (.iload_n 3, 1) := by decide +kernel
theorem dX10_unify_233 : decode cX10_unify 233 = .ok (.iload 9, 2) := by decide +kernel
theorem dX10_unify_235 : decode cX10_unify 235 = .ok (.iastore, 1) := by decide +kernel
theorem dX10_unify_236 : decode cX10_unify 236 = .ok (.iinc 3 1, 3) := by decide +kernel
theorem dX10_unify_239 : decode cX10_unify 239 = .ok (.iload 8, 2) := by decide +kernel
theorem dX10_unify_241 : decode cX10_unify 241 = .ok (.aload_n 0, 1) := by decide +kernel
theorem dX10_unify_242 : decode cX10_unify 242 = .ok (.iload 8, 2) := by decide +kernel
theorem dX10_unify_244 : decode cX10_unify 244 = .ok (.invokevirtual 268, 3) := by decide +kernel
theorem dX10_unify_247 : decode cX10_unify 247 = .ok (.iadd, 1) := by decide +kernel
theorem dX10_unify_248 : decode cX10_unify 248 = .ok (.istore 8, 2) := by decide +kernel
theorem dX10_unify_250 : decode cX10_unify 250 = .ok (.iload 9, 2) := by decide +kernel
theorem dX10_unify_252 : decode cX10_unify 252 = .ok (.aload_n 0, 1) := by decide +kernel
theorem dX10_unify_253 : decode cX10_unify 253 = .ok (.iload 9, 2) := by decide +kernel
theorem dX10_unify_255 : decode cX10_unify 255 = .ok (.invokevirtual 268, 3) := by decide +kernel
theorem dX10_unify_258 : decode cX10_unify 258 = .ok (.iadd, 1) := by decide +kernel
theorem dX10_unify_259 : decode cX10_unify 259 = .ok (.istore 9, 2) := by decide +kernel
theorem dX10_unify_261 : decode cX10_unify 261 = .ok (.iinc 10 1, 3) := by decide +kernel
theorem dX10_unify_264 : decode cX10_unify 264 = .ok (.goto (-55), 3) := by decide +kernel
theorem dX10_unify_267 : decode cX10_unify 267 = .ok (.goto (-229), 3) := by decide +kernel
theorem dX10_unify_270 : decode cX10_unify 270 = .ok (.iconst 1, 1) := by decide +kernel
theorem dX10_unify_271 : decode cX10_unify 271 = .ok (.ireturn, 1) := by decide +kernel
theorem dX10_spread_0 : decode cX10_spread 0 = .ok (.aload_n 0, 1) := by decide +kernel
theorem dX10_spread_1 : decode cX10_spread 1 = .ok (.iconst 0, 1) := by decide +kernel
theorem dX10_spread_2 : decode cX10_spread 2 = .ok (.putfield 214, 3) := by decide +kernel
theorem dX10_spread_5 : decode cX10_spread 5 = .ok (.iconst 1, 1) := by decide +kernel
theorem dX10_spread_6 : decode cX10_spread 6 = .ok (.istore 4, 2) := by decide +kernel
theorem dX10_spread_8 : decode cX10_spread 8 = .ok (.aload_n 0, 1) := by decide +kernel
theorem dX10_spread_9 : decode cX10_spread 9 = .ok (.getfield 97, 3) := by decide +kernel
theorem dX10_spread_12 : decode cX10_spread 12 = .ok (.iconst 0, 1) := by decide +kernel
theorem dX10_spread_13 : decode cX10_spread 13 = .ok (.iload_n 1, 1) := by decide +kernel
theorem dX10_spread_14 : decode cX10_spread 14 = .ok (.iastore, 1) := by decide +kernel
theorem dX10_spread_15 : decode cX10_spread 15 = .ok (.iload 4, 2) := by decide +kernel
theorem dX10_spread_17 : decode cX10_spread 17 = .ok (.ifCond .le 172, 3) := by decide +kernel
theorem dX10_spread_20 : decode cX10_spread 20 = .ok (.aload_n 0, 1) := by decide +kernel
theorem dX10_spread_21 : decode cX10_spread 21 = .ok (.getfield 214, 3) := by decide +kernel
theorem dX10_spread_24 : decode cX10_spread 24 = .ok (.bipush 16, 2) := by decide +kernel
theorem dX10_spread_26 : decode cX10_spread 26 = .ok (.if_icmp .gt 163, 3) := by decide +kernel
theorem dX10_spread_29 : decode cX10_spread 29 = .ok (.iinc 4 (-1), 3) := by decide +kernel
theorem dX10_spread_32 : decode cX10_spread 32 = .ok (.aload_n 0, 1) := by decide +kernel
theorem dX10_spread_33 : decode cX10_spread 33 = .ok (.getfield 97, 3) := by decide +kernel
theorem dX10_spread_36 : decode cX10_spread 36 = .ok (.iload 4, 2) := by decide +kernel
theorem dX10_spread_38 : decode cX10_spread 38 = .ok (.iaload, 1) := by decide +kernel
theorem dX10_spread_39 : decode cX10_spread 39 = .ok (.iload_n 2, 1) := by decide +kernel
theorem dX10_spread_40 : decode cX10_spread 40 = .ok (.if_icmp .ne 8, 3) := by decide +kernel
theorem dX10_spread_43 : decode cX10_spread 43 = .ok (.bipush 48, 2) := by decide +kernel
theorem dX10_spread_45 : decode cX10_spread 45 = .ok (.goto 10, 3) := by decide +kernel
theorem dX10_spread_48 : decode cX10_spread 48 = .ok (.aload_n 0, 1) := by decide +kernel
theorem dX10_spread_49 : decode cX10_spread 49 = .ok (.getfield 97, 3) := by decide +kernel
theorem dX10_spread_52 : decode cX10_spread 52 = .ok (.iload 4, 2) := by decide +kernel
theorem dX10_spread_54 : decode cX10_spread 54 = .ok (.iaload, 1) := by decide +kernel
theorem dX10_spread_55 : decode cX10_spread 55 = .ok (.istore 5, 2) := by decide +kernel
theorem dX10_spread_57 : decode cX10_spread 57 = .ok (.aload_n 0, 1) := by decide +kernel
theorem dX10_spread_58 : decode cX10_spread 58 = .ok (.iload 5, 2) := by decide +kernel
theorem dX10_spread_60 : decode cX10_spread 60 = .ok (.invokevirtual 262, 3) := by decide +kernel
theorem dX10_spread_63 : decode cX10_spread 63 = .ok (.istore 5, 2) := by decide +kernel
theorem dX10_spread_65 : decode cX10_spread 65 = .ok (.aload_n 0, 1) := by decide +kernel
theorem dX10_spread_66 : decode cX10_spread 66 = .ok (.iload 5, 2) := by decide +kernel
theorem dX10_spread_68 : decode cX10_spread 68 = .ok (.invokevirtual 259, 3) := by decide +kernel
theorem dX10_spread_71 : decode cX10_spread 71 = .ok (.istore 6, 2) := by decide +kernel
theorem dX10_spread_73 : decode cX10_spread 73 = .ok (.aload_n 0, 1) := by decide +kernel
theorem dX10_spread_74 : decode cX10_spread 74 = .ok (.iload 6, 2) := by decide +kernel
theorem dX10_spread_76 : decode cX10_spread 76 = .ok (.ifCond .lt 12, 3) := by decide +kernel
theorem dX10_spread_79 : decode cX10_spread 79 = .ok (.sipush 1000, 3) := by decide +kernel
theorem dX10_spread_82 : decode cX10_spread 82 = .ok (.iload 6, 2) := by decide +kernel
theorem dX10_spread_84 : decode cX10_spread 84 = .ok (.iadd, 1) := by decide +kernel
theorem dX10_spread_85 : decode cX10_spread 85 = .ok (.goto 9, 3) := by decide +kernel
theorem dX10_spread_88 : decode cX10_spread 88 = .ok (.aload_n 0, 1) := by decide +kernel
theorem dX10_spread_89 : decode cX10_spread 89 = .ok (.iload 5, 2) := by decide +kernel
theorem dX10_spread_91 : decode cX10_spread 91 = .ok (.invokevirtual 256, 3) := by decide +kernel
theorem dX10_spread_94 : decode cX10_spread 94 = .ok (.iload 6, 2) := by decide +kernel
theorem dX10_spread_96 : decode cX10_spread 96 = .ok (.ifCond .lt 7, 3) := by decide +kernel
theorem dX10_spread_99 : decode cX10_spread 99 = .ok (.iconst 0, 1) := by decide +kernel
theorem dX10_spread_100 : decode cX10_spread 100 = .ok (.goto 9, 3) := by decide +kernel
theorem dX10_spread_103 : decode cX10_spread 103 = .ok (.aload_n 0, 1) := by decide +kernel
theorem dX10_spread_104 : decode cX10_spread 104 = .ok (.iload 5, 2) := by decide +kernel
theorem dX10_spread_106 : decode cX10_spread 106 = .ok (.invokevirtual 265, 3) := by decide +kernel
theorem dX10_spread_109 : decode cX10_spread 109 = .ok (.invokevirtual 217, 3) := by decide +kernel
theorem dX10_spread_112 : decode cX10_spread 112 = .ok (.iload 6, 2) := by decide +kernel
theorem dX10_spread_114 : decode cX10_spread 114 = .ok (.ifCond .lt 7, 3) := by decide +kernel
theorem dX10_spread_117 : decode cX10_spread 117 = .ok (.iconst 0, 1) := by decide +kernel
theorem dX10_spread_118 : decode cX10_spread 118 = .ok (.goto 9, 3) := by decide +kernel
theorem dX10_spread_121 : decode cX10_spread 121 = .ok (.aload_n 0, 1) := by decide +kernel
theorem dX10_spread_122 : decode cX10_spread 122 = .ok (.iload 5, 2) := by decide +kernel
theorem dX10_spread_124 : decode cX10_spread 124 = .ok (.invokevirtual 265, 3) := by decide +kernel
theorem dX10_spread_127 : decode cX10_spread 127 = .ok (.istore 7, 2) := by decide +kernel
theorem dX10_spread_129 : decode cX10_spread 129 = .ok (.iload 5, 2) := by decide +kernel
theorem dX10_spread_131 : decode cX10_spread 131 = .ok (.iconst 1, 1) := by decide +kernel
theorem dX10_spread_132 : decode cX10_spread 132 = .ok (.iadd, 1) := by decide +kernel
theorem dX10_spread_133 : decode cX10_spread 133 = .ok (.istore 8, 2) := by decide +kernel
theorem dX10_spread_135 : decode cX10_spread 135 = .ok (.iconst 0, 1) := by decide +kernel
theorem dX10_spread_136 : decode cX10_spread 136 = .ok (.istore 9, 2) := by decide +kernel
theorem dX10_spread_138 : decode cX10_spread 138 = .ok (.iload 9, 2) := by decide +kernel
theorem dX10_spread_140 : decode cX10_spread 140 = .ok (.iload 7, 2) := by decide +kernel
theorem dX10_spread_142 : decode cX10_spread 142 = .ok (.if_icmp .ge 37, 3) := by decide +kernel
theorem dX10_spread_145 : decode cX10_spread 145 = .ok (.aload_n 0, 1) := by decide +kernel
theorem dX10_spread_146 : decode cX10_spread 146 = .ok (.getfield 97, 3) := by decide +kernel
theorem dX10_spread_149 : decode cX10_spread 149 = .ok (.iload 4, 2) := by decide +kernel
theorem dX10_spread_151 : decode cX10_spread 151 = .ok (.iload 7, 2) := by decide +kernel
theorem dX10_spread_153 : decode cX10_spread 153 = .ok (.iadd, 1) := by decide +kernel
theorem dX10_spread_154 : decode cX10_spread 154 = .ok (.iconst 1, 1) := by decide +kernel
theorem dX10_spread_155 : decode cX10_spread 155 = .ok (.isub, 1) := by decide +kernel
theorem dX10_spread_156 : decode cX10_spread 156 = .ok (.iload 9, 2) := by decide +kernel
theorem dX10_spread_158 : decode cX10_spread 158 = .ok (.isub, 1) := by decide +kernel
theorem dX10_spread_159 : decode cX10_spread 159 = .ok (.iload 8, 2) := by decide +kernel
theorem dX10_spread_161 : decode cX10_spread 161 = .ok (.iastore, 1) := by decide +kernel
theorem dX10_spread_162 : decode cX10_spread 162 = .ok (.iload 8, 2) := by decide +kernel
theorem dX10_spread_164 : decode cX10_spread 164 = .ok (.aload_n 0, 1) := by decide +kernel
theorem dX10_spread_165 : decode cX10_spread 165 = .ok (.iload 8, 2) := by decide +kernel
theorem dX10_spread_167 : decode cX10_spread 167 = .ok (.invokevirtual 268, 3) := by decide +kernel
theorem dX10_spread_170 : decode cX10_spread 170 = .ok (.iadd, 1) := by decide +kernel
theorem dX10_spread_171 : decode cX10_spread 171 = .ok (.istore 8, 2) := by decide +kernel
theorem dX10_spread_173 : decode cX10_spread 173 = .ok (.iinc 9 1, 3) := by decide +kernel
theorem dX10_spread_176 : decode cX10_spread 176 = .ok (.goto (-38), 3) := by decide +kernel
theorem dX10_spread_179 : decode cX10_spread 179 = .ok (.iload 4, 2) := by decide +kernel
theorem dX10_spread_181 : decode cX10_spread 181 = .ok (.iload 7, 2) := by decide +kernel
theorem dX10_spread_183 : decode cX10_spread 183 = .ok (.iadd, 1) := by decide +kernel
theorem dX10_spread_184 : decode cX10_spread 184 = .ok (.istore 4, 2) := by decide +kernel
theorem dX10_spread_186 : decode cX10_spread 186 = .ok (.goto (-171), 3) := by decide +kernel
theorem dX10_spread_189 : decode cX10_spread 189 = .ok (.aload_n 0, 1) := by decide +kernel
theorem dX10_spread_190 : decode cX10_spread 190 = .ok (.getfield 214, 3) := by decide +kernel
theorem dX10_spread_193 : decode cX10_spread 193 = .ok (.bipush 16, 2) := by decide +kernel
theorem dX10_spread_195 : decode cX10_spread 195 = .ok (.if_icmp .le 5, 3) := by decide +kernel
theorem dX10_spread_198 : decode cX10_spread 198 = .ok (.iconst 0, 1) := by decide +kernel
theorem dX10_spread_199 : decode cX10_spread 199 = .ok (.ireturn, 1) := by decide +kernel
theorem dX10_spread_200 : decode cX10_spread 200 = .ok (.aload_n 0, 1) := by decide +kernel
theorem dX10_spread_201 : decode cX10_spread 201 = .ok (.bipush 20, 2) := by decide +kernel
theorem dX10_spread_203 : decode cX10_spread 203 = .ok (.iconst 0, 1) := by decide +kernel
theorem dX10_spread_204 : decode cX10_spread 204 = .ok (.aload_n 0, 1) := by decide +kernel
theorem dX10_spread_205 : decode cX10_spread 205 = .ok (.getfield 214, 3) := by decide +kernel
theorem dX10_spread_208 : decode cX10_spread 208 = .ok (.iload_n 3, 1) := by decide +kernel
theorem dX10_spread_209 : decode cX10_spread 209 = .ok (.invokevirtual 149, 3) := by decide +kernel
theorem dX10_spread_212 : decode cX10_spread 212 = .ok (.iconst 1, 1) := by decide +kernel
theorem dX10_spread_213 : decode cX10_spread 213 = .ok (.ireturn, 1) := by decide +kernel
theorem dX10_overlapOf_0 : decode cX10_overlapOf 0 = .ok (.aload_n 0, 1) := by decide +kernel
theorem dX10_overlapOf_1 : decode cX10_overlapOf 1 = .ok (.iload_n 1, 1) := by decide +kernel
theorem dX10_overlapOf_2 : decode cX10_overlapOf 2 = .ok (.putfield 246, 3) := by decide +kernel
theorem dX10_overlapOf_5 : decode cX10_overlapOf 5 = .ok (.aload_n 0, 1) := by decide +kernel
theorem dX10_overlapOf_6 : decode cX10_overlapOf 6 = .ok (.iload_n 2, 1) := by decide +kernel
theorem dX10_overlapOf_7 : decode cX10_overlapOf 7 = .ok (.putfield 249, 3) := by decide +kernel
theorem dX10_overlapOf_10 : decode cX10_overlapOf 10 = .ok (.aload_n 0, 1) := by decide +kernel
theorem dX10_overlapOf_11 : decode cX10_overlapOf 11 = .ok (.iload_n 3, 1) := by decide +kernel
theorem dX10_overlapOf_12 : decode cX10_overlapOf 12 = .ok (.bipush 16, 2) := by decide +kernel
theorem dX10_overlapOf_14 : decode cX10_overlapOf 14 = .ok (.invokevirtual 274, 3) := by decide +kernel
theorem dX10_overlapOf_17 : decode cX10_overlapOf 17 = .ok (.ifCond .ne 5, 3) := by decide +kernel
theorem dX10_overlapOf_20 : decode cX10_overlapOf 20 = .ok (.iconst 0, 1) := by decide +kernel
theorem dX10_overlapOf_21 : decode cX10_overlapOf 21 = .ok (.ireturn, 1) := by decide +kernel
theorem dX10_overlapOf_22 : decode cX10_overlapOf 22 = .ok (.aload_n 0, 1) := by decide +kernel
theorem dX10_overlapOf_23 : decode cX10_overlapOf 23 = .ok (.iconst 0, 1) := by decide +kernel
theorem dX10_overlapOf_24 : decode cX10_overlapOf 24 = .ok (.iconst (-1), 1) := by decide +kernel
theorem dX10_overlapOf_25 : decode cX10_overlapOf 25 = .ok (.bipush 18, 2) := by decide +kernel
theorem dX10_overlapOf_27 : decode cX10_overlapOf 27 = .ok (.invokevirtual 277, 3) := by decide +kernel
theorem dX10_overlapOf_30 : decode cX10_overlapOf 30 = .ok (.ifCond .eq 26, 3) := by decide +kernel
theorem dX10_overlapOf_33 : decode cX10_overlapOf 33 = .ok (.aload_n 0, 1) := by decide +kernel
theorem dX10_overlapOf_34 : decode cX10_overlapOf 34 = .ok (.bipush 32, 2) := by decide +kernel
theorem dX10_overlapOf_36 : decode cX10_overlapOf 36 = .ok (.iconst (-1), 1) := by decide +kernel
theorem dX10_overlapOf_37 : decode cX10_overlapOf 37 = .ok (.bipush 18, 2) := by decide +kernel
theorem dX10_overlapOf_39 : decode cX10_overlapOf 39 = .ok (.invokevirtual 277, 3) := by decide +kernel
theorem dX10_overlapOf_42 : decode cX10_overlapOf 42 = .ok (.ifCond .eq 14, 3) := by decide +kernel
theorem dX10_overlapOf_45 : decode cX10_overlapOf 45 = .ok (.aload_n 0, 1) := by decide +kernel
theorem dX10_overlapOf_46 : decode cX10_overlapOf 46 = .ok (.iconst 0, 1) := by decide +kernel
theorem dX10_overlapOf_47 : decode cX10_overlapOf 47 = .ok (.iload_n 3, 1) := by decide +kernel
theorem dX10_overlapOf_48 : decode cX10_overlapOf 48 = .ok (.bipush 19, 2) := by decide +kernel
theorem dX10_overlapOf_50 : decode cX10_overlapOf 50 = .ok (.invokevirtual 277, 3) := by decide +kernel
theorem dX10_overlapOf_53 : decode cX10_overlapOf 53 = .ok (.ifCond .ne 5, 3) := by decide +kernel
theorem dX10_overlapOf_56 : decode cX10_overlapOf 56 = .ok (.iconst 3, 1) := by decide +kernel
theorem dX10_overlapOf_57 : decode cX10_overlapOf 57 = .ok (.ireturn, 1) := by decide +kernel
theorem dX10_overlapOf_58 : decode cX10_overlapOf 58 = .ok (.aload_n 0, 1) := by decide +kernel
theorem dX10_overlapOf_59 : decode cX10_overlapOf 59 = .ok (.bipush 18, 2) := by decide +kernel
theorem dX10_overlapOf_61 : decode cX10_overlapOf 61 = .ok (.iconst 1, 1) := by decide +kernel
theorem dX10_overlapOf_62 : decode cX10_overlapOf 62 = .ok (.invokevirtual 242, 3) := by decide +kernel
theorem dX10_overlapOf_65 : decode cX10_overlapOf 65 = .ok (.istore 4, 2) := by decide +kernel
theorem dX10_overlapOf_67 : decode cX10_overlapOf 67 = .ok (.aload_n 0, 1) := by decide +kernel
theorem dX10_overlapOf_68 : decode cX10_overlapOf 68 = .ok (.bipush 19, 2) := by decide +kernel
theorem dX10_overlapOf_70 : decode cX10_overlapOf 70 = .ok (.iconst 1, 1) := by decide +kernel
theorem dX10_overlapOf_71 : decode cX10_overlapOf 71 = .ok (.invokevirtual 242, 3) := by decide +kernel
theorem dX10_overlapOf_74 : decode cX10_overlapOf 74 = .ok (.istore 5, 2) := by decide +kernel
theorem dX10_overlapOf_76 : decode cX10_overlapOf 76 = .ok (.iload 4, 2) := by decide +kernel
theorem dX10_overlapOf_78 : decode cX10_overlapOf 78 = .ok (.ifCond .ne 25, 3) := by decide +kernel
theorem dX10_overlapOf_81 : decode cX10_overlapOf 81 = .ok (.iload 5, 2) := by decide +kernel
theorem dX10_overlapOf_83 : decode cX10_overlapOf 83 = .ok (.ifCond .ne 20, 3) := by decide +kernel
theorem dX10_overlapOf_86 : decode cX10_overlapOf 86 = .ok (.aload_n 0, 1) := by decide +kernel
theorem dX10_overlapOf_87 : decode cX10_overlapOf 87 = .ok (.bipush 18, 2) := by decide +kernel
theorem dX10_overlapOf_89 : decode cX10_overlapOf 89 = .ok (.iconst 0, 1) := by decide +kernel
theorem dX10_overlapOf_90 : decode cX10_overlapOf 90 = .ok (.bipush 19, 2) := by decide +kernel
theorem dX10_overlapOf_92 : decode cX10_overlapOf 92 = .ok (.iconst 0, 1) := by decide +kernel
theorem dX10_overlapOf_93 : decode cX10_overlapOf 93 = .ok (.invokevirtual 153, 3) := by decide +kernel
theorem dX10_overlapOf_96 : decode cX10_overlapOf 96 = .ok (.ifCond .eq 7, 3) := by decide +kernel
theorem dX10_overlapOf_99 : decode cX10_overlapOf 99 = .ok (.iconst 2, 1) := by decide +kernel
theorem dX10_overlapOf_100 : decode cX10_overlapOf 100 = .ok (.goto 4, 3) := by decide +kernel
theorem dX10_overlapOf_103 : decode cX10_overlapOf 103 = .ok (.iconst 1, 1) := by decide +kernel
theorem dX10_overlapOf_104 : decode cX10_overlapOf 104 = .ok (.ireturn, 1) := by decide +kernel
theorem dX10_isRule_0 : decode cX10_isRule 0 = .ok (.iload_n 1, 1) := by decide +kernel
theorem dX10_isRule_1 : decode cX10_isRule 1 = .ok (.iconst 0, 1) := by decide +kernel
theorem dX10_isRule_2 : decode cX10_isRule 2 = .ok (.aload_n 0, 1) := by decide +kernel
theorem dX10_isRule_3 : decode cX10_isRule 3 = .ok (.getfield 208, 3) := by decide +kernel
theorem dX10_isRule_6 : decode cX10_isRule 6 = .ok (.iconst 1, 1) := by decide +kernel
theorem dX10_isRule_7 : decode cX10_isRule 7 = .ok (.isub, 1) := by decide +kernel
theorem dX10_isRule_8 : decode cX10_isRule 8 = .ok (.invokestatic 110, 3) := by decide +kernel
theorem dX10_isRule_11 : decode cX10_isRule 11 = .ok (.ireturn, 1) := by decide +kernel
theorem dX10_barred_0 : decode cX10_barred 0 = .ok (.aload_n 0, 1) := by decide +kernel
theorem dX10_barred_1 : decode cX10_barred 1 = .ok (.iload_n 1, 1) := by decide +kernel
theorem dX10_barred_2 : decode cX10_barred 2 = .ok (.invokevirtual 280, 3) := by decide +kernel
theorem dX10_barred_5 : decode cX10_barred 5 = .ok (.ifCond .eq 30, 3) := by decide +kernel
theorem dX10_barred_8 : decode cX10_barred 8 = .ok (.aload_n 0, 1) := by decide +kernel
theorem dX10_barred_9 : decode cX10_barred 9 = .ok (.iload_n 2, 1) := by decide +kernel
theorem dX10_barred_10 : decode cX10_barred 10 = .ok (.invokevirtual 280, 3) := by decide +kernel
theorem dX10_barred_13 : decode cX10_barred 13 = .ok (.ifCond .eq 22, 3) := by decide +kernel
theorem dX10_barred_16 : decode cX10_barred 16 = .ok (.iload_n 3, 1) := by decide +kernel
theorem dX10_barred_17 : decode cX10_barred 17 = .ok (.iconst 0, 1) := by decide +kernel
theorem dX10_barred_18 : decode cX10_barred 18 = .ok (.aload_n 0, 1) := by decide +kernel
theorem dX10_barred_19 : decode cX10_barred 19 = .ok (.getfield 7, 3) := by decide +kernel
theorem dX10_barred_22 : decode cX10_barred 22 = .ok (.bipush 6, 2) := by decide +kernel
theorem dX10_barred_24 : decode cX10_barred 24 = .ok (.iload_n 1, 1) := by decide +kernel
theorem dX10_barred_25 : decode cX10_barred 25 = .ok (.iadd, 1) := by decide +kernel
theorem dX10_barred_26 : decode cX10_barred 26 = .ok (.iaload, 1) := by decide +kernel
theorem dX10_barred_27 : decode cX10_barred 27 = .ok (.iconst 1, 1) := by decide +kernel
theorem dX10_barred_28 : decode cX10_barred 28 = .ok (.isub, 1) := by decide +kernel
theorem dX10_barred_29 : decode cX10_barred 29 = .ok (.invokestatic 110, 3) := by decide +kernel
theorem dX10_barred_32 : decode cX10_barred 32 = .ok (.ifCond .ne 5, 3) := by decide +kernel
theorem dX10_barred_35 : decode cX10_barred 35 = .ok (.iconst (-1), 1) := by decide +kernel
theorem dX10_barred_36 : decode cX10_barred 36 = .ok (.ireturn, 1) := by decide +kernel
theorem dX10_barred_37 : decode cX10_barred 37 = .ok (.aload_n 0, 1) := by decide +kernel
theorem dX10_barred_38 : decode cX10_barred 38 = .ok (.getfield 13, 3) := by decide +kernel
theorem dX10_barred_41 : decode cX10_barred 41 = .ok (.bipush 32, 2) := by decide +kernel
theorem dX10_barred_43 : decode cX10_barred 43 = .ok (.bipush 6, 2) := by decide +kernel
theorem dX10_barred_45 : decode cX10_barred 45 = .ok (.iload_n 1, 1) := by decide +kernel
theorem dX10_barred_46 : decode cX10_barred 46 = .ok (.iadd, 1) := by decide +kernel
theorem dX10_barred_47 : decode cX10_barred 47 = .ok (.imul, 1) := by decide +kernel
theorem dX10_barred_48 : decode cX10_barred 48 = .ok (.iload_n 3, 1) := by decide +kernel
theorem dX10_barred_49 : decode cX10_barred 49 = .ok (.iadd, 1) := by decide +kernel
theorem dX10_barred_50 : decode cX10_barred 50 = .ok (.iaload, 1) := by decide +kernel
theorem dX10_barred_51 : decode cX10_barred 51 = .ok (.invokestatic 121, 3) := by decide +kernel
theorem dX10_barred_54 : decode cX10_barred 54 = .ok (.ifCond .ne 12, 3) := by decide +kernel
theorem dX10_barred_57 : decode cX10_barred 57 = .ok (.iload_n 1, 1) := by decide +kernel
theorem dX10_barred_58 : decode cX10_barred 58 = .ok (.iload_n 2, 1) := by decide +kernel
theorem dX10_barred_59 : decode cX10_barred 59 = .ok (.if_icmp .ne 12, 3) := by decide +kernel
theorem dX10_barred_62 : decode cX10_barred 62 = .ok (.iload_n 3, 1) := by decide +kernel
theorem dX10_barred_63 : decode cX10_barred 63 = .ok (.ifCond .ne 8, 3) := by decide +kernel
theorem dX10_barred_66 : decode cX10_barred 66 = .ok (.bipush (-5), 2) := by decide +kernel
theorem dX10_barred_68 : decode cX10_barred 68 = .ok (.goto 4, 3) := by decide +kernel
theorem dX10_barred_71 : decode cX10_barred 71 = .ok (.iconst 0, 1) := by decide +kernel
theorem dX10_barred_72 : decode cX10_barred 72 = .ok (.ireturn, 1) := by decide +kernel
theorem dX10_overlap_0 : decode cX10_overlap 0 = .ok (.aload_n 0, 1) := by decide +kernel
theorem dX10_overlap_1 : decode cX10_overlap 1 = .ok (.iload_n 1, 1) := by decide +kernel
theorem dX10_overlap_2 : decode cX10_overlap 2 = .ok (.iload_n 2, 1) := by decide +kernel
theorem dX10_overlap_3 : decode cX10_overlap 3 = .ok (.iload_n 3, 1) := by decide +kernel
theorem dX10_overlap_4 : decode cX10_overlap 4 = .ok (.invokevirtual 283, 3) := by decide +kernel
theorem dX10_overlap_7 : decode cX10_overlap 7 = .ok (.istore 4, 2) := by decide +kernel
theorem dX10_overlap_9 : decode cX10_overlap 9 = .ok (.iload 4, 2) := by decide +kernel
theorem dX10_overlap_11 : decode cX10_overlap 11 = .ok (.ifCond .ge 8, 3) := by decide +kernel
theorem dX10_overlap_14 : decode cX10_overlap 14 = .ok (.iload 4, 2) := by decide +kernel
theorem dX10_overlap_16 : decode cX10_overlap 16 = .ok (.goto 10, 3) := by decide +kernel
theorem dX10_overlap_19 : decode cX10_overlap 19 = .ok (.aload_n 0, 1) := by decide +kernel
theorem dX10_overlap_20 : decode cX10_overlap 20 = .ok (.iload_n 1, 1) := by decide +kernel
theorem dX10_overlap_21 : decode cX10_overlap 21 = .ok (.iload_n 2, 1) := by decide +kernel
theorem dX10_overlap_22 : decode cX10_overlap 22 = .ok (.iload_n 3, 1) := by decide +kernel
theorem dX10_overlap_23 : decode cX10_overlap 23 = .ok (.invokevirtual 287, 3) := by decide +kernel
theorem dX10_overlap_26 : decode cX10_overlap 26 = .ok (.ireturn, 1) := by decide +kernel
theorem dX10_peak_0 : decode cX10_peak 0 = .ok (.aload_n 0, 1) := by decide +kernel
theorem dX10_peak_1 : decode cX10_peak 1 = .ok (.iload_n 1, 1) := by decide +kernel
theorem dX10_peak_2 : decode cX10_peak 2 = .ok (.iload_n 2, 1) := by decide +kernel
theorem dX10_peak_3 : decode cX10_peak 3 = .ok (.iload_n 3, 1) := by decide +kernel
theorem dX10_peak_4 : decode cX10_peak 4 = .ok (.invokevirtual 283, 3) := by decide +kernel
theorem dX10_peak_7 : decode cX10_peak 7 = .ok (.istore 5, 2) := by decide +kernel
theorem dX10_peak_9 : decode cX10_peak 9 = .ok (.iload 5, 2) := by decide +kernel
theorem dX10_peak_11 : decode cX10_peak 11 = .ok (.iconst (-1), 1) := by decide +kernel
theorem dX10_peak_12 : decode cX10_peak 12 = .ok (.if_icmp .eq 11, 3) := by decide +kernel
theorem dX10_peak_15 : decode cX10_peak 15 = .ok (.iload 4, 2) := by decide +kernel
theorem dX10_peak_17 : decode cX10_peak 17 = .ok (.invokestatic 114, 3) := by decide +kernel
theorem dX10_peak_20 : decode cX10_peak 20 = .ok (.ifCond .ne 5, 3) := by decide +kernel
theorem dX10_peak_23 : decode cX10_peak 23 = .ok (.iconst (-1), 1) := by decide +kernel
theorem dX10_peak_24 : decode cX10_peak 24 = .ok (.ireturn, 1) := by decide +kernel
theorem dX10_peak_25 : decode cX10_peak 25 = .ok (.iload 5, 2) := by decide +kernel
theorem dX10_peak_27 : decode cX10_peak 27 = .ok (.ifCond .ge 6, 3) := by decide +kernel
theorem dX10_peak_30 : decode cX10_peak 30 = .ok (.iload 5, 2) := by decide +kernel
theorem dX10_peak_32 : decode cX10_peak 32 = .ok (.ireturn, 1) := by decide +kernel
theorem dX10_peak_33 : decode cX10_peak 33 = .ok (.aload_n 0, 1) := by decide +kernel
theorem dX10_peak_34 : decode cX10_peak 34 = .ok (.iload_n 1, 1) := by decide +kernel
theorem dX10_peak_35 : decode cX10_peak 35 = .ok (.putfield 246, 3) := by decide +kernel
theorem dX10_peak_38 : decode cX10_peak 38 = .ok (.aload_n 0, 1) := by decide +kernel
theorem dX10_peak_39 : decode cX10_peak 39 = .ok (.iload_n 2, 1) := by decide +kernel
theorem dX10_peak_40 : decode cX10_peak 40 = .ok (.putfield 249, 3) := by decide +kernel
theorem dX10_peak_43 : decode cX10_peak 43 = .ok (.aload_n 0, 1) := by decide +kernel
theorem dX10_peak_44 : decode cX10_peak 44 = .ok (.iload_n 3, 1) := by decide +kernel
theorem dX10_peak_45 : decode cX10_peak 45 = .ok (.bipush 16, 2) := by decide +kernel
theorem dX10_peak_47 : decode cX10_peak 47 = .ok (.invokevirtual 274, 3) := by decide +kernel
theorem dX10_peak_50 : decode cX10_peak 50 = .ok (.ifCond .ne 6, 3) := by decide +kernel
theorem dX10_peak_53 : decode cX10_peak 53 = .ok (.bipush (-3), 2) := by decide +kernel
theorem dX10_peak_55 : decode cX10_peak 55 = .ok (.ireturn, 1) := by decide +kernel
theorem dX10_peak_56 : decode cX10_peak 56 = .ok (.aload_n 0, 1) := by decide +kernel
theorem dX10_peak_57 : decode cX10_peak 57 = .ok (.iconst 0, 1) := by decide +kernel
theorem dX10_peak_58 : decode cX10_peak 58 = .ok (.iconst (-1), 1) := by decide +kernel
theorem dX10_peak_59 : decode cX10_peak 59 = .ok (.bipush 18, 2) := by decide +kernel
theorem dX10_peak_61 : decode cX10_peak 61 = .ok (.invokevirtual 277, 3) := by decide +kernel
theorem dX10_peak_64 : decode cX10_peak 64 = .ok (.ifCond .ne 6, 3) := by decide +kernel
theorem dX10_peak_67 : decode cX10_peak 67 = .ok (.bipush (-4), 2) := by decide +kernel
theorem dX10_peak_69 : decode cX10_peak 69 = .ok (.ireturn, 1) := by decide +kernel
theorem dX10_peak_70 : decode cX10_peak 70 = .ok (.iconst 0, 1) := by decide +kernel
theorem dX10_peak_71 : decode cX10_peak 71 = .ok (.istore 6, 2) := by decide +kernel
theorem dX10_peak_73 : decode cX10_peak 73 = .ok (.iconst 0, 1) := by decide +kernel
theorem dX10_peak_74 : decode cX10_peak 74 = .ok (.istore 7, 2) := by decide +kernel
theorem dX10_peak_76 : decode cX10_peak 76 = .ok (.iload 7, 2) := by decide +kernel
theorem dX10_peak_78 : decode cX10_peak 78 = .ok (.aload_n 0, 1) := by decide +kernel
theorem dX10_peak_79 : decode cX10_peak 79 = .ok (.getfield 7, 3) := by decide +kernel
theorem dX10_peak_82 : decode cX10_peak 82 = .ok (.bipush 18, 2) := by decide +kernel
theorem dX10_peak_84 : decode cX10_peak 84 = .ok (.iaload, 1) := by decide +kernel
theorem dX10_peak_85 : decode cX10_peak 85 = .ok (.if_icmp .ge 101, 3) := by decide +kernel
theorem dX10_peak_88 : decode cX10_peak 88 = .ok (.aload_n 0, 1) := by decide +kernel
theorem dX10_peak_89 : decode cX10_peak 89 = .ok (.getfield 13, 3) := by decide +kernel
theorem dX10_peak_92 : decode cX10_peak 92 = .ok (.sipush 576, 3) := by decide +kernel
theorem dX10_peak_95 : decode cX10_peak 95 = .ok (.iload 7, 2) := by decide +kernel
theorem dX10_peak_97 : decode cX10_peak 97 = .ok (.iadd, 1) := by decide +kernel
theorem dX10_peak_98 : decode cX10_peak 98 = .ok (.iaload, 1) := by decide +kernel
theorem dX10_peak_99 : decode cX10_peak 99 = .ok (.istore 8, 2) := by decide +kernel
theorem dX10_peak_101 : decode cX10_peak 101 = .ok (.iload 8, 2) := by decide +kernel
theorem dX10_peak_103 : decode cX10_peak 103 = .ok (.sipush 1000, 3) := by decide +kernel
theorem dX10_peak_106 : decode cX10_peak 106 = .ok (.if_icmp .lt 74, 3) := by decide +kernel
theorem dX10_peak_109 : decode cX10_peak 109 = .ok (.iload 7, 2) := by decide +kernel
theorem dX10_peak_111 : decode cX10_peak 111 = .ok (.istore 9, 2) := by decide +kernel
theorem dX10_peak_113 : decode cX10_peak 113 = .ok (.iload 9, 2) := by decide +kernel
theorem dX10_peak_115 : decode cX10_peak 115 = .ok (.aload_n 0, 1) := by decide +kernel
theorem dX10_peak_116 : decode cX10_peak 116 = .ok (.getfield 7, 3) := by decide +kernel
theorem dX10_peak_119 : decode cX10_peak 119 = .ok (.bipush 18, 2) := by decide +kernel
theorem dX10_peak_121 : decode cX10_peak 121 = .ok (.iaload, 1) := by decide +kernel
theorem dX10_peak_122 : decode cX10_peak 122 = .ok (.if_icmp .ge 55, 3) := by decide +kernel
theorem dX10_peak_125 : decode cX10_peak 125 = .ok (.aload_n 0, 1) := by decide +kernel
theorem dX10_peak_126 : decode cX10_peak 126 = .ok (.getfield 13, 3) := by decide +kernel
theorem dX10_peak_129 : decode cX10_peak 129 = .ok (.sipush 576, 3) := by decide +kernel
theorem dX10_peak_132 : decode cX10_peak 132 = .ok (.iload 9, 2) := by decide +kernel
theorem dX10_peak_134 : decode cX10_peak 134 = .ok (.iadd, 1) := by decide +kernel
theorem dX10_peak_135 : decode cX10_peak 135 = .ok (.aload_n 0, 1) := by decide +kernel
theorem dX10_peak_136 : decode cX10_peak 136 = .ok (.getfield 13, 3) := by decide +kernel
theorem dX10_peak_139 : decode cX10_peak 139 = .ok (.sipush 576, 3) := by decide +kernel
theorem dX10_peak_142 : decode cX10_peak 142 = .ok (.iload 9, 2) := by decide +kernel
theorem dX10_peak_144 : decode cX10_peak 144 = .ok (.iadd, 1) := by decide +kernel
theorem dX10_peak_145 : decode cX10_peak 145 = .ok (.iaload, 1) := by decide +kernel
theorem dX10_peak_146 : decode cX10_peak 146 = .ok (.iload 8, 2) := by decide +kernel
theorem dX10_peak_148 : decode cX10_peak 148 = .ok (.if_icmp .ne 11, 3) := by decide +kernel
theorem dX10_peak_151 : decode cX10_peak 151 = .ok (.bipush 65, 2) := by decide +kernel
theorem dX10_peak_153 : decode cX10_peak 153 = .ok (.iload 6, 2) := by decide +kernel
theorem dX10_peak_155 : decode cX10_peak 155 = .ok (.iadd, 1) := by decide +kernel
theorem dX10_peak_156 : decode cX10_peak 156 = .ok (.goto 14, 3) := by decide +kernel
theorem dX10_peak_159 : decode cX10_peak 159 = .ok (.aload_n 0, 1) := by decide +kernel
theorem dX10_peak_160 : decode cX10_peak 160 = .ok (.getfield 13, 3) := by decide +kernel
theorem dX10_peak_163 : decode cX10_peak 163 = .ok (.sipush 576, 3) := by decide +kernel
theorem dX10_peak_166 : decode cX10_peak 166 = .ok (.iload 9, 2) := by decide +kernel
theorem dX10_peak_168 : decode cX10_peak 168 = .ok (.iadd, 1) := by decide +kernel
theorem dX10_peak_169 : decode cX10_peak 169 = .ok (.iaload, 1) := by decide +kernel
theorem dX10_peak_170 : decode cX10_peak 170 = .ok (.iastore, 1) := by decide +kernel
theorem dX10_peak_171 : decode cX10_peak 171 = .ok (.iinc 9 1, 3) := by decide +kernel
theorem dX10_peak_174 : decode cX10_peak 174 = .ok (.goto (-61), 3) := by decide +kernel
theorem dX10_peak_177 : decode cX10_peak 177 = .ok (.iinc 6 1, 3) := by decide +kernel
theorem dX10_peak_180 : decode cX10_peak 180 = .ok (.iinc 7 1, 3) := by decide +kernel
theorem dX10_peak_183 : decode cX10_peak 183 = .ok (.goto (-107), 3) := by decide +kernel
theorem dX10_peak_186 : decode cX10_peak 186 = .ok (.iload 6, 2) := by decide +kernel
theorem dX10_peak_188 : decode cX10_peak 188 = .ok (.bipush 8, 2) := by decide +kernel
theorem dX10_peak_190 : decode cX10_peak 190 = .ok (.if_icmp .le 6, 3) := by decide +kernel
theorem dX10_peak_193 : decode cX10_peak 193 = .ok (.bipush (-4), 2) := by decide +kernel
theorem dX10_peak_195 : decode cX10_peak 195 = .ok (.ireturn, 1) := by decide +kernel
theorem dX10_peak_196 : decode cX10_peak 196 = .ok (.aload_n 0, 1) := by decide +kernel
theorem dX10_peak_197 : decode cX10_peak 197 = .ok (.bipush 18, 2) := by decide +kernel
theorem dX10_peak_199 : decode cX10_peak 199 = .ok (.iconst 0, 1) := by decide +kernel
theorem dX10_peak_200 : decode cX10_peak 200 = .ok (.aload_n 0, 1) := by decide +kernel
theorem dX10_peak_201 : decode cX10_peak 201 = .ok (.getfield 7, 3) := by decide +kernel
theorem dX10_peak_204 : decode cX10_peak 204 = .ok (.bipush 18, 2) := by decide +kernel
theorem dX10_peak_206 : decode cX10_peak 206 = .ok (.iaload, 1) := by decide +kernel
theorem dX10_peak_207 : decode cX10_peak 207 = .ok (.iload 4, 2) := by decide +kernel
theorem dX10_peak_209 : decode cX10_peak 209 = .ok (.invokevirtual 149, 3) := by decide +kernel
theorem dX10_peak_212 : decode cX10_peak 212 = .ok (.aload_n 0, 1) := by decide +kernel
theorem dX10_peak_213 : decode cX10_peak 213 = .ok (.getfield 7, 3) := by decide +kernel
theorem dX10_peak_216 : decode cX10_peak 216 = .ok (.iload 4, 2) := by decide +kernel
theorem dX10_peak_218 : decode cX10_peak 218 = .ok (.iaload, 1) := by decide +kernel
theorem dX10_peak_219 : decode cX10_peak 219 = .ok (.ireturn, 1) := by decide +kernel
theorem dX10_overlaps_0 : decode cX10_overlaps 0 = .ok (.iload_n 1, 1) := by decide +kernel
theorem dX10_overlaps_1 : decode cX10_overlaps 1 = .ok (.iconst 0, 1) := by decide +kernel
theorem dX10_overlaps_2 : decode cX10_overlaps 2 = .ok (.iconst 3, 1) := by decide +kernel
theorem dX10_overlaps_3 : decode cX10_overlaps 3 = .ok (.invokestatic 110, 3) := by decide +kernel
theorem dX10_overlaps_6 : decode cX10_overlaps 6 = .ok (.ifCond .ne 6, 3) := by decide +kernel
theorem dX10_overlaps_9 : decode cX10_overlaps 9 = .ok (.bipush (-2), 2) := by decide +kernel
theorem dX10_overlaps_11 : decode cX10_overlaps 11 = .ok (.ireturn, 1) := by decide +kernel
theorem dX10_overlaps_12 : decode cX10_overlaps 12 = .ok (.iconst 0, 1) := by decide +kernel
theorem dX10_overlaps_13 : decode cX10_overlaps 13 = .ok (.istore_n 2, 1) := by decide +kernel
theorem dX10_overlaps_14 : decode cX10_overlaps 14 = .ok (.iconst 0, 1) := by decide +kernel
theorem dX10_overlaps_15 : decode cX10_overlaps 15 = .ok (.istore_n 3, 1) := by decide +kernel
theorem dX10_overlaps_16 : decode cX10_overlaps 16 = .ok (.iload_n 3, 1) := by decide +kernel
theorem dX10_overlaps_17 : decode cX10_overlaps 17 = .ok (.aload_n 0, 1) := by decide +kernel
theorem dX10_overlaps_18 : decode cX10_overlaps 18 = .ok (.getfield 208, 3) := by decide +kernel
theorem dX10_overlaps_21 : decode cX10_overlaps 21 = .ok (.if_icmp .ge 146, 3) := by decide +kernel
theorem dX10_overlaps_24 : decode cX10_overlaps 24 = .ok (.iconst 0, 1) := by decide +kernel
theorem dX10_overlaps_25 : decode cX10_overlaps 25 = .ok (.istore 4, 2) := by decide +kernel
theorem dX10_overlaps_27 : decode cX10_overlaps 27 = .ok (.iload 4, 2) := by decide +kernel
theorem dX10_overlaps_29 : decode cX10_overlaps 29 = .ok (.aload_n 0, 1) := by decide +kernel
theorem dX10_overlaps_30 : decode cX10_overlaps 30 = .ok (.getfield 208, 3) := by decide +kernel
theorem dX10_overlaps_33 : decode cX10_overlaps 33 = .ok (.if_icmp .ge 128, 3) := by decide +kernel
theorem dX10_overlaps_36 : decode cX10_overlaps 36 = .ok (.iconst 0, 1) := by decide +kernel
theorem dX10_overlaps_37 : decode cX10_overlaps 37 = .ok (.istore 5, 2) := by decide +kernel
theorem dX10_overlaps_39 : decode cX10_overlaps 39 = .ok (.iload 5, 2) := by decide +kernel
theorem dX10_overlaps_41 : decode cX10_overlaps 41 = .ok (.aload_n 0, 1) := by decide +kernel
theorem dX10_overlaps_42 : decode cX10_overlaps 42 = .ok (.getfield 7, 3) := by decide +kernel
theorem dX10_overlaps_45 : decode cX10_overlaps 45 = .ok (.bipush 6, 2) := by decide +kernel
theorem dX10_overlaps_47 : decode cX10_overlaps 47 = .ok (.iload_n 3, 1) := by decide +kernel
theorem dX10_overlaps_48 : decode cX10_overlaps 48 = .ok (.iadd, 1) := by decide +kernel
theorem dX10_overlaps_49 : decode cX10_overlaps 49 = .ok (.iaload, 1) := by decide +kernel
theorem dX10_overlaps_50 : decode cX10_overlaps 50 = .ok (.if_icmp .ge 105, 3) := by decide +kernel
theorem dX10_overlaps_53 : decode cX10_overlaps 53 = .ok (.aload_n 0, 1) := by decide +kernel
theorem dX10_overlaps_54 : decode cX10_overlaps 54 = .ok (.iload_n 3, 1) := by decide +kernel
theorem dX10_overlaps_55 : decode cX10_overlaps 55 = .ok (.iload 4, 2) := by decide +kernel
theorem dX10_overlaps_57 : decode cX10_overlaps 57 = .ok (.iload 5, 2) := by decide +kernel
theorem dX10_overlaps_59 : decode cX10_overlaps 59 = .ok (.invokevirtual 283, 3) := by decide +kernel
theorem dX10_overlaps_62 : decode cX10_overlaps 62 = .ok (.ifCond .ge 7, 3) := by decide +kernel
theorem dX10_overlaps_65 : decode cX10_overlaps 65 = .ok (.iconst 0, 1) := by decide +kernel
theorem dX10_overlaps_66 : decode cX10_overlaps 66 = .ok (.goto 12, 3) := by decide +kernel
theorem dX10_overlaps_69 : decode cX10_overlaps 69 = .ok (.aload_n 0, 1) := by decide +kernel
theorem dX10_overlaps_70 : decode cX10_overlaps 70 = .ok (.iload_n 3, 1) := by decide +kernel
theorem dX10_overlaps_71 : decode cX10_overlaps 71 = .ok (.iload 4, 2) := by decide +kernel
theorem dX10_overlaps_73 : decode cX10_overlaps 73 = .ok (.iload 5, 2) := by decide +kernel
theorem dX10_overlaps_75 : decode cX10_overlaps 75 = .ok (.invokevirtual 287, 3) := by decide +kernel
theorem dX10_overlaps_78 : decode cX10_overlaps 78 = .ok (.istore 6, 2) := by decide +kernel
theorem dX10_overlaps_80 : decode cX10_overlaps 80 = .ok (.iload_n 2, 1) := by decide +kernel
theorem dX10_overlaps_81 : decode cX10_overlaps 81 = .ok (.iload_n 1, 1) := by decide +kernel
theorem dX10_overlaps_82 : decode cX10_overlaps 82 = .ok (.ifCond .ne 16, 3) := by decide +kernel
theorem dX10_overlaps_85 : decode cX10_overlaps 85 = .ok (.iload 6, 2) := by decide +kernel
theorem dX10_overlaps_87 : decode cX10_overlaps 87 = .ok (.ifCond .le 7, 3) := by decide +kernel
theorem dX10_overlaps_90 : decode cX10_overlaps 90 = .ok (.iconst 1, 1) := by decide +kernel
theorem dX10_overlaps_91 : decode cX10_overlaps 91 = .ok (.goto 56, 3) := by decide +kernel
theorem dX10_overlaps_94 : decode cX10_overlaps 94 = .ok (.iconst 0, 1) := by decide +kernel
theorem dX10_overlaps_95 : decode cX10_overlaps 95 = .ok (.goto 52, 3) := by decide +kernel
theorem dX10_overlaps_98 : decode cX10_overlaps 98 = .ok (.iload_n 1, 1) := by decide +kernel
theorem dX10_overlaps_99 : decode cX10_overlaps 99 = .ok (.iconst 1, 1) := by decide +kernel
theorem dX10_overlaps_100 : decode cX10_overlaps 100 = .ok (.if_icmp .ne 17, 3) := by decide +kernel
theorem dX10_overlaps_103 : decode cX10_overlaps 103 = .ok (.iload 6, 2) := by decide +kernel
theorem dX10_overlaps_105 : decode cX10_overlaps 105 = .ok (.iconst 2, 1) := by decide +kernel
theorem dX10_overlaps_106 : decode cX10_overlaps 106 = .ok (.if_icmp .ne 7, 3) := by decide +kernel
theorem dX10_overlaps_109 : decode cX10_overlaps 109 = .ok (.iconst 1, 1) := by decide +kernel
theorem dX10_overlaps_110 : decode cX10_overlaps 110 = .ok (.goto 37, 3) := by decide +kernel
theorem dX10_overlaps_113 : decode cX10_overlaps 113 = .ok (.iconst 0, 1) := by decide +kernel
theorem dX10_overlaps_114 : decode cX10_overlaps 114 = .ok (.goto 33, 3) := by decide +kernel
theorem dX10_overlaps_117 : decode cX10_overlaps 117 = .ok (.iload_n 1, 1) := by decide +kernel
theorem dX10_overlaps_118 : decode cX10_overlaps 118 = .ok (.iconst 2, 1) := by decide +kernel
theorem dX10_overlaps_119 : decode cX10_overlaps 119 = .ok (.if_icmp .ne 17, 3) := by decide +kernel
theorem dX10_overlaps_122 : decode cX10_overlaps 122 = .ok (.iload 6, 2) := by decide +kernel
theorem dX10_overlaps_124 : decode cX10_overlaps 124 = .ok (.iconst 1, 1) := by decide +kernel
theorem dX10_overlaps_125 : decode cX10_overlaps 125 = .ok (.if_icmp .ne 7, 3) := by decide +kernel
theorem dX10_overlaps_128 : decode cX10_overlaps 128 = .ok (.iconst 1, 1) := by decide +kernel
theorem dX10_overlaps_129 : decode cX10_overlaps 129 = .ok (.goto 18, 3) := by decide +kernel
theorem dX10_overlaps_132 : decode cX10_overlaps 132 = .ok (.iconst 0, 1) := by decide +kernel
theorem dX10_overlaps_133 : decode cX10_overlaps 133 = .ok (.goto 14, 3) := by decide +kernel
theorem dX10_overlaps_136 : decode cX10_overlaps 136 = .ok (.iload 6, 2) := by decide +kernel
theorem dX10_overlaps_138 : decode cX10_overlaps 138 = .ok (.iconst 3, 1) := by decide +kernel
theorem dX10_overlaps_139 : decode cX10_overlaps 139 = .ok (.if_icmp .ne 7, 3) := by decide +kernel
theorem dX10_overlaps_142 : decode cX10_overlaps 142 = .ok (.iconst 1, 1) := by decide +kernel
theorem dX10_overlaps_143 : decode cX10_overlaps 143 = .ok (.goto 4, 3) := by decide +kernel
theorem dX10_overlaps_146 : decode cX10_overlaps 146 = .ok (.iconst 0, 1) := by decide +kernel
theorem dX10_overlaps_147 : decode cX10_overlaps 147 = .ok (.iadd, 1) := by decide +kernel
theorem dX10_overlaps_148 : decode cX10_overlaps 148 = .ok (.istore_n 2, 1) := by decide +kernel
theorem dX10_overlaps_149 : decode cX10_overlaps 149 = .ok (.iinc 5 1, 3) := by decide +kernel
theorem dX10_overlaps_152 : decode cX10_overlaps 152 = .ok (.goto (-113), 3) := by decide +kernel
theorem dX10_overlaps_155 : decode cX10_overlaps 155 = .ok (.iinc 4 1, 3) := by decide +kernel
theorem dX10_overlaps_158 : decode cX10_overlaps 158 = .ok (.goto (-131), 3) := by decide +kernel
theorem dX10_overlaps_161 : decode cX10_overlaps 161 = .ok (.iinc 3 1, 3) := by decide +kernel
theorem dX10_overlaps_164 : decode cX10_overlaps 164 = .ok (.goto (-148), 3) := by decide +kernel
theorem dX10_overlaps_167 : decode cX10_overlaps 167 = .ok (.iload_n 2, 1) := by decide +kernel
theorem dX10_overlaps_168 : decode cX10_overlaps 168 = .ok (.ireturn, 1) := by decide +kernel
theorem dX10_told_0 : decode cX10_told 0 = .ok (.iload_n 1, 1) := by decide +kernel
theorem dX10_told_1 : decode cX10_told 1 = .ok (.bipush 10, 2) := by decide +kernel
theorem dX10_told_3 : decode cX10_told 3 = .ok (.bipush 15, 2) := by decide +kernel
theorem dX10_told_5 : decode cX10_told 5 = .ok (.invokestatic 110, 3) := by decide +kernel
theorem dX10_told_8 : decode cX10_told 8 = .ok (.ifCond .eq 13, 3) := by decide +kernel
theorem dX10_told_11 : decode cX10_told 11 = .ok (.aload_n 0, 1) := by decide +kernel
theorem dX10_told_12 : decode cX10_told 12 = .ok (.getfield 7, 3) := by decide +kernel
theorem dX10_told_15 : decode cX10_told 15 = .ok (.iload_n 1, 1) := by decide +kernel
theorem dX10_told_16 : decode cX10_told 16 = .ok (.bipush 10, 2) := by decide +kernel
theorem dX10_told_18 : decode cX10_told 18 = .ok (.isub, 1) := by decide +kernel
theorem dX10_told_19 : decode cX10_told 19 = .ok (.iaload, 1) := by decide +kernel
theorem dX10_told_20 : decode cX10_told 20 = .ok (.ireturn, 1) := by decide +kernel
theorem dX10_told_21 : decode cX10_told 21 = .ok (.iload_n 1, 1) := by decide +kernel
theorem dX10_told_22 : decode cX10_told 22 = .ok (.bipush 20, 2) := by decide +kernel
theorem dX10_told_24 : decode cX10_told 24 = .ok (.bipush 25, 2) := by decide +kernel
theorem dX10_told_26 : decode cX10_told 26 = .ok (.invokestatic 110, 3) := by decide +kernel
theorem dX10_told_29 : decode cX10_told 29 = .ok (.ifCond .eq 42, 3) := by decide +kernel
theorem dX10_told_32 : decode cX10_told 32 = .ok (.iconst 0, 1) := by decide +kernel
theorem dX10_told_33 : decode cX10_told 33 = .ok (.istore_n 2, 1) := by decide +kernel
theorem dX10_told_34 : decode cX10_told 34 = .ok (.bipush 65, 2) := by decide +kernel
theorem dX10_told_36 : decode cX10_told 36 = .ok (.istore_n 3, 1) := by decide +kernel
theorem dX10_told_37 : decode cX10_told 37 = .ok (.iload_n 3, 1) := by decide +kernel
theorem dX10_told_38 : decode cX10_told 38 = .ok (.bipush 72, 2) := by decide +kernel
theorem dX10_told_40 : decode cX10_told 40 = .ok (.if_icmp .gt 29, 3) := by decide +kernel
theorem dX10_told_43 : decode cX10_told 43 = .ok (.iload_n 2, 1) := by decide +kernel
theorem dX10_told_44 : decode cX10_told 44 = .ok (.aload_n 0, 1) := by decide +kernel
theorem dX10_told_45 : decode cX10_told 45 = .ok (.iload_n 1, 1) := by decide +kernel
theorem dX10_told_46 : decode cX10_told 46 = .ok (.bipush 20, 2) := by decide +kernel
theorem dX10_told_48 : decode cX10_told 48 = .ok (.isub, 1) := by decide +kernel
theorem dX10_told_49 : decode cX10_told 49 = .ok (.iload_n 3, 1) := by decide +kernel
theorem dX10_told_50 : decode cX10_told 50 = .ok (.invokevirtual 211, 3) := by decide +kernel
theorem dX10_told_53 : decode cX10_told 53 = .ok (.ifCond .eq 7, 3) := by decide +kernel
theorem dX10_told_56 : decode cX10_told 56 = .ok (.iconst 1, 1) := by decide +kernel
theorem dX10_told_57 : decode cX10_told 57 = .ok (.goto 4, 3) := by decide +kernel
theorem dX10_told_60 : decode cX10_told 60 = .ok (.iconst 0, 1) := by decide +kernel
theorem dX10_told_61 : decode cX10_told 61 = .ok (.iadd, 1) := by decide +kernel
theorem dX10_told_62 : decode cX10_told 62 = .ok (.istore_n 2, 1) := by decide +kernel
theorem dX10_told_63 : decode cX10_told 63 = .ok (.iinc 3 1, 3) := by decide +kernel
theorem dX10_told_66 : decode cX10_told 66 = .ok (.goto (-29), 3) := by decide +kernel
theorem dX10_told_69 : decode cX10_told 69 = .ok (.iload_n 2, 1) := by decide +kernel
theorem dX10_told_70 : decode cX10_told 70 = .ok (.ireturn, 1) := by decide +kernel
theorem dX10_told_71 : decode cX10_told 71 = .ok (.iload_n 1, 1) := by decide +kernel
theorem dX10_told_72 : decode cX10_told 72 = .ok (.ifCond .ne 10, 3) := by decide +kernel
theorem dX10_told_75 : decode cX10_told 75 = .ok (.aload_n 0, 1) := by decide +kernel
theorem dX10_told_76 : decode cX10_told 76 = .ok (.getfield 118, 3) := by decide +kernel
theorem dX10_told_79 : decode cX10_told 79 = .ok (.goto 17, 3) := by decide +kernel
theorem dX10_told_82 : decode cX10_told 82 = .ok (.iload_n 1, 1) := by decide +kernel
theorem dX10_told_83 : decode cX10_told 83 = .ok (.iconst 1, 1) := by decide +kernel
theorem dX10_told_84 : decode cX10_told 84 = .ok (.if_icmp .ne 10, 3) := by decide +kernel
theorem dX10_told_87 : decode cX10_told 87 = .ok (.aload_n 0, 1) := by decide +kernel
theorem dX10_told_88 : decode cX10_told 88 = .ok (.getfield 208, 3) := by decide +kernel
theorem dX10_told_91 : decode cX10_told 91 = .ok (.goto 5, 3) := by decide +kernel
theorem dX10_told_94 : decode cX10_told 94 = .ok (.bipush (-2), 2) := by decide +kernel
theorem dX10_told_96 : decode cX10_told 96 = .ok (.ireturn, 1) := by decide +kernel
theorem dJ6_bitCount_0f7a4_0 : decode cJ6_bitCount_0f7a4 0 = .ok (.iload_n 0, 1) := by decide +kernel
theorem dJ6_bitCount_0f7a4_1 : decode cJ6_bitCount_0f7a4 1 = .ok (.iload_n 0, 1) := by decide +kernel
theorem dJ6_bitCount_0f7a4_2 : decode cJ6_bitCount_0f7a4 2 = .ok (.iconst 1, 1) := by decide +kernel
theorem dJ6_bitCount_0f7a4_3 : decode cJ6_bitCount_0f7a4 3 = .ok (.iushr, 1) := by decide +kernel
theorem dJ6_bitCount_0f7a4_4 : decode cJ6_bitCount_0f7a4 4 = .ok (.ldc_w 265, 3) := by decide +kernel
theorem dJ6_bitCount_0f7a4_7 : decode cJ6_bitCount_0f7a4 7 = .ok (.iand, 1) := by decide +kernel
theorem dJ6_bitCount_0f7a4_8 : decode cJ6_bitCount_0f7a4 8 = .ok (.isub, 1) := by decide +kernel
theorem dJ6_bitCount_0f7a4_9 : decode cJ6_bitCount_0f7a4 9 = .ok (.istore_n 0, 1) := by decide +kernel
theorem dJ6_bitCount_0f7a4_10 : decode cJ6_bitCount_0f7a4 10 = .ok (.iload_n 0, 1) := by decide +kernel
theorem dJ6_bitCount_0f7a4_11 : decode cJ6_bitCount_0f7a4 11 = .ok (.ldc_w 266, 3) := by decide +kernel
theorem dJ6_bitCount_0f7a4_14 : decode cJ6_bitCount_0f7a4 14 = .ok (.iand, 1) := by decide +kernel
theorem dJ6_bitCount_0f7a4_15 : decode cJ6_bitCount_0f7a4 15 = .ok (.iload_n 0, 1) := by decide +kernel
theorem dJ6_bitCount_0f7a4_16 : decode cJ6_bitCount_0f7a4 16 = .ok (.iconst 2, 1) := by decide +kernel
theorem dJ6_bitCount_0f7a4_17 : decode cJ6_bitCount_0f7a4 17 = .ok (.iushr, 1) := by decide +kernel
theorem dJ6_bitCount_0f7a4_18 : decode cJ6_bitCount_0f7a4 18 = .ok (.ldc_w 266, 3) := by decide +kernel
theorem dJ6_bitCount_0f7a4_21 : decode cJ6_bitCount_0f7a4 21 = .ok (.iand, 1) := by decide +kernel
theorem dJ6_bitCount_0f7a4_22 : decode cJ6_bitCount_0f7a4 22 = .ok (.iadd, 1) := by decide +kernel
theorem dJ6_bitCount_0f7a4_23 : decode cJ6_bitCount_0f7a4 23 = .ok (.istore_n 0, 1) := by decide +kernel
theorem dJ6_bitCount_0f7a4_24 : decode cJ6_bitCount_0f7a4 24 = .ok (.iload_n 0, 1) := by decide +kernel
theorem dJ6_bitCount_0f7a4_25 : decode cJ6_bitCount_0f7a4 25 = .ok (.iload_n 0, 1) := by decide +kernel
theorem dJ6_bitCount_0f7a4_26 : decode cJ6_bitCount_0f7a4 26 = .ok (.iconst 4, 1) := by decide +kernel
theorem dJ6_bitCount_0f7a4_27 : decode cJ6_bitCount_0f7a4 27 = .ok (.iushr, 1) := by decide +kernel
theorem dJ6_bitCount_0f7a4_28 : decode cJ6_bitCount_0f7a4 28 = .ok (.iadd, 1) := by decide +kernel
theorem dJ6_bitCount_0f7a4_29 : decode cJ6_bitCount_0f7a4 29 = .ok (.ldc_w 267, 3) := by decide +kernel
theorem dJ6_bitCount_0f7a4_32 : decode cJ6_bitCount_0f7a4 32 = .ok (.iand, 1) := by decide +kernel
theorem dJ6_bitCount_0f7a4_33 : decode cJ6_bitCount_0f7a4 33 = .ok (.istore_n 0, 1) := by decide +kernel
theorem dJ6_bitCount_0f7a4_34 : decode cJ6_bitCount_0f7a4 34 = .ok (.iload_n 0, 1) := by decide +kernel
theorem dJ6_bitCount_0f7a4_35 : decode cJ6_bitCount_0f7a4 35 = .ok (.iload_n 0, 1) := by decide +kernel
theorem dJ6_bitCount_0f7a4_36 : decode cJ6_bitCount_0f7a4 36 = .ok (.bipush 8, 2) := by decide +kernel
theorem dJ6_bitCount_0f7a4_38 : decode cJ6_bitCount_0f7a4 38 = .ok (.iushr, 1) := by decide +kernel
theorem dJ6_bitCount_0f7a4_39 : decode cJ6_bitCount_0f7a4 39 = .ok (.iadd, 1) := by decide +kernel
theorem dJ6_bitCount_0f7a4_40 : decode cJ6_bitCount_0f7a4 40 = .ok (.istore_n 0, 1) := by decide +kernel
theorem dJ6_bitCount_0f7a4_41 : decode cJ6_bitCount_0f7a4 41 = .ok (.iload_n 0, 1) := by decide +kernel
theorem dJ6_bitCount_0f7a4_42 : decode cJ6_bitCount_0f7a4 42 = .ok (.iload_n 0, 1) := by decide +kernel
theorem dJ6_bitCount_0f7a4_43 : decode cJ6_bitCount_0f7a4 43 = .ok (.bipush 16, 2) := by decide +kernel
theorem dJ6_bitCount_0f7a4_45 : decode cJ6_bitCount_0f7a4 45 = .ok (.iushr, 1) := by decide +kernel
theorem dJ6_bitCount_0f7a4_46 : decode cJ6_bitCount_0f7a4 46 = .ok (.iadd, 1) := by decide +kernel
theorem dJ6_bitCount_0f7a4_47 : decode cJ6_bitCount_0f7a4 47 = .ok (.istore_n 0, 1) := by decide +kernel
theorem dJ6_bitCount_0f7a4_48 : decode cJ6_bitCount_0f7a4 48 = .ok (.iload_n 0, 1) := by decide +kernel
theorem dJ6_bitCount_0f7a4_49 : decode cJ6_bitCount_0f7a4 49 = .ok (.bipush 63, 2) := by decide +kernel
theorem dJ6_bitCount_0f7a4_51 : decode cJ6_bitCount_0f7a4 51 = .ok (.iand, 1) := by decide +kernel
theorem dJ6_bitCount_0f7a4_52 : decode cJ6_bitCount_0f7a4 52 = .ok (.ireturn, 1) := by decide +kernel
theorem dJ9_min_7cf53_0 : decode cJ9_min_7cf53 0 = .ok (.iload_n 0, 1) := by decide +kernel
theorem dJ9_min_7cf53_1 : decode cJ9_min_7cf53 1 = .ok (.iload_n 1, 1) := by decide +kernel
theorem dJ9_min_7cf53_2 : decode cJ9_min_7cf53 2 = .ok (.if_icmp .gt 7, 3) := by decide +kernel
theorem dJ9_min_7cf53_5 : decode cJ9_min_7cf53 5 = .ok (.iload_n 0, 1) := by decide +kernel
theorem dJ9_min_7cf53_6 : decode cJ9_min_7cf53 6 = .ok (.goto 4, 3) := by decide +kernel
theorem dJ9_min_7cf53_9 : decode cJ9_min_7cf53 9 = .ok (.iload_n 1, 1) := by decide +kernel
theorem dJ9_min_7cf53_10 : decode cJ9_min_7cf53 10 = .ok (.ireturn, 1) := by decide +kernel
theorem dL_law_0 : decode cL_law 0 = .ok (.new 7, 3) := by decide +kernel
theorem dL_law_3 : decode cL_law 3 = .ok (.dup, 1) := by decide +kernel
theorem dL_law_4 : decode cL_law 4 = .ok (.invokespecial 9, 3) := by decide +kernel
theorem dL_law_7 : decode cL_law 7 = .ok (.astore_n 1, 1) := by decide +kernel
theorem dL_law_8 : decode cL_law 8 = .ok (.new 10, 3) := by decide +kernel
theorem dL_law_11 : decode cL_law 11 = .ok (.dup, 1) := by decide +kernel
theorem dL_law_12 : decode cL_law 12 = .ok (.invokespecial 12, 3) := by decide +kernel
theorem dL_law_15 : decode cL_law 15 = .ok (.astore_n 2, 1) := by decide +kernel
theorem dL_law_16 : decode cL_law 16 = .ok (.iconst 0, 1) := by decide +kernel
theorem dL_law_17 : decode cL_law 17 = .ok (.istore_n 3, 1) := by decide +kernel
theorem dL_law_18 : decode cL_law 18 = .ok (.iload_n 3, 1) := by decide +kernel
theorem dL_law_19 : decode cL_law 19 = .ok (.aload_n 0, 1) := by decide +kernel
theorem dL_law_20 : decode cL_law 20 = .ok (.arraylength, 1) := by decide +kernel
theorem dL_law_21 : decode cL_law 21 = .ok (.bipush 6, 2) := by decide +kernel
theorem dL_law_23 : decode cL_law 23 = .ok (.isub, 1) := by decide +kernel
theorem dL_law_24 : decode cL_law 24 = .ok (.if_icmp .gt 991, 3) := by decide +kernel
theorem dL_law_27 : decode cL_law 27 = .ok (.aload_n 0, 1) := by decide +kernel
theorem dL_law_28 : decode cL_law 28 = .ok (.iload_n 3, 1) := by decide +kernel
theorem dL_law_29 : decode cL_law 29 = .ok (.iaload, 1) := by decide +kernel
theorem dL_law_30 : decode cL_law 30 = .ok (.bipush 31, 2) := by decide +kernel
theorem dL_law_32 : decode cL_law 32 = .ok (.iand, 1) := by decide +kernel
theorem dL_law_33 : decode cL_law 33 = .ok (.tableswitch 976 0 24 #[115, 138, 151, 164, 187, 230, 263, 306, 359, 392, 425, 468, 511, 554, 617, 650, 683, 696, 729, 772, 821, 834, 877, 930, 953], 115) := by decide +kernel
theorem dL_law_148 : decode cL_law 148 = .ok (.aload_n 1, 1) := by decide +kernel
theorem dL_law_149 : decode cL_law 149 = .ok (.aload_n 0, 1) := by decide +kernel
theorem dL_law_150 : decode cL_law 150 = .ok (.iload_n 3, 1) := by decide +kernel
theorem dL_law_151 : decode cL_law 151 = .ok (.iconst 1, 1) := by decide +kernel
theorem dL_law_152 : decode cL_law 152 = .ok (.iadd, 1) := by decide +kernel
theorem dL_law_153 : decode cL_law 153 = .ok (.iaload, 1) := by decide +kernel
theorem dL_law_154 : decode cL_law 154 = .ok (.invokevirtual 13, 3) := by decide +kernel
theorem dL_law_157 : decode cL_law 157 = .ok (.aload_n 2, 1) := by decide +kernel
theorem dL_law_158 : decode cL_law 158 = .ok (.aload_n 0, 1) := by decide +kernel
theorem dL_law_159 : decode cL_law 159 = .ok (.iload_n 3, 1) := by decide +kernel
theorem dL_law_160 : decode cL_law 160 = .ok (.iconst 1, 1) := by decide +kernel
theorem dL_law_161 : decode cL_law 161 = .ok (.iadd, 1) := by decide +kernel
theorem dL_law_162 : decode cL_law 162 = .ok (.iaload, 1) := by decide +kernel
theorem dL_law_163 : decode cL_law 163 = .ok (.invokevirtual 17, 3) := by decide +kernel
theorem dL_law_166 : decode cL_law 166 = .ok (.if_icmp .eq 843, 3) := by decide +kernel
theorem dL_law_169 : decode cL_law 169 = .ok (.iconst 0, 1) := by decide +kernel
theorem dL_law_170 : decode cL_law 170 = .ok (.ireturn, 1) := by decide +kernel
theorem dL_law_171 : decode cL_law 171 = .ok (.aload_n 1, 1) := by decide +kernel
theorem dL_law_172 : decode cL_law 172 = .ok (.invokevirtual 18, 3) := by decide +kernel
theorem dL_law_175 : decode cL_law 175 = .ok (.aload_n 2, 1) := by decide +kernel
theorem dL_law_176 : decode cL_law 176 = .ok (.invokevirtual 22, 3) := by decide +kernel
theorem dL_law_179 : decode cL_law 179 = .ok (.if_icmp .eq 830, 3) := by decide +kernel
theorem dL_law_182 : decode cL_law 182 = .ok (.iconst 0, 1) := by decide +kernel
theorem dL_law_183 : decode cL_law 183 = .ok (.ireturn, 1) := by decide +kernel
theorem dL_law_184 : decode cL_law 184 = .ok (.aload_n 1, 1) := by decide +kernel
theorem dL_law_185 : decode cL_law 185 = .ok (.invokevirtual 23, 3) := by decide +kernel
theorem dL_law_188 : decode cL_law 188 = .ok (.aload_n 2, 1) := by decide +kernel
theorem dL_law_189 : decode cL_law 189 = .ok (.invokevirtual 26, 3) := by decide +kernel
theorem dL_law_192 : decode cL_law 192 = .ok (.if_icmp .eq 817, 3) := by decide +kernel
theorem dL_law_195 : decode cL_law 195 = .ok (.iconst 0, 1) := by decide +kernel
theorem dL_law_196 : decode cL_law 196 = .ok (.ireturn, 1) := by decide +kernel
theorem dL_law_197 : decode cL_law 197 = .ok (.aload_n 1, 1) := by decide +kernel
theorem dL_law_198 : decode cL_law 198 = .ok (.aload_n 0, 1) := by decide +kernel
theorem dL_law_199 : decode cL_law 199 = .ok (.iload_n 3, 1) := by decide +kernel
theorem dL_law_200 : decode cL_law 200 = .ok (.iconst 1, 1) := by decide +kernel
theorem dL_law_201 : decode cL_law 201 = .ok (.iadd, 1) := by decide +kernel
theorem dL_law_202 : decode cL_law 202 = .ok (.iaload, 1) := by decide +kernel
theorem dL_law_203 : decode cL_law 203 = .ok (.invokevirtual 27, 3) := by decide +kernel
theorem dL_law_206 : decode cL_law 206 = .ok (.aload_n 2, 1) := by decide +kernel
theorem dL_law_207 : decode cL_law 207 = .ok (.aload_n 0, 1) := by decide +kernel
theorem dL_law_208 : decode cL_law 208 = .ok (.iload_n 3, 1) := by decide +kernel
theorem dL_law_209 : decode cL_law 209 = .ok (.iconst 1, 1) := by decide +kernel
theorem dL_law_210 : decode cL_law 210 = .ok (.iadd, 1) := by decide +kernel
theorem dL_law_211 : decode cL_law 211 = .ok (.iaload, 1) := by decide +kernel
theorem dL_law_212 : decode cL_law 212 = .ok (.invokevirtual 30, 3) := by decide +kernel
theorem dL_law_215 : decode cL_law 215 = .ok (.if_icmp .eq 794, 3) := by decide +kernel
theorem dL_law_218 : decode cL_law 218 = .ok (.iconst 0, 1) := by decide +kernel
theorem dL_law_219 : decode cL_law 219 = .ok (.ireturn, 1) := by decide +kernel
theorem dL_law_220 : decode cL_law 220 = .ok (.aload_n 1, 1) := by decide +kernel
theorem dL_law_221 : decode cL_law 221 = .ok (.aload_n 0, 1) := by decide +kernel
theorem dL_law_222 : decode cL_law 222 = .ok (.iload_n 3, 1) := by decide +kernel
theorem dL_law_223 : decode cL_law 223 = .ok (.iconst 1, 1) := by decide +kernel
theorem dL_law_224 : decode cL_law 224 = .ok (.iadd, 1) := by decide +kernel
theorem dL_law_225 : decode cL_law 225 = .ok (.iaload, 1) := by decide +kernel
theorem dL_law_226 : decode cL_law 226 = .ok (.aload_n 0, 1) := by decide +kernel
theorem dL_law_227 : decode cL_law 227 = .ok (.iload_n 3, 1) := by decide +kernel
theorem dL_law_228 : decode cL_law 228 = .ok (.iconst 2, 1) := by decide +kernel
theorem dL_law_229 : decode cL_law 229 = .ok (.iadd, 1) := by decide +kernel
theorem dL_law_230 : decode cL_law 230 = .ok (.iaload, 1) := by decide +kernel
theorem dL_law_231 : decode cL_law 231 = .ok (.aload_n 0, 1) := by decide +kernel
theorem dL_law_232 : decode cL_law 232 = .ok (.iload_n 3, 1) := by decide +kernel
theorem dL_law_233 : decode cL_law 233 = .ok (.iconst 3, 1) := by decide +kernel
theorem dL_law_234 : decode cL_law 234 = .ok (.iadd, 1) := by decide +kernel
theorem dL_law_235 : decode cL_law 235 = .ok (.iaload, 1) := by decide +kernel
theorem dL_law_236 : decode cL_law 236 = .ok (.invokevirtual 31, 3) := by decide +kernel
theorem dL_law_239 : decode cL_law 239 = .ok (.aload_n 2, 1) := by decide +kernel
theorem dL_law_240 : decode cL_law 240 = .ok (.aload_n 0, 1) := by decide +kernel
theorem dL_law_241 : decode cL_law 241 = .ok (.iload_n 3, 1) := by decide +kernel
theorem dL_law_242 : decode cL_law 242 = .ok (.iconst 1, 1) := by decide +kernel
theorem dL_law_243 : decode cL_law 243 = .ok (.iadd, 1) := by decide +kernel
theorem dL_law_244 : decode cL_law 244 = .ok (.iaload, 1) := by decide +kernel
theorem dL_law_245 : decode cL_law 245 = .ok (.aload_n 0, 1) := by decide +kernel
theorem dL_law_246 : decode cL_law 246 = .ok (.iload_n 3, 1) := by decide +kernel
theorem dL_law_247 : decode cL_law 247 = .ok (.iconst 2, 1) := by decide +kernel
theorem dL_law_248 : decode cL_law 248 = .ok (.iadd, 1) := by decide +kernel
theorem dL_law_249 : decode cL_law 249 = .ok (.iaload, 1) := by decide +kernel
theorem dL_law_250 : decode cL_law 250 = .ok (.aload_n 0, 1) := by decide +kernel
theorem dL_law_251 : decode cL_law 251 = .ok (.iload_n 3, 1) := by decide +kernel
theorem dL_law_252 : decode cL_law 252 = .ok (.iconst 3, 1) := by decide +kernel
theorem dL_law_253 : decode cL_law 253 = .ok (.iadd, 1) := by decide +kernel
theorem dL_law_254 : decode cL_law 254 = .ok (.iaload, 1) := by decide +kernel
theorem dL_law_255 : decode cL_law 255 = .ok (.invokevirtual 35, 3) := by decide +kernel
theorem dL_law_258 : decode cL_law 258 = .ok (.if_icmp .eq 751, 3) := by decide +kernel
theorem dL_law_261 : decode cL_law 261 = .ok (.iconst 0, 1) := by decide +kernel
theorem dL_law_262 : decode cL_law 262 = .ok (.ireturn, 1) := by decide +kernel
theorem dL_law_263 : decode cL_law 263 = .ok (.aload_n 1, 1) := by decide +kernel
theorem dL_law_264 : decode cL_law 264 = .ok (.aload_n 0, 1) := by decide +kernel
theorem dL_law_265 : decode cL_law 265 = .ok (.iload_n 3, 1) := by decide +kernel
theorem dL_law_266 : decode cL_law 266 = .ok (.iconst 1, 1) := by decide +kernel
theorem dL_law_267 : decode cL_law 267 = .ok (.iadd, 1) := by decide +kernel
theorem dL_law_268 : decode cL_law 268 = .ok (.iaload, 1) := by decide +kernel
theorem dL_law_269 : decode cL_law 269 = .ok (.aload_n 0, 1) := by decide +kernel
theorem dL_law_270 : decode cL_law 270 = .ok (.iload_n 3, 1) := by decide +kernel
theorem dL_law_271 : decode cL_law 271 = .ok (.iconst 2, 1) := by decide +kernel
theorem dL_law_272 : decode cL_law 272 = .ok (.iadd, 1) := by decide +kernel
theorem dL_law_273 : decode cL_law 273 = .ok (.iaload, 1) := by decide +kernel
theorem dL_law_274 : decode cL_law 274 = .ok (.invokevirtual 36, 3) := by decide +kernel
theorem dL_law_277 : decode cL_law 277 = .ok (.aload_n 2, 1) := by decide +kernel
theorem dL_law_278 : decode cL_law 278 = .ok (.aload_n 0, 1) := by decide +kernel
theorem dL_law_279 : decode cL_law 279 = .ok (.iload_n 3, 1) := by decide +kernel
theorem dL_law_280 : decode cL_law 280 = .ok (.iconst 1, 1) := by decide +kernel
theorem dL_law_281 : decode cL_law 281 = .ok (.iadd, 1) := by decide +kernel
theorem dL_law_282 : decode cL_law 282 = .ok (.iaload, 1) := by decide +kernel
theorem dL_law_283 : decode cL_law 283 = .ok (.aload_n 0, 1) := by decide +kernel
theorem dL_law_284 : decode cL_law 284 = .ok (.iload_n 3, 1) := by decide +kernel
theorem dL_law_285 : decode cL_law 285 = .ok (.iconst 2, 1) := by decide +kernel
theorem dL_law_286 : decode cL_law 286 = .ok (.iadd, 1) := by decide +kernel
theorem dL_law_287 : decode cL_law 287 = .ok (.iaload, 1) := by decide +kernel
theorem dL_law_288 : decode cL_law 288 = .ok (.invokevirtual 40, 3) := by decide +kernel
theorem dL_law_291 : decode cL_law 291 = .ok (.if_icmp .eq 718, 3) := by decide +kernel
theorem dL_law_294 : decode cL_law 294 = .ok (.iconst 0, 1) := by decide +kernel
theorem dL_law_295 : decode cL_law 295 = .ok (.ireturn, 1) := by decide +kernel
theorem dL_law_296 : decode cL_law 296 = .ok (.aload_n 1, 1) := by decide +kernel
theorem dL_law_297 : decode cL_law 297 = .ok (.aload_n 0, 1) := by decide +kernel
theorem dL_law_298 : decode cL_law 298 = .ok (.iload_n 3, 1) := by decide +kernel
theorem dL_law_299 : decode cL_law 299 = .ok (.iconst 1, 1) := by decide +kernel
theorem dL_law_300 : decode cL_law 300 = .ok (.iadd, 1) := by decide +kernel
theorem dL_law_301 : decode cL_law 301 = .ok (.iaload, 1) := by decide +kernel
theorem dL_law_302 : decode cL_law 302 = .ok (.aload_n 0, 1) := by decide +kernel
theorem dL_law_303 : decode cL_law 303 = .ok (.iload_n 3, 1) := by decide +kernel
theorem dL_law_304 : decode cL_law 304 = .ok (.iconst 2, 1) := by decide +kernel
theorem dL_law_305 : decode cL_law 305 = .ok (.iadd, 1) := by decide +kernel
theorem dL_law_306 : decode cL_law 306 = .ok (.iaload, 1) := by decide +kernel
theorem dL_law_307 : decode cL_law 307 = .ok (.aload_n 0, 1) := by decide +kernel
theorem dL_law_308 : decode cL_law 308 = .ok (.iload_n 3, 1) := by decide +kernel
theorem dL_law_309 : decode cL_law 309 = .ok (.iconst 3, 1) := by decide +kernel
theorem dL_law_310 : decode cL_law 310 = .ok (.iadd, 1) := by decide +kernel
theorem dL_law_311 : decode cL_law 311 = .ok (.iaload, 1) := by decide +kernel
theorem dL_law_312 : decode cL_law 312 = .ok (.invokevirtual 41, 3) := by decide +kernel
theorem dL_law_315 : decode cL_law 315 = .ok (.aload_n 2, 1) := by decide +kernel
theorem dL_law_316 : decode cL_law 316 = .ok (.aload_n 0, 1) := by decide +kernel
theorem dL_law_317 : decode cL_law 317 = .ok (.iload_n 3, 1) := by decide +kernel
theorem dL_law_318 : decode cL_law 318 = .ok (.iconst 1, 1) := by decide +kernel
theorem dL_law_319 : decode cL_law 319 = .ok (.iadd, 1) := by decide +kernel
theorem dL_law_320 : decode cL_law 320 = .ok (.iaload, 1) := by decide +kernel
theorem dL_law_321 : decode cL_law 321 = .ok (.aload_n 0, 1) := by decide +kernel
theorem dL_law_322 : decode cL_law 322 = .ok (.iload_n 3, 1) := by decide +kernel
theorem dL_law_323 : decode cL_law 323 = .ok (.iconst 2, 1) := by decide +kernel
theorem dL_law_324 : decode cL_law 324 = .ok (.iadd, 1) := by decide +kernel
theorem dL_law_325 : decode cL_law 325 = .ok (.iaload, 1) := by decide +kernel
theorem dL_law_326 : decode cL_law 326 = .ok (.aload_n 0, 1) := by decide +kernel
theorem dL_law_327 : decode cL_law 327 = .ok (.iload_n 3, 1) := by decide +kernel
theorem dL_law_328 : decode cL_law 328 = .ok (.iconst 3, 1) := by decide +kernel
theorem dL_law_329 : decode cL_law 329 = .ok (.iadd, 1) := by decide +kernel
theorem dL_law_330 : decode cL_law 330 = .ok (.iaload, 1) := by decide +kernel
theorem dL_law_331 : decode cL_law 331 = .ok (.invokevirtual 44, 3) := by decide +kernel
theorem dL_law_334 : decode cL_law 334 = .ok (.if_icmp .eq 675, 3) := by decide +kernel
theorem dL_law_337 : decode cL_law 337 = .ok (.iconst 0, 1) := by decide +kernel
theorem dL_law_338 : decode cL_law 338 = .ok (.ireturn, 1) := by decide +kernel
theorem dL_law_339 : decode cL_law 339 = .ok (.aload_n 1, 1) := by decide +kernel
theorem dL_law_340 : decode cL_law 340 = .ok (.aload_n 0, 1) := by decide +kernel
theorem dL_law_341 : decode cL_law 341 = .ok (.iload_n 3, 1) := by decide +kernel
theorem dL_law_342 : decode cL_law 342 = .ok (.iconst 1, 1) := by decide +kernel
theorem dL_law_343 : decode cL_law 343 = .ok (.iadd, 1) := by decide +kernel
theorem dL_law_344 : decode cL_law 344 = .ok (.iaload, 1) := by decide +kernel
theorem dL_law_345 : decode cL_law 345 = .ok (.aload_n 0, 1) := by decide +kernel
theorem dL_law_346 : decode cL_law 346 = .ok (.iload_n 3, 1) := by decide +kernel
theorem dL_law_347 : decode cL_law 347 = .ok (.iconst 2, 1) := by decide +kernel
theorem dL_law_348 : decode cL_law 348 = .ok (.iadd, 1) := by decide +kernel
theorem dL_law_349 : decode cL_law 349 = .ok (.iaload, 1) := by decide +kernel
theorem dL_law_350 : decode cL_law 350 = .ok (.aload_n 0, 1) := by decide +kernel
theorem dL_law_351 : decode cL_law 351 = .ok (.iload_n 3, 1) := by decide +kernel
theorem dL_law_352 : decode cL_law 352 = .ok (.iconst 3, 1) := by decide +kernel
theorem dL_law_353 : decode cL_law 353 = .ok (.iadd, 1) := by decide +kernel
theorem dL_law_354 : decode cL_law 354 = .ok (.iaload, 1) := by decide +kernel
theorem dL_law_355 : decode cL_law 355 = .ok (.aload_n 0, 1) := by decide +kernel
theorem dL_law_356 : decode cL_law 356 = .ok (.iload_n 3, 1) := by decide +kernel
theorem dL_law_357 : decode cL_law 357 = .ok (.iconst 4, 1) := by decide +kernel
theorem dL_law_358 : decode cL_law 358 = .ok (.iadd, 1) := by decide +kernel
theorem dL_law_359 : decode cL_law 359 = .ok (.iaload, 1) := by decide +kernel
theorem dL_law_360 : decode cL_law 360 = .ok (.invokevirtual 45, 3) := by decide +kernel
theorem dL_law_363 : decode cL_law 363 = .ok (.aload_n 2, 1) := by decide +kernel
theorem dL_law_364 : decode cL_law 364 = .ok (.aload_n 0, 1) := by decide +kernel
theorem dL_law_365 : decode cL_law 365 = .ok (.iload_n 3, 1) := by decide +kernel
theorem dL_law_366 : decode cL_law 366 = .ok (.iconst 1, 1) := by decide +kernel
theorem dL_law_367 : decode cL_law 367 = .ok (.iadd, 1) := by decide +kernel
theorem dL_law_368 : decode cL_law 368 = .ok (.iaload, 1) := by decide +kernel
theorem dL_law_369 : decode cL_law 369 = .ok (.aload_n 0, 1) := by decide +kernel
theorem dL_law_370 : decode cL_law 370 = .ok (.iload_n 3, 1) := by decide +kernel
theorem dL_law_371 : decode cL_law 371 = .ok (.iconst 2, 1) := by decide +kernel
theorem dL_law_372 : decode cL_law 372 = .ok (.iadd, 1) := by decide +kernel
theorem dL_law_373 : decode cL_law 373 = .ok (.iaload, 1) := by decide +kernel
theorem dL_law_374 : decode cL_law 374 = .ok (.aload_n 0, 1) := by decide +kernel
theorem dL_law_375 : decode cL_law 375 = .ok (.iload_n 3, 1) := by decide +kernel
theorem dL_law_376 : decode cL_law 376 = .ok (.iconst 3, 1) := by decide +kernel
theorem dL_law_377 : decode cL_law 377 = .ok (.iadd, 1) := by decide +kernel
theorem dL_law_378 : decode cL_law 378 = .ok (.iaload, 1) := by decide +kernel
theorem dL_law_379 : decode cL_law 379 = .ok (.aload_n 0, 1) := by decide +kernel
theorem dL_law_380 : decode cL_law 380 = .ok (.iload_n 3, 1) := by decide +kernel
theorem dL_law_381 : decode cL_law 381 = .ok (.iconst 4, 1) := by decide +kernel
theorem dL_law_382 : decode cL_law 382 = .ok (.iadd, 1) := by decide +kernel
theorem dL_law_383 : decode cL_law 383 = .ok (.iaload, 1) := by decide +kernel
theorem dL_law_384 : decode cL_law 384 = .ok (.invokevirtual 49, 3) := by decide +kernel
theorem dL_law_387 : decode cL_law 387 = .ok (.if_icmp .eq 622, 3) := by decide +kernel
theorem dL_law_390 : decode cL_law 390 = .ok (.iconst 0, 1) := by decide +kernel
theorem dL_law_391 : decode cL_law 391 = .ok (.ireturn, 1) := by decide +kernel
theorem dL_law_392 : decode cL_law 392 = .ok (.aload_n 1, 1) := by decide +kernel
theorem dL_law_393 : decode cL_law 393 = .ok (.aload_n 0, 1) := by decide +kernel
theorem dL_law_394 : decode cL_law 394 = .ok (.iload_n 3, 1) := by decide +kernel
theorem dL_law_395 : decode cL_law 395 = .ok (.iconst 1, 1) := by decide +kernel
theorem dL_law_396 : decode cL_law 396 = .ok (.iadd, 1) := by decide +kernel
theorem dL_law_397 : decode cL_law 397 = .ok (.iaload, 1) := by decide +kernel
theorem dL_law_398 : decode cL_law 398 = .ok (.aload_n 0, 1) := by decide +kernel
theorem dL_law_399 : decode cL_law 399 = .ok (.iload_n 3, 1) := by decide +kernel
theorem dL_law_400 : decode cL_law 400 = .ok (.iconst 2, 1) := by decide +kernel
theorem dL_law_401 : decode cL_law 401 = .ok (.iadd, 1) := by decide +kernel
theorem dL_law_402 : decode cL_law 402 = .ok (.iaload, 1) := by decide +kernel
theorem dL_law_403 : decode cL_law 403 = .ok (.invokevirtual 50, 3) := by decide +kernel
theorem dL_law_406 : decode cL_law 406 = .ok (.aload_n 2, 1) := by decide +kernel
theorem dL_law_407 : decode cL_law 407 = .ok (.aload_n 0, 1) := by decide +kernel
theorem dL_law_408 : decode cL_law 408 = .ok (.iload_n 3, 1) := by decide +kernel
theorem dL_law_409 : decode cL_law 409 = .ok (.iconst 1, 1) := by decide +kernel
theorem dL_law_410 : decode cL_law 410 = .ok (.iadd, 1) := by decide +kernel
theorem dL_law_411 : decode cL_law 411 = .ok (.iaload, 1) := by decide +kernel
theorem dL_law_412 : decode cL_law 412 = .ok (.aload_n 0, 1) := by decide +kernel
theorem dL_law_413 : decode cL_law 413 = .ok (.iload_n 3, 1) := by decide +kernel
theorem dL_law_414 : decode cL_law 414 = .ok (.iconst 2, 1) := by decide +kernel
theorem dL_law_415 : decode cL_law 415 = .ok (.iadd, 1) := by decide +kernel
theorem dL_law_416 : decode cL_law 416 = .ok (.iaload, 1) := by decide +kernel
theorem dL_law_417 : decode cL_law 417 = .ok (.invokevirtual 53, 3) := by decide +kernel
theorem dL_law_420 : decode cL_law 420 = .ok (.if_icmp .eq 589, 3) := by decide +kernel
theorem dL_law_423 : decode cL_law 423 = .ok (.iconst 0, 1) := by decide +kernel
theorem dL_law_424 : decode cL_law 424 = .ok (.ireturn, 1) := by decide +kernel
theorem dL_law_425 : decode cL_law 425 = .ok (.aload_n 1, 1) := by decide +kernel
theorem dL_law_426 : decode cL_law 426 = .ok (.aload_n 0, 1) := by decide +kernel
theorem dL_law_427 : decode cL_law 427 = .ok (.iload_n 3, 1) := by decide +kernel
theorem dL_law_428 : decode cL_law 428 = .ok (.iconst 1, 1) := by decide +kernel
theorem dL_law_429 : decode cL_law 429 = .ok (.iadd, 1) := by decide +kernel
theorem dL_law_430 : decode cL_law 430 = .ok (.iaload, 1) := by decide +kernel
theorem dL_law_431 : decode cL_law 431 = .ok (.aload_n 0, 1) := by decide +kernel
theorem dL_law_432 : decode cL_law 432 = .ok (.iload_n 3, 1) := by decide +kernel
theorem dL_law_433 : decode cL_law 433 = .ok (.iconst 2, 1) := by decide +kernel
theorem dL_law_434 : decode cL_law 434 = .ok (.iadd, 1) := by decide +kernel
theorem dL_law_435 : decode cL_law 435 = .ok (.iaload, 1) := by decide +kernel
theorem dL_law_436 : decode cL_law 436 = .ok (.invokevirtual 54, 3) := by decide +kernel
theorem dL_law_439 : decode cL_law 439 = .ok (.aload_n 2, 1) := by decide +kernel
theorem dL_law_440 : decode cL_law 440 = .ok (.aload_n 0, 1) := by decide +kernel
theorem dL_law_441 : decode cL_law 441 = .ok (.iload_n 3, 1) := by decide +kernel
theorem dL_law_442 : decode cL_law 442 = .ok (.iconst 1, 1) := by decide +kernel
theorem dL_law_443 : decode cL_law 443 = .ok (.iadd, 1) := by decide +kernel
theorem dL_law_444 : decode cL_law 444 = .ok (.iaload, 1) := by decide +kernel
theorem dL_law_445 : decode cL_law 445 = .ok (.aload_n 0, 1) := by decide +kernel
theorem dL_law_446 : decode cL_law 446 = .ok (.iload_n 3, 1) := by decide +kernel
theorem dL_law_447 : decode cL_law 447 = .ok (.iconst 2, 1) := by decide +kernel
theorem dL_law_448 : decode cL_law 448 = .ok (.iadd, 1) := by decide +kernel
theorem dL_law_449 : decode cL_law 449 = .ok (.iaload, 1) := by decide +kernel
theorem dL_law_450 : decode cL_law 450 = .ok (.invokevirtual 57, 3) := by decide +kernel
theorem dL_law_453 : decode cL_law 453 = .ok (.if_icmp .eq 556, 3) := by decide +kernel
theorem dL_law_456 : decode cL_law 456 = .ok (.iconst 0, 1) := by decide +kernel
theorem dL_law_457 : decode cL_law 457 = .ok (.ireturn, 1) := by decide +kernel
theorem dL_law_458 : decode cL_law 458 = .ok (.aload_n 1, 1) := by decide +kernel
theorem dL_law_459 : decode cL_law 459 = .ok (.aload_n 0, 1) := by decide +kernel
theorem dL_law_460 : decode cL_law 460 = .ok (.iload_n 3, 1) := by decide +kernel
theorem dL_law_461 : decode cL_law 461 = .ok (.iconst 1, 1) := by decide +kernel
theorem dL_law_462 : decode cL_law 462 = .ok (.iadd, 1) := by decide +kernel
theorem dL_law_463 : decode cL_law 463 = .ok (.iaload, 1) := by decide +kernel
theorem dL_law_464 : decode cL_law 464 = .ok (.aload_n 0, 1) := by decide +kernel
theorem dL_law_465 : decode cL_law 465 = .ok (.iload_n 3, 1) := by decide +kernel
theorem dL_law_466 : decode cL_law 466 = .ok (.iconst 2, 1) := by decide +kernel
theorem dL_law_467 : decode cL_law 467 = .ok (.iadd, 1) := by decide +kernel
theorem dL_law_468 : decode cL_law 468 = .ok (.iaload, 1) := by decide +kernel
theorem dL_law_469 : decode cL_law 469 = .ok (.aload_n 0, 1) := by decide +kernel
theorem dL_law_470 : decode cL_law 470 = .ok (.iload_n 3, 1) := by decide +kernel
theorem dL_law_471 : decode cL_law 471 = .ok (.iconst 3, 1) := by decide +kernel
theorem dL_law_472 : decode cL_law 472 = .ok (.iadd, 1) := by decide +kernel
theorem dL_law_473 : decode cL_law 473 = .ok (.iaload, 1) := by decide +kernel
theorem dL_law_474 : decode cL_law 474 = .ok (.invokevirtual 58, 3) := by decide +kernel
theorem dL_law_477 : decode cL_law 477 = .ok (.aload_n 2, 1) := by decide +kernel
theorem dL_law_478 : decode cL_law 478 = .ok (.aload_n 0, 1) := by decide +kernel
theorem dL_law_479 : decode cL_law 479 = .ok (.iload_n 3, 1) := by decide +kernel
theorem dL_law_480 : decode cL_law 480 = .ok (.iconst 1, 1) := by decide +kernel
theorem dL_law_481 : decode cL_law 481 = .ok (.iadd, 1) := by decide +kernel
theorem dL_law_482 : decode cL_law 482 = .ok (.iaload, 1) := by decide +kernel
theorem dL_law_483 : decode cL_law 483 = .ok (.aload_n 0, 1) := by decide +kernel
theorem dL_law_484 : decode cL_law 484 = .ok (.iload_n 3, 1) := by decide +kernel
theorem dL_law_485 : decode cL_law 485 = .ok (.iconst 2, 1) := by decide +kernel
theorem dL_law_486 : decode cL_law 486 = .ok (.iadd, 1) := by decide +kernel
theorem dL_law_487 : decode cL_law 487 = .ok (.iaload, 1) := by decide +kernel
theorem dL_law_488 : decode cL_law 488 = .ok (.aload_n 0, 1) := by decide +kernel
theorem dL_law_489 : decode cL_law 489 = .ok (.iload_n 3, 1) := by decide +kernel
theorem dL_law_490 : decode cL_law 490 = .ok (.iconst 3, 1) := by decide +kernel
theorem dL_law_491 : decode cL_law 491 = .ok (.iadd, 1) := by decide +kernel
theorem dL_law_492 : decode cL_law 492 = .ok (.iaload, 1) := by decide +kernel
theorem dL_law_493 : decode cL_law 493 = .ok (.invokevirtual 61, 3) := by decide +kernel
theorem dL_law_496 : decode cL_law 496 = .ok (.if_icmp .eq 513, 3) := by decide +kernel
theorem dL_law_499 : decode cL_law 499 = .ok (.iconst 0, 1) := by decide +kernel
theorem dL_law_500 : decode cL_law 500 = .ok (.ireturn, 1) := by decide +kernel
theorem dL_law_501 : decode cL_law 501 = .ok (.aload_n 1, 1) := by decide +kernel
theorem dL_law_502 : decode cL_law 502 = .ok (.aload_n 0, 1) := by decide +kernel
theorem dL_law_503 : decode cL_law 503 = .ok (.iload_n 3, 1) := by decide +kernel
theorem dL_law_504 : decode cL_law 504 = .ok (.iconst 1, 1) := by decide +kernel
theorem dL_law_505 : decode cL_law 505 = .ok (.iadd, 1) := by decide +kernel
theorem dL_law_506 : decode cL_law 506 = .ok (.iaload, 1) := by decide +kernel
theorem dL_law_507 : decode cL_law 507 = .ok (.aload_n 0, 1) := by decide +kernel
theorem dL_law_508 : decode cL_law 508 = .ok (.iload_n 3, 1) := by decide +kernel
theorem dL_law_509 : decode cL_law 509 = .ok (.iconst 2, 1) := by decide +kernel
theorem dL_law_510 : decode cL_law 510 = .ok (.iadd, 1) := by decide +kernel
theorem dL_law_511 : decode cL_law 511 = .ok (.iaload, 1) := by decide +kernel
theorem dL_law_512 : decode cL_law 512 = .ok (.aload_n 0, 1) := by decide +kernel
theorem dL_law_513 : decode cL_law 513 = .ok (.iload_n 3, 1) := by decide +kernel
theorem dL_law_514 : decode cL_law 514 = .ok (.iconst 3, 1) := by decide +kernel
theorem dL_law_515 : decode cL_law 515 = .ok (.iadd, 1) := by decide +kernel
theorem dL_law_516 : decode cL_law 516 = .ok (.iaload, 1) := by decide +kernel
theorem dL_law_517 : decode cL_law 517 = .ok (.invokevirtual 62, 3) := by decide +kernel
theorem dL_law_520 : decode cL_law 520 = .ok (.aload_n 2, 1) := by decide +kernel
theorem dL_law_521 : decode cL_law 521 = .ok (.aload_n 0, 1) := by decide +kernel
theorem dL_law_522 : decode cL_law 522 = .ok (.iload_n 3, 1) := by decide +kernel
theorem dL_law_523 : decode cL_law 523 = .ok (.iconst 1, 1) := by decide +kernel
theorem dL_law_524 : decode cL_law 524 = .ok (.iadd, 1) := by decide +kernel
theorem dL_law_525 : decode cL_law 525 = .ok (.iaload, 1) := by decide +kernel
theorem dL_law_526 : decode cL_law 526 = .ok (.aload_n 0, 1) := by decide +kernel
theorem dL_law_527 : decode cL_law 527 = .ok (.iload_n 3, 1) := by decide +kernel
theorem dL_law_528 : decode cL_law 528 = .ok (.iconst 2, 1) := by decide +kernel
theorem dL_law_529 : decode cL_law 529 = .ok (.iadd, 1) := by decide +kernel
theorem dL_law_530 : decode cL_law 530 = .ok (.iaload, 1) := by decide +kernel
theorem dL_law_531 : decode cL_law 531 = .ok (.aload_n 0, 1) := by decide +kernel
theorem dL_law_532 : decode cL_law 532 = .ok (.iload_n 3, 1) := by decide +kernel
theorem dL_law_533 : decode cL_law 533 = .ok (.iconst 3, 1) := by decide +kernel
theorem dL_law_534 : decode cL_law 534 = .ok (.iadd, 1) := by decide +kernel
theorem dL_law_535 : decode cL_law 535 = .ok (.iaload, 1) := by decide +kernel
theorem dL_law_536 : decode cL_law 536 = .ok (.invokevirtual 65, 3) := by decide +kernel
theorem dL_law_539 : decode cL_law 539 = .ok (.if_icmp .eq 470, 3) := by decide +kernel
theorem dL_law_542 : decode cL_law 542 = .ok (.iconst 0, 1) := by decide +kernel
theorem dL_law_543 : decode cL_law 543 = .ok (.ireturn, 1) := by decide +kernel
theorem dL_law_544 : decode cL_law 544 = .ok (.aload_n 1, 1) := by decide +kernel
theorem dL_law_545 : decode cL_law 545 = .ok (.aload_n 0, 1) := by decide +kernel
theorem dL_law_546 : decode cL_law 546 = .ok (.iload_n 3, 1) := by decide +kernel
theorem dL_law_547 : decode cL_law 547 = .ok (.iconst 1, 1) := by decide +kernel
theorem dL_law_548 : decode cL_law 548 = .ok (.iadd, 1) := by decide +kernel
theorem dL_law_549 : decode cL_law 549 = .ok (.iaload, 1) := by decide +kernel
theorem dL_law_550 : decode cL_law 550 = .ok (.aload_n 0, 1) := by decide +kernel
theorem dL_law_551 : decode cL_law 551 = .ok (.iload_n 3, 1) := by decide +kernel
theorem dL_law_552 : decode cL_law 552 = .ok (.iconst 2, 1) := by decide +kernel
theorem dL_law_553 : decode cL_law 553 = .ok (.iadd, 1) := by decide +kernel
theorem dL_law_554 : decode cL_law 554 = .ok (.iaload, 1) := by decide +kernel
theorem dL_law_555 : decode cL_law 555 = .ok (.aload_n 0, 1) := by decide +kernel
theorem dL_law_556 : decode cL_law 556 = .ok (.iload_n 3, 1) := by decide +kernel
theorem dL_law_557 : decode cL_law 557 = .ok (.iconst 3, 1) := by decide +kernel
theorem dL_law_558 : decode cL_law 558 = .ok (.iadd, 1) := by decide +kernel
theorem dL_law_559 : decode cL_law 559 = .ok (.iaload, 1) := by decide +kernel
theorem dL_law_560 : decode cL_law 560 = .ok (.invokevirtual 66, 3) := by decide +kernel
theorem dL_law_563 : decode cL_law 563 = .ok (.aload_n 2, 1) := by decide +kernel
theorem dL_law_564 : decode cL_law 564 = .ok (.aload_n 0, 1) := by decide +kernel
theorem dL_law_565 : decode cL_law 565 = .ok (.iload_n 3, 1) := by decide +kernel
theorem dL_law_566 : decode cL_law 566 = .ok (.iconst 1, 1) := by decide +kernel
theorem dL_law_567 : decode cL_law 567 = .ok (.iadd, 1) := by decide +kernel
theorem dL_law_568 : decode cL_law 568 = .ok (.iaload, 1) := by decide +kernel
theorem dL_law_569 : decode cL_law 569 = .ok (.aload_n 0, 1) := by decide +kernel
theorem dL_law_570 : decode cL_law 570 = .ok (.iload_n 3, 1) := by decide +kernel
theorem dL_law_571 : decode cL_law 571 = .ok (.iconst 2, 1) := by decide +kernel
theorem dL_law_572 : decode cL_law 572 = .ok (.iadd, 1) := by decide +kernel
theorem dL_law_573 : decode cL_law 573 = .ok (.iaload, 1) := by decide +kernel
theorem dL_law_574 : decode cL_law 574 = .ok (.aload_n 0, 1) := by decide +kernel
theorem dL_law_575 : decode cL_law 575 = .ok (.iload_n 3, 1) := by decide +kernel
theorem dL_law_576 : decode cL_law 576 = .ok (.iconst 3, 1) := by decide +kernel
theorem dL_law_577 : decode cL_law 577 = .ok (.iadd, 1) := by decide +kernel
theorem dL_law_578 : decode cL_law 578 = .ok (.iaload, 1) := by decide +kernel
theorem dL_law_579 : decode cL_law 579 = .ok (.invokevirtual 69, 3) := by decide +kernel
theorem dL_law_582 : decode cL_law 582 = .ok (.if_icmp .eq 427, 3) := by decide +kernel
theorem dL_law_585 : decode cL_law 585 = .ok (.iconst 0, 1) := by decide +kernel
theorem dL_law_586 : decode cL_law 586 = .ok (.ireturn, 1) := by decide +kernel
theorem dL_law_587 : decode cL_law 587 = .ok (.aload_n 1, 1) := by decide +kernel
theorem dL_law_588 : decode cL_law 588 = .ok (.aload_n 0, 1) := by decide +kernel
theorem dL_law_589 : decode cL_law 589 = .ok (.iload_n 3, 1) := by decide +kernel
theorem dL_law_590 : decode cL_law 590 = .ok (.iconst 1, 1) := by decide +kernel
theorem dL_law_591 : decode cL_law 591 = .ok (.iadd, 1) := by decide +kernel
theorem dL_law_592 : decode cL_law 592 = .ok (.iaload, 1) := by decide +kernel
theorem dL_law_593 : decode cL_law 593 = .ok (.aload_n 0, 1) := by decide +kernel
theorem dL_law_594 : decode cL_law 594 = .ok (.iload_n 3, 1) := by decide +kernel
theorem dL_law_595 : decode cL_law 595 = .ok (.iconst 2, 1) := by decide +kernel
theorem dL_law_596 : decode cL_law 596 = .ok (.iadd, 1) := by decide +kernel
theorem dL_law_597 : decode cL_law 597 = .ok (.iaload, 1) := by decide +kernel
theorem dL_law_598 : decode cL_law 598 = .ok (.aload_n 0, 1) := by decide +kernel
theorem dL_law_599 : decode cL_law 599 = .ok (.iload_n 3, 1) := by decide +kernel
theorem dL_law_600 : decode cL_law 600 = .ok (.iconst 3, 1) := by decide +kernel
theorem dL_law_601 : decode cL_law 601 = .ok (.iadd, 1) := by decide +kernel
theorem dL_law_602 : decode cL_law 602 = .ok (.iaload, 1) := by decide +kernel
theorem dL_law_603 : decode cL_law 603 = .ok (.aload_n 0, 1) := by decide +kernel
theorem dL_law_604 : decode cL_law 604 = .ok (.iload_n 3, 1) := by decide +kernel
theorem dL_law_605 : decode cL_law 605 = .ok (.iconst 4, 1) := by decide +kernel
theorem dL_law_606 : decode cL_law 606 = .ok (.iadd, 1) := by decide +kernel
theorem dL_law_607 : decode cL_law 607 = .ok (.iaload, 1) := by decide +kernel
theorem dL_law_608 : decode cL_law 608 = .ok (.aload_n 0, 1) := by decide +kernel
theorem dL_law_609 : decode cL_law 609 = .ok (.iload_n 3, 1) := by decide +kernel
theorem dL_law_610 : decode cL_law 610 = .ok (.iconst 5, 1) := by decide +kernel
theorem dL_law_611 : decode cL_law 611 = .ok (.iadd, 1) := by decide +kernel
theorem dL_law_612 : decode cL_law 612 = .ok (.iaload, 1) := by decide +kernel
theorem dL_law_613 : decode cL_law 613 = .ok (.invokevirtual 70, 3) := by decide +kernel
theorem dL_law_616 : decode cL_law 616 = .ok (.aload_n 2, 1) := by decide +kernel
theorem dL_law_617 : decode cL_law 617 = .ok (.aload_n 0, 1) := by decide +kernel
theorem dL_law_618 : decode cL_law 618 = .ok (.iload_n 3, 1) := by decide +kernel
theorem dL_law_619 : decode cL_law 619 = .ok (.iconst 1, 1) := by decide +kernel
theorem dL_law_620 : decode cL_law 620 = .ok (.iadd, 1) := by decide +kernel
theorem dL_law_621 : decode cL_law 621 = .ok (.iaload, 1) := by decide +kernel
theorem dL_law_622 : decode cL_law 622 = .ok (.aload_n 0, 1) := by decide +kernel
theorem dL_law_623 : decode cL_law 623 = .ok (.iload_n 3, 1) := by decide +kernel
theorem dL_law_624 : decode cL_law 624 = .ok (.iconst 2, 1) := by decide +kernel
theorem dL_law_625 : decode cL_law 625 = .ok (.iadd, 1) := by decide +kernel
theorem dL_law_626 : decode cL_law 626 = .ok (.iaload, 1) := by decide +kernel
theorem dL_law_627 : decode cL_law 627 = .ok (.aload_n 0, 1) := by decide +kernel
theorem dL_law_628 : decode cL_law 628 = .ok (.iload_n 3, 1) := by decide +kernel
theorem dL_law_629 : decode cL_law 629 = .ok (.iconst 3, 1) := by decide +kernel
theorem dL_law_630 : decode cL_law 630 = .ok (.iadd, 1) := by decide +kernel
theorem dL_law_631 : decode cL_law 631 = .ok (.iaload, 1) := by decide +kernel
theorem dL_law_632 : decode cL_law 632 = .ok (.aload_n 0, 1) := by decide +kernel
theorem dL_law_633 : decode cL_law 633 = .ok (.iload_n 3, 1) := by decide +kernel
theorem dL_law_634 : decode cL_law 634 = .ok (.iconst 4, 1) := by decide +kernel
theorem dL_law_635 : decode cL_law 635 = .ok (.iadd, 1) := by decide +kernel
theorem dL_law_636 : decode cL_law 636 = .ok (.iaload, 1) := by decide +kernel
theorem dL_law_637 : decode cL_law 637 = .ok (.aload_n 0, 1) := by decide +kernel
theorem dL_law_638 : decode cL_law 638 = .ok (.iload_n 3, 1) := by decide +kernel
theorem dL_law_639 : decode cL_law 639 = .ok (.iconst 5, 1) := by decide +kernel
theorem dL_law_640 : decode cL_law 640 = .ok (.iadd, 1) := by decide +kernel
theorem dL_law_641 : decode cL_law 641 = .ok (.iaload, 1) := by decide +kernel
theorem dL_law_642 : decode cL_law 642 = .ok (.invokevirtual 74, 3) := by decide +kernel
theorem dL_law_645 : decode cL_law 645 = .ok (.if_icmp .eq 364, 3) := by decide +kernel
theorem dL_law_648 : decode cL_law 648 = .ok (.iconst 0, 1) := by decide +kernel
theorem dL_law_649 : decode cL_law 649 = .ok (.ireturn, 1) := by decide +kernel
theorem dL_law_650 : decode cL_law 650 = .ok (.aload_n 1, 1) := by decide +kernel
theorem dL_law_651 : decode cL_law 651 = .ok (.aload_n 0, 1) := by decide +kernel
theorem dL_law_652 : decode cL_law 652 = .ok (.iload_n 3, 1) := by decide +kernel
theorem dL_law_653 : decode cL_law 653 = .ok (.iconst 1, 1) := by decide +kernel
theorem dL_law_654 : decode cL_law 654 = .ok (.iadd, 1) := by decide +kernel
theorem dL_law_655 : decode cL_law 655 = .ok (.iaload, 1) := by decide +kernel
theorem dL_law_656 : decode cL_law 656 = .ok (.aload_n 0, 1) := by decide +kernel
theorem dL_law_657 : decode cL_law 657 = .ok (.iload_n 3, 1) := by decide +kernel
theorem dL_law_658 : decode cL_law 658 = .ok (.iconst 2, 1) := by decide +kernel
theorem dL_law_659 : decode cL_law 659 = .ok (.iadd, 1) := by decide +kernel
theorem dL_law_660 : decode cL_law 660 = .ok (.iaload, 1) := by decide +kernel
theorem dL_law_661 : decode cL_law 661 = .ok (.invokevirtual 75, 3) := by decide +kernel
theorem dL_law_664 : decode cL_law 664 = .ok (.aload_n 2, 1) := by decide +kernel
theorem dL_law_665 : decode cL_law 665 = .ok (.aload_n 0, 1) := by decide +kernel
theorem dL_law_666 : decode cL_law 666 = .ok (.iload_n 3, 1) := by decide +kernel
theorem dL_law_667 : decode cL_law 667 = .ok (.iconst 1, 1) := by decide +kernel
theorem dL_law_668 : decode cL_law 668 = .ok (.iadd, 1) := by decide +kernel
theorem dL_law_669 : decode cL_law 669 = .ok (.iaload, 1) := by decide +kernel
theorem dL_law_670 : decode cL_law 670 = .ok (.aload_n 0, 1) := by decide +kernel
theorem dL_law_671 : decode cL_law 671 = .ok (.iload_n 3, 1) := by decide +kernel
theorem dL_law_672 : decode cL_law 672 = .ok (.iconst 2, 1) := by decide +kernel
theorem dL_law_673 : decode cL_law 673 = .ok (.iadd, 1) := by decide +kernel
theorem dL_law_674 : decode cL_law 674 = .ok (.iaload, 1) := by decide +kernel
theorem dL_law_675 : decode cL_law 675 = .ok (.invokevirtual 78, 3) := by decide +kernel
theorem dL_law_678 : decode cL_law 678 = .ok (.if_icmp .eq 331, 3) := by decide +kernel
theorem dL_law_681 : decode cL_law 681 = .ok (.iconst 0, 1) := by decide +kernel
theorem dL_law_682 : decode cL_law 682 = .ok (.ireturn, 1) := by decide +kernel
theorem dL_law_683 : decode cL_law 683 = .ok (.aload_n 1, 1) := by decide +kernel
theorem dL_law_684 : decode cL_law 684 = .ok (.aload_n 0, 1) := by decide +kernel
theorem dL_law_685 : decode cL_law 685 = .ok (.iload_n 3, 1) := by decide +kernel
theorem dL_law_686 : decode cL_law 686 = .ok (.iconst 1, 1) := by decide +kernel
theorem dL_law_687 : decode cL_law 687 = .ok (.iadd, 1) := by decide +kernel
theorem dL_law_688 : decode cL_law 688 = .ok (.iaload, 1) := by decide +kernel
theorem dL_law_689 : decode cL_law 689 = .ok (.aload_n 0, 1) := by decide +kernel
theorem dL_law_690 : decode cL_law 690 = .ok (.iload_n 3, 1) := by decide +kernel
theorem dL_law_691 : decode cL_law 691 = .ok (.iconst 2, 1) := by decide +kernel
theorem dL_law_692 : decode cL_law 692 = .ok (.iadd, 1) := by decide +kernel
theorem dL_law_693 : decode cL_law 693 = .ok (.iaload, 1) := by decide +kernel
theorem dL_law_694 : decode cL_law 694 = .ok (.invokevirtual 79, 3) := by decide +kernel
theorem dL_law_697 : decode cL_law 697 = .ok (.aload_n 2, 1) := by decide +kernel
theorem dL_law_698 : decode cL_law 698 = .ok (.aload_n 0, 1) := by decide +kernel
theorem dL_law_699 : decode cL_law 699 = .ok (.iload_n 3, 1) := by decide +kernel
theorem dL_law_700 : decode cL_law 700 = .ok (.iconst 1, 1) := by decide +kernel
theorem dL_law_701 : decode cL_law 701 = .ok (.iadd, 1) := by decide +kernel
theorem dL_law_702 : decode cL_law 702 = .ok (.iaload, 1) := by decide +kernel
theorem dL_law_703 : decode cL_law 703 = .ok (.aload_n 0, 1) := by decide +kernel
theorem dL_law_704 : decode cL_law 704 = .ok (.iload_n 3, 1) := by decide +kernel
theorem dL_law_705 : decode cL_law 705 = .ok (.iconst 2, 1) := by decide +kernel
theorem dL_law_706 : decode cL_law 706 = .ok (.iadd, 1) := by decide +kernel
theorem dL_law_707 : decode cL_law 707 = .ok (.iaload, 1) := by decide +kernel
theorem dL_law_708 : decode cL_law 708 = .ok (.invokevirtual 82, 3) := by decide +kernel
theorem dL_law_711 : decode cL_law 711 = .ok (.if_icmp .eq 298, 3) := by decide +kernel
theorem dL_law_714 : decode cL_law 714 = .ok (.iconst 0, 1) := by decide +kernel
theorem dL_law_715 : decode cL_law 715 = .ok (.ireturn, 1) := by decide +kernel
theorem dL_law_716 : decode cL_law 716 = .ok (.aload_n 1, 1) := by decide +kernel
theorem dL_law_717 : decode cL_law 717 = .ok (.invokevirtual 83, 3) := by decide +kernel
theorem dL_law_720 : decode cL_law 720 = .ok (.aload_n 2, 1) := by decide +kernel
theorem dL_law_721 : decode cL_law 721 = .ok (.invokevirtual 86, 3) := by decide +kernel
theorem dL_law_724 : decode cL_law 724 = .ok (.if_icmp .eq 285, 3) := by decide +kernel
theorem dL_law_727 : decode cL_law 727 = .ok (.iconst 0, 1) := by decide +kernel
theorem dL_law_728 : decode cL_law 728 = .ok (.ireturn, 1) := by decide +kernel
theorem dL_law_729 : decode cL_law 729 = .ok (.aload_n 1, 1) := by decide +kernel
theorem dL_law_730 : decode cL_law 730 = .ok (.aload_n 0, 1) := by decide +kernel
theorem dL_law_731 : decode cL_law 731 = .ok (.iload_n 3, 1) := by decide +kernel
theorem dL_law_732 : decode cL_law 732 = .ok (.iconst 1, 1) := by decide +kernel
theorem dL_law_733 : decode cL_law 733 = .ok (.iadd, 1) := by decide +kernel
theorem dL_law_734 : decode cL_law 734 = .ok (.iaload, 1) := by decide +kernel
theorem dL_law_735 : decode cL_law 735 = .ok (.aload_n 0, 1) := by decide +kernel
theorem dL_law_736 : decode cL_law 736 = .ok (.iload_n 3, 1) := by decide +kernel
theorem dL_law_737 : decode cL_law 737 = .ok (.iconst 2, 1) := by decide +kernel
theorem dL_law_738 : decode cL_law 738 = .ok (.iadd, 1) := by decide +kernel
theorem dL_law_739 : decode cL_law 739 = .ok (.iaload, 1) := by decide +kernel
theorem dL_law_740 : decode cL_law 740 = .ok (.invokevirtual 87, 3) := by decide +kernel
theorem dL_law_743 : decode cL_law 743 = .ok (.aload_n 2, 1) := by decide +kernel
theorem dL_law_744 : decode cL_law 744 = .ok (.aload_n 0, 1) := by decide +kernel
theorem dL_law_745 : decode cL_law 745 = .ok (.iload_n 3, 1) := by decide +kernel
theorem dL_law_746 : decode cL_law 746 = .ok (.iconst 1, 1) := by decide +kernel
theorem dL_law_747 : decode cL_law 747 = .ok (.iadd, 1) := by decide +kernel
theorem dL_law_748 : decode cL_law 748 = .ok (.iaload, 1) := by decide +kernel
theorem dL_law_749 : decode cL_law 749 = .ok (.aload_n 0, 1) := by decide +kernel
theorem dL_law_750 : decode cL_law 750 = .ok (.iload_n 3, 1) := by decide +kernel
theorem dL_law_751 : decode cL_law 751 = .ok (.iconst 2, 1) := by decide +kernel
theorem dL_law_752 : decode cL_law 752 = .ok (.iadd, 1) := by decide +kernel
theorem dL_law_753 : decode cL_law 753 = .ok (.iaload, 1) := by decide +kernel
theorem dL_law_754 : decode cL_law 754 = .ok (.invokevirtual 90, 3) := by decide +kernel
theorem dL_law_757 : decode cL_law 757 = .ok (.if_icmp .eq 252, 3) := by decide +kernel
theorem dL_law_760 : decode cL_law 760 = .ok (.iconst 0, 1) := by decide +kernel
theorem dL_law_761 : decode cL_law 761 = .ok (.ireturn, 1) := by decide +kernel
theorem dL_law_762 : decode cL_law 762 = .ok (.aload_n 1, 1) := by decide +kernel
theorem dL_law_763 : decode cL_law 763 = .ok (.aload_n 0, 1) := by decide +kernel
theorem dL_law_764 : decode cL_law 764 = .ok (.iload_n 3, 1) := by decide +kernel
theorem dL_law_765 : decode cL_law 765 = .ok (.iconst 1, 1) := by decide +kernel
theorem dL_law_766 : decode cL_law 766 = .ok (.iadd, 1) := by decide +kernel
theorem dL_law_767 : decode cL_law 767 = .ok (.iaload, 1) := by decide +kernel
theorem dL_law_768 : decode cL_law 768 = .ok (.aload_n 0, 1) := by decide +kernel
theorem dL_law_769 : decode cL_law 769 = .ok (.iload_n 3, 1) := by decide +kernel
theorem dL_law_770 : decode cL_law 770 = .ok (.iconst 2, 1) := by decide +kernel
theorem dL_law_771 : decode cL_law 771 = .ok (.iadd, 1) := by decide +kernel
theorem dL_law_772 : decode cL_law 772 = .ok (.iaload, 1) := by decide +kernel
theorem dL_law_773 : decode cL_law 773 = .ok (.aload_n 0, 1) := by decide +kernel
theorem dL_law_774 : decode cL_law 774 = .ok (.iload_n 3, 1) := by decide +kernel
theorem dL_law_775 : decode cL_law 775 = .ok (.iconst 3, 1) := by decide +kernel
theorem dL_law_776 : decode cL_law 776 = .ok (.iadd, 1) := by decide +kernel
theorem dL_law_777 : decode cL_law 777 = .ok (.iaload, 1) := by decide +kernel
theorem dL_law_778 : decode cL_law 778 = .ok (.invokevirtual 91, 3) := by decide +kernel
theorem dL_law_781 : decode cL_law 781 = .ok (.aload_n 2, 1) := by decide +kernel
theorem dL_law_782 : decode cL_law 782 = .ok (.aload_n 0, 1) := by decide +kernel
theorem dL_law_783 : decode cL_law 783 = .ok (.iload_n 3, 1) := by decide +kernel
theorem dL_law_784 : decode cL_law 784 = .ok (.iconst 1, 1) := by decide +kernel
theorem dL_law_785 : decode cL_law 785 = .ok (.iadd, 1) := by decide +kernel
theorem dL_law_786 : decode cL_law 786 = .ok (.iaload, 1) := by decide +kernel
theorem dL_law_787 : decode cL_law 787 = .ok (.aload_n 0, 1) := by decide +kernel
theorem dL_law_788 : decode cL_law 788 = .ok (.iload_n 3, 1) := by decide +kernel
theorem dL_law_789 : decode cL_law 789 = .ok (.iconst 2, 1) := by decide +kernel
theorem dL_law_790 : decode cL_law 790 = .ok (.iadd, 1) := by decide +kernel
theorem dL_law_791 : decode cL_law 791 = .ok (.iaload, 1) := by decide +kernel
theorem dL_law_792 : decode cL_law 792 = .ok (.aload_n 0, 1) := by decide +kernel
theorem dL_law_793 : decode cL_law 793 = .ok (.iload_n 3, 1) := by decide +kernel
theorem dL_law_794 : decode cL_law 794 = .ok (.iconst 3, 1) := by decide +kernel
theorem dL_law_795 : decode cL_law 795 = .ok (.iadd, 1) := by decide +kernel
theorem dL_law_796 : decode cL_law 796 = .ok (.iaload, 1) := by decide +kernel
theorem dL_law_797 : decode cL_law 797 = .ok (.invokevirtual 94, 3) := by decide +kernel
theorem dL_law_800 : decode cL_law 800 = .ok (.if_icmp .eq 209, 3) := by decide +kernel
theorem dL_law_803 : decode cL_law 803 = .ok (.iconst 0, 1) := by decide +kernel
theorem dL_law_804 : decode cL_law 804 = .ok (.ireturn, 1) := by decide +kernel
theorem dL_law_805 : decode cL_law 805 = .ok (.aload_n 1, 1) := by decide +kernel
theorem dL_law_806 : decode cL_law 806 = .ok (.aload_n 0, 1) := by decide +kernel
theorem dL_law_807 : decode cL_law 807 = .ok (.iload_n 3, 1) := by decide +kernel
theorem dL_law_808 : decode cL_law 808 = .ok (.iconst 1, 1) := by decide +kernel
theorem dL_law_809 : decode cL_law 809 = .ok (.iadd, 1) := by decide +kernel
theorem dL_law_810 : decode cL_law 810 = .ok (.iaload, 1) := by decide +kernel
theorem dL_law_811 : decode cL_law 811 = .ok (.aload_n 0, 1) := by decide +kernel
theorem dL_law_812 : decode cL_law 812 = .ok (.iload_n 3, 1) := by decide +kernel
theorem dL_law_813 : decode cL_law 813 = .ok (.iconst 2, 1) := by decide +kernel
theorem dL_law_814 : decode cL_law 814 = .ok (.iadd, 1) := by decide +kernel
theorem dL_law_815 : decode cL_law 815 = .ok (.iaload, 1) := by decide +kernel
theorem dL_law_816 : decode cL_law 816 = .ok (.ifCond .eq 7, 3) := by decide +kernel
theorem dL_law_819 : decode cL_law 819 = .ok (.iconst 1, 1) := by decide +kernel
theorem dL_law_820 : decode cL_law 820 = .ok (.goto 4, 3) := by decide +kernel
theorem dL_law_823 : decode cL_law 823 = .ok (.iconst 0, 1) := by decide +kernel
theorem dL_law_824 : decode cL_law 824 = .ok (.invokevirtual 95, 3) := by decide +kernel
theorem dL_law_827 : decode cL_law 827 = .ok (.aload_n 2, 1) := by decide +kernel
theorem dL_law_828 : decode cL_law 828 = .ok (.aload_n 0, 1) := by decide +kernel
theorem dL_law_829 : decode cL_law 829 = .ok (.iload_n 3, 1) := by decide +kernel
theorem dL_law_830 : decode cL_law 830 = .ok (.iconst 1, 1) := by decide +kernel
theorem dL_law_831 : decode cL_law 831 = .ok (.iadd, 1) := by decide +kernel
theorem dL_law_832 : decode cL_law 832 = .ok (.iaload, 1) := by decide +kernel
theorem dL_law_833 : decode cL_law 833 = .ok (.aload_n 0, 1) := by decide +kernel
theorem dL_law_834 : decode cL_law 834 = .ok (.iload_n 3, 1) := by decide +kernel
theorem dL_law_835 : decode cL_law 835 = .ok (.iconst 2, 1) := by decide +kernel
theorem dL_law_836 : decode cL_law 836 = .ok (.iadd, 1) := by decide +kernel
theorem dL_law_837 : decode cL_law 837 = .ok (.iaload, 1) := by decide +kernel
theorem dL_law_838 : decode cL_law 838 = .ok (.ifCond .eq 7, 3) := by decide +kernel
theorem dL_law_841 : decode cL_law 841 = .ok (.iconst 1, 1) := by decide +kernel
theorem dL_law_842 : decode cL_law 842 = .ok (.goto 4, 3) := by decide +kernel
theorem dL_law_845 : decode cL_law 845 = .ok (.iconst 0, 1) := by decide +kernel
theorem dL_law_846 : decode cL_law 846 = .ok (.invokevirtual 99, 3) := by decide +kernel
theorem dL_law_849 : decode cL_law 849 = .ok (.if_icmp .eq 160, 3) := by decide +kernel
theorem dL_law_852 : decode cL_law 852 = .ok (.iconst 0, 1) := by decide +kernel
theorem dL_law_853 : decode cL_law 853 = .ok (.ireturn, 1) := by decide +kernel
theorem dL_law_854 : decode cL_law 854 = .ok (.aload_n 1, 1) := by decide +kernel
theorem dL_law_855 : decode cL_law 855 = .ok (.invokevirtual 100, 3) := by decide +kernel
theorem dL_law_858 : decode cL_law 858 = .ok (.aload_n 2, 1) := by decide +kernel
theorem dL_law_859 : decode cL_law 859 = .ok (.invokevirtual 103, 3) := by decide +kernel
theorem dL_law_862 : decode cL_law 862 = .ok (.if_icmp .eq 147, 3) := by decide +kernel
theorem dL_law_865 : decode cL_law 865 = .ok (.iconst 0, 1) := by decide +kernel
theorem dL_law_866 : decode cL_law 866 = .ok (.ireturn, 1) := by decide +kernel
theorem dL_law_867 : decode cL_law 867 = .ok (.aload_n 1, 1) := by decide +kernel
theorem dL_law_868 : decode cL_law 868 = .ok (.aload_n 0, 1) := by decide +kernel
theorem dL_law_869 : decode cL_law 869 = .ok (.iload_n 3, 1) := by decide +kernel
theorem dL_law_870 : decode cL_law 870 = .ok (.iconst 1, 1) := by decide +kernel
theorem dL_law_871 : decode cL_law 871 = .ok (.iadd, 1) := by decide +kernel
theorem dL_law_872 : decode cL_law 872 = .ok (.iaload, 1) := by decide +kernel
theorem dL_law_873 : decode cL_law 873 = .ok (.aload_n 0, 1) := by decide +kernel
theorem dL_law_874 : decode cL_law 874 = .ok (.iload_n 3, 1) := by decide +kernel
theorem dL_law_875 : decode cL_law 875 = .ok (.iconst 2, 1) := by decide +kernel
theorem dL_law_876 : decode cL_law 876 = .ok (.iadd, 1) := by decide +kernel
theorem dL_law_877 : decode cL_law 877 = .ok (.iaload, 1) := by decide +kernel
theorem dL_law_878 : decode cL_law 878 = .ok (.aload_n 0, 1) := by decide +kernel
theorem dL_law_879 : decode cL_law 879 = .ok (.iload_n 3, 1) := by decide +kernel
theorem dL_law_880 : decode cL_law 880 = .ok (.iconst 3, 1) := by decide +kernel
theorem dL_law_881 : decode cL_law 881 = .ok (.iadd, 1) := by decide +kernel
theorem dL_law_882 : decode cL_law 882 = .ok (.iaload, 1) := by decide +kernel
theorem dL_law_883 : decode cL_law 883 = .ok (.invokevirtual 104, 3) := by decide +kernel
theorem dL_law_886 : decode cL_law 886 = .ok (.aload_n 2, 1) := by decide +kernel
theorem dL_law_887 : decode cL_law 887 = .ok (.aload_n 0, 1) := by decide +kernel
theorem dL_law_888 : decode cL_law 888 = .ok (.iload_n 3, 1) := by decide +kernel
theorem dL_law_889 : decode cL_law 889 = .ok (.iconst 1, 1) := by decide +kernel
theorem dL_law_890 : decode cL_law 890 = .ok (.iadd, 1) := by decide +kernel
theorem dL_law_891 : decode cL_law 891 = .ok (.iaload, 1) := by decide +kernel
theorem dL_law_892 : decode cL_law 892 = .ok (.aload_n 0, 1) := by decide +kernel
theorem dL_law_893 : decode cL_law 893 = .ok (.iload_n 3, 1) := by decide +kernel
theorem dL_law_894 : decode cL_law 894 = .ok (.iconst 2, 1) := by decide +kernel
theorem dL_law_895 : decode cL_law 895 = .ok (.iadd, 1) := by decide +kernel
theorem dL_law_896 : decode cL_law 896 = .ok (.iaload, 1) := by decide +kernel
theorem dL_law_897 : decode cL_law 897 = .ok (.aload_n 0, 1) := by decide +kernel
theorem dL_law_898 : decode cL_law 898 = .ok (.iload_n 3, 1) := by decide +kernel
theorem dL_law_899 : decode cL_law 899 = .ok (.iconst 3, 1) := by decide +kernel
theorem dL_law_900 : decode cL_law 900 = .ok (.iadd, 1) := by decide +kernel
theorem dL_law_901 : decode cL_law 901 = .ok (.iaload, 1) := by decide +kernel
theorem dL_law_902 : decode cL_law 902 = .ok (.invokevirtual 107, 3) := by decide +kernel
theorem dL_law_905 : decode cL_law 905 = .ok (.if_icmp .eq 104, 3) := by decide +kernel
theorem dL_law_908 : decode cL_law 908 = .ok (.iconst 0, 1) := by decide +kernel
theorem dL_law_909 : decode cL_law 909 = .ok (.ireturn, 1) := by decide +kernel
theorem dL_law_910 : decode cL_law 910 = .ok (.aload_n 1, 1) := by decide +kernel
theorem dL_law_911 : decode cL_law 911 = .ok (.aload_n 0, 1) := by decide +kernel
theorem dL_law_912 : decode cL_law 912 = .ok (.iload_n 3, 1) := by decide +kernel
theorem dL_law_913 : decode cL_law 913 = .ok (.iconst 1, 1) := by decide +kernel
theorem dL_law_914 : decode cL_law 914 = .ok (.iadd, 1) := by decide +kernel
theorem dL_law_915 : decode cL_law 915 = .ok (.iaload, 1) := by decide +kernel
theorem dL_law_916 : decode cL_law 916 = .ok (.aload_n 0, 1) := by decide +kernel
theorem dL_law_917 : decode cL_law 917 = .ok (.iload_n 3, 1) := by decide +kernel
theorem dL_law_918 : decode cL_law 918 = .ok (.iconst 2, 1) := by decide +kernel
theorem dL_law_919 : decode cL_law 919 = .ok (.iadd, 1) := by decide +kernel
theorem dL_law_920 : decode cL_law 920 = .ok (.iaload, 1) := by decide +kernel
theorem dL_law_921 : decode cL_law 921 = .ok (.aload_n 0, 1) := by decide +kernel
theorem dL_law_922 : decode cL_law 922 = .ok (.iload_n 3, 1) := by decide +kernel
theorem dL_law_923 : decode cL_law 923 = .ok (.iconst 3, 1) := by decide +kernel
theorem dL_law_924 : decode cL_law 924 = .ok (.iadd, 1) := by decide +kernel
theorem dL_law_925 : decode cL_law 925 = .ok (.iaload, 1) := by decide +kernel
theorem dL_law_926 : decode cL_law 926 = .ok (.aload_n 0, 1) := by decide +kernel
theorem dL_law_927 : decode cL_law 927 = .ok (.iload_n 3, 1) := by decide +kernel
theorem dL_law_928 : decode cL_law 928 = .ok (.iconst 4, 1) := by decide +kernel
theorem dL_law_929 : decode cL_law 929 = .ok (.iadd, 1) := by decide +kernel
theorem dL_law_930 : decode cL_law 930 = .ok (.iaload, 1) := by decide +kernel
theorem dL_law_931 : decode cL_law 931 = .ok (.invokevirtual 108, 3) := by decide +kernel
theorem dL_law_934 : decode cL_law 934 = .ok (.aload_n 2, 1) := by decide +kernel
theorem dL_law_935 : decode cL_law 935 = .ok (.aload_n 0, 1) := by decide +kernel
theorem dL_law_936 : decode cL_law 936 = .ok (.iload_n 3, 1) := by decide +kernel
theorem dL_law_937 : decode cL_law 937 = .ok (.iconst 1, 1) := by decide +kernel
theorem dL_law_938 : decode cL_law 938 = .ok (.iadd, 1) := by decide +kernel
theorem dL_law_939 : decode cL_law 939 = .ok (.iaload, 1) := by decide +kernel
theorem dL_law_940 : decode cL_law 940 = .ok (.aload_n 0, 1) := by decide +kernel
theorem dL_law_941 : decode cL_law 941 = .ok (.iload_n 3, 1) := by decide +kernel
theorem dL_law_942 : decode cL_law 942 = .ok (.iconst 2, 1) := by decide +kernel
theorem dL_law_943 : decode cL_law 943 = .ok (.iadd, 1) := by decide +kernel
theorem dL_law_944 : decode cL_law 944 = .ok (.iaload, 1) := by decide +kernel
theorem dL_law_945 : decode cL_law 945 = .ok (.aload_n 0, 1) := by decide +kernel
theorem dL_law_946 : decode cL_law 946 = .ok (.iload_n 3, 1) := by decide +kernel
theorem dL_law_947 : decode cL_law 947 = .ok (.iconst 3, 1) := by decide +kernel
theorem dL_law_948 : decode cL_law 948 = .ok (.iadd, 1) := by decide +kernel
theorem dL_law_949 : decode cL_law 949 = .ok (.iaload, 1) := by decide +kernel
theorem dL_law_950 : decode cL_law 950 = .ok (.aload_n 0, 1) := by decide +kernel
theorem dL_law_951 : decode cL_law 951 = .ok (.iload_n 3, 1) := by decide +kernel
theorem dL_law_952 : decode cL_law 952 = .ok (.iconst 4, 1) := by decide +kernel
theorem dL_law_953 : decode cL_law 953 = .ok (.iadd, 1) := by decide +kernel
theorem dL_law_954 : decode cL_law 954 = .ok (.iaload, 1) := by decide +kernel
theorem dL_law_955 : decode cL_law 955 = .ok (.invokevirtual 111, 3) := by decide +kernel
theorem dL_law_958 : decode cL_law 958 = .ok (.if_icmp .eq 51, 3) := by decide +kernel
theorem dL_law_961 : decode cL_law 961 = .ok (.iconst 0, 1) := by decide +kernel
theorem dL_law_962 : decode cL_law 962 = .ok (.ireturn, 1) := by decide +kernel
theorem dL_law_963 : decode cL_law 963 = .ok (.aload_n 1, 1) := by decide +kernel
theorem dL_law_964 : decode cL_law 964 = .ok (.aload_n 0, 1) := by decide +kernel
theorem dL_law_965 : decode cL_law 965 = .ok (.iload_n 3, 1) := by decide +kernel
theorem dL_law_966 : decode cL_law 966 = .ok (.iconst 1, 1) := by decide +kernel
theorem dL_law_967 : decode cL_law 967 = .ok (.iadd, 1) := by decide +kernel
theorem dL_law_968 : decode cL_law 968 = .ok (.iaload, 1) := by decide +kernel
theorem dL_law_969 : decode cL_law 969 = .ok (.invokevirtual 112, 3) := by decide +kernel
theorem dL_law_972 : decode cL_law 972 = .ok (.aload_n 2, 1) := by decide +kernel
theorem dL_law_973 : decode cL_law 973 = .ok (.aload_n 0, 1) := by decide +kernel
theorem dL_law_974 : decode cL_law 974 = .ok (.iload_n 3, 1) := by decide +kernel
theorem dL_law_975 : decode cL_law 975 = .ok (.iconst 1, 1) := by decide +kernel
theorem dL_law_976 : decode cL_law 976 = .ok (.iadd, 1) := by decide +kernel
theorem dL_law_977 : decode cL_law 977 = .ok (.iaload, 1) := by decide +kernel
theorem dL_law_978 : decode cL_law 978 = .ok (.invokevirtual 115, 3) := by decide +kernel
theorem dL_law_981 : decode cL_law 981 = .ok (.if_icmp .eq 28, 3) := by decide +kernel
theorem dL_law_984 : decode cL_law 984 = .ok (.iconst 0, 1) := by decide +kernel
theorem dL_law_985 : decode cL_law 985 = .ok (.ireturn, 1) := by decide +kernel
theorem dL_law_986 : decode cL_law 986 = .ok (.aload_n 1, 1) := by decide +kernel
theorem dL_law_987 : decode cL_law 987 = .ok (.aload_n 0, 1) := by decide +kernel
theorem dL_law_988 : decode cL_law 988 = .ok (.iload_n 3, 1) := by decide +kernel
theorem dL_law_989 : decode cL_law 989 = .ok (.iconst 1, 1) := by decide +kernel
theorem dL_law_990 : decode cL_law 990 = .ok (.iadd, 1) := by decide +kernel
theorem dL_law_991 : decode cL_law 991 = .ok (.iaload, 1) := by decide +kernel
theorem dL_law_992 : decode cL_law 992 = .ok (.invokevirtual 116, 3) := by decide +kernel
theorem dL_law_995 : decode cL_law 995 = .ok (.aload_n 2, 1) := by decide +kernel
theorem dL_law_996 : decode cL_law 996 = .ok (.aload_n 0, 1) := by decide +kernel
theorem dL_law_997 : decode cL_law 997 = .ok (.iload_n 3, 1) := by decide +kernel
theorem dL_law_998 : decode cL_law 998 = .ok (.iconst 1, 1) := by decide +kernel
theorem dL_law_999 : decode cL_law 999 = .ok (.iadd, 1) := by decide +kernel
theorem dL_law_1000 : decode cL_law 1000 = .ok (.iaload, 1) := by decide +kernel
theorem dL_law_1001 : decode cL_law 1001 = .ok (.invokevirtual 119, 3) := by decide +kernel
theorem dL_law_1004 : decode cL_law 1004 = .ok (.if_icmp .eq 5, 3) := by decide +kernel
theorem dL_law_1007 : decode cL_law 1007 = .ok (.iconst 0, 1) := by decide +kernel
theorem dL_law_1008 : decode cL_law 1008 = .ok (.ireturn, 1) := by decide +kernel
theorem dL_law_1009 : decode cL_law 1009 = .ok (.iinc 3 6, 3) := by decide +kernel
theorem dL_law_1012 : decode cL_law 1012 = .ok (.goto (-994), 3) := by decide +kernel
theorem dL_law_1015 : decode cL_law 1015 = .ok (.iconst 1, 1) := by decide +kernel
theorem dL_law_1016 : decode cL_law 1016 = .ok (.ireturn, 1) := by decide +kernel
