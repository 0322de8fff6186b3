theorem dX5_finishes_0 : decode cX5_finishes 0 = .ok (.aload_n 0, 1) := by decide +kernel
theorem dX5_finishes_1 : decode cX5_finishes 1 = .ok (.getfield 53, 3) := by decide +kernel
theorem dX5_finishes_4 : decode cX5_finishes 4 = .ok (.iload_n 1, 1) := by decide +kernel
theorem dX5_finishes_5 : decode cX5_finishes 5 = .ok (.iaload, 1) := by decide +kernel
theorem dX5_finishes_6 : decode cX5_finishes 6 = .ok (.bipush 16, 2) := by decide +kernel
theorem dX5_finishes_8 : decode cX5_finishes 8 = .ok (.idiv, 1) := by decide +kernel
theorem dX5_finishes_9 : decode cX5_finishes 9 = .ok (.istore_n 2, 1) := by decide +kernel
theorem dX5_finishes_10 : decode cX5_finishes 10 = .ok (.aload_n 0, 1) := by decide +kernel
theorem dX5_finishes_11 : decode cX5_finishes 11 = .ok (.getfield 53, 3) := by decide +kernel
theorem dX5_finishes_14 : decode cX5_finishes 14 = .ok (.iload_n 1, 1) := by decide +kernel
theorem dX5_finishes_15 : decode cX5_finishes 15 = .ok (.iaload, 1) := by decide +kernel
theorem dX5_finishes_16 : decode cX5_finishes 16 = .ok (.bipush 16, 2) := by decide +kernel
theorem dX5_finishes_18 : decode cX5_finishes 18 = .ok (.irem, 1) := by decide +kernel
theorem dX5_finishes_19 : decode cX5_finishes 19 = .ok (.istore_n 3, 1) := by decide +kernel
theorem dX5_finishes_20 : decode cX5_finishes 20 = .ok (.iconst 0, 1) := by decide +kernel
theorem dX5_finishes_21 : decode cX5_finishes 21 = .ok (.istore 4, 2) := by decide +kernel
theorem dX5_finishes_23 : decode cX5_finishes 23 = .ok (.aload_n 0, 1) := by decide +kernel
theorem dX5_finishes_24 : decode cX5_finishes 24 = .ok (.iload_n 2, 1) := by decide +kernel
theorem dX5_finishes_25 : decode cX5_finishes 25 = .ok (.iload_n 3, 1) := by decide +kernel
theorem dX5_finishes_26 : decode cX5_finishes 26 = .ok (.invokevirtual 84, 3) := by decide +kernel
theorem dX5_finishes_29 : decode cX5_finishes 29 = .ok (.istore 5, 2) := by decide +kernel
theorem dX5_finishes_31 : decode cX5_finishes 31 = .ok (.iload 5, 2) := by decide +kernel
theorem dX5_finishes_33 : decode cX5_finishes 33 = .ok (.aload_n 0, 1) := by decide +kernel
theorem dX5_finishes_34 : decode cX5_finishes 34 = .ok (.iload_n 2, 1) := by decide +kernel
theorem dX5_finishes_35 : decode cX5_finishes 35 = .ok (.iload_n 3, 1) := by decide +kernel
theorem dX5_finishes_36 : decode cX5_finishes 36 = .ok (.invokevirtual 88, 3) := by decide +kernel
theorem dX5_finishes_39 : decode cX5_finishes 39 = .ok (.if_icmp .ge 122, 3) := by decide +kernel
theorem dX5_finishes_42 : decode cX5_finishes 42 = .ok (.iconst 0, 1) := by decide +kernel
theorem dX5_finishes_43 : decode cX5_finishes 43 = .ok (.istore 6, 2) := by decide +kernel
theorem dX5_finishes_45 : decode cX5_finishes 45 = .ok (.iload 6, 2) := by decide +kernel
theorem dX5_finishes_47 : decode cX5_finishes 47 = .ok (.bipush 8, 2) := by decide +kernel
theorem dX5_finishes_49 : decode cX5_finishes 49 = .ok (.if_icmp .ge 26, 3) := by decide +kernel
theorem dX5_finishes_52 : decode cX5_finishes 52 = .ok (.aload_n 0, 1) := by decide +kernel
theorem dX5_finishes_53 : decode cX5_finishes 53 = .ok (.iload_n 1, 1) := by decide +kernel
theorem dX5_finishes_54 : decode cX5_finishes 54 = .ok (.iload 6, 2) := by decide +kernel
theorem dX5_finishes_56 : decode cX5_finishes 56 = .ok (.aload_n 0, 1) := by decide +kernel
theorem dX5_finishes_57 : decode cX5_finishes 57 = .ok (.iload_n 2, 1) := by decide +kernel
theorem dX5_finishes_58 : decode cX5_finishes 58 = .ok (.iload_n 3, 1) := by decide +kernel
theorem dX5_finishes_59 : decode cX5_finishes 59 = .ok (.iload 6, 2) := by decide +kernel
theorem dX5_finishes_61 : decode cX5_finishes 61 = .ok (.iload 5, 2) := by decide +kernel
theorem dX5_finishes_63 : decode cX5_finishes 63 = .ok (.invokevirtual 108, 3) := by decide +kernel
theorem dX5_finishes_66 : decode cX5_finishes 66 = .ok (.invokevirtual 121, 3) := by decide +kernel
theorem dX5_finishes_69 : decode cX5_finishes 69 = .ok (.iinc 6 1, 3) := by decide +kernel
theorem dX5_finishes_72 : decode cX5_finishes 72 = .ok (.goto (-27), 3) := by decide +kernel
theorem dX5_finishes_75 : decode cX5_finishes 75 = .ok (.iconst 0, 1) := by decide +kernel
theorem dX5_finishes_76 : decode cX5_finishes 76 = .ok (.istore 6, 2) := by decide +kernel
theorem dX5_finishes_78 : decode cX5_finishes 78 = .ok (.iload 6, 2) := by decide +kernel
theorem dX5_finishes_80 : decode cX5_finishes 80 = .ok (.bipush 8, 2) := by decide +kernel
theorem dX5_finishes_82 : decode cX5_finishes 82 = .ok (.if_icmp .ge 73, 3) := by decide +kernel
theorem dX5_finishes_85 : decode cX5_finishes 85 = .ok (.aload_n 0, 1) := by decide +kernel
theorem dX5_finishes_86 : decode cX5_finishes 86 = .ok (.iload_n 1, 1) := by decide +kernel
theorem dX5_finishes_87 : decode cX5_finishes 87 = .ok (.iload 6, 2) := by decide +kernel
theorem dX5_finishes_89 : decode cX5_finishes 89 = .ok (.invokevirtual 125, 3) := by decide +kernel
theorem dX5_finishes_92 : decode cX5_finishes 92 = .ok (.istore 7, 2) := by decide +kernel
theorem dX5_finishes_94 : decode cX5_finishes 94 = .ok (.aload_n 0, 1) := by decide +kernel
theorem dX5_finishes_95 : decode cX5_finishes 95 = .ok (.getfield 28, 3) := by decide +kernel
theorem dX5_finishes_98 : decode cX5_finishes 98 = .ok (.aload_n 0, 1) := by decide +kernel
theorem dX5_finishes_99 : decode cX5_finishes 99 = .ok (.iload_n 2, 1) := by decide +kernel
theorem dX5_finishes_100 : decode cX5_finishes 100 = .ok (.iload_n 3, 1) := by decide +kernel
theorem dX5_finishes_101 : decode cX5_finishes 101 = .ok (.iload 6, 2) := by decide +kernel
theorem dX5_finishes_103 : decode cX5_finishes 103 = .ok (.iload 5, 2) := by decide +kernel
theorem dX5_finishes_105 : decode cX5_finishes 105 = .ok (.invokevirtual 134, 3) := by decide +kernel
theorem dX5_finishes_108 : decode cX5_finishes 108 = .ok (.iload 7, 2) := by decide +kernel
theorem dX5_finishes_110 : decode cX5_finishes 110 = .ok (.iastore, 1) := by decide +kernel
theorem dX5_finishes_111 : decode cX5_finishes 111 = .ok (.aload_n 0, 1) := by decide +kernel
theorem dX5_finishes_112 : decode cX5_finishes 112 = .ok (.getfield 50, 3) := by decide +kernel
theorem dX5_finishes_115 : decode cX5_finishes 115 = .ok (.iload_n 1, 1) := by decide +kernel
theorem dX5_finishes_116 : decode cX5_finishes 116 = .ok (.dup2, 1) := by decide +kernel
theorem dX5_finishes_117 : decode cX5_finishes 117 = .ok (.iaload, 1) := by decide +kernel
theorem dX5_finishes_118 : decode cX5_finishes 118 = .ok (.iload 7, 2) := by decide +kernel
theorem dX5_finishes_120 : decode cX5_finishes 120 = .ok (.iadd, 1) := by decide +kernel
theorem dX5_finishes_121 : decode cX5_finishes 121 = .ok (.iastore, 1) := by decide +kernel
theorem dX5_finishes_122 : decode cX5_finishes 122 = .ok (.aload_n 0, 1) := by decide +kernel
theorem dX5_finishes_123 : decode cX5_finishes 123 = .ok (.getfield 37, 3) := by decide +kernel
theorem dX5_finishes_126 : decode cX5_finishes 126 = .ok (.iload_n 2, 1) := by decide +kernel
theorem dX5_finishes_127 : decode cX5_finishes 127 = .ok (.dup2, 1) := by decide +kernel
theorem dX5_finishes_128 : decode cX5_finishes 128 = .ok (.iaload, 1) := by decide +kernel
theorem dX5_finishes_129 : decode cX5_finishes 129 = .ok (.iload 7, 2) := by decide +kernel
theorem dX5_finishes_131 : decode cX5_finishes 131 = .ok (.iadd, 1) := by decide +kernel
theorem dX5_finishes_132 : decode cX5_finishes 132 = .ok (.iastore, 1) := by decide +kernel
theorem dX5_finishes_133 : decode cX5_finishes 133 = .ok (.iload 7, 2) := by decide +kernel
theorem dX5_finishes_135 : decode cX5_finishes 135 = .ok (.iload 4, 2) := by decide +kernel
theorem dX5_finishes_137 : decode cX5_finishes 137 = .ok (.if_icmp .le 8, 3) := by decide +kernel
theorem dX5_finishes_140 : decode cX5_finishes 140 = .ok (.iload 7, 2) := by decide +kernel
theorem dX5_finishes_142 : decode cX5_finishes 142 = .ok (.goto 5, 3) := by decide +kernel
theorem dX5_finishes_145 : decode cX5_finishes 145 = .ok (.iload 4, 2) := by decide +kernel
theorem dX5_finishes_147 : decode cX5_finishes 147 = .ok (.istore 4, 2) := by decide +kernel
theorem dX5_finishes_149 : decode cX5_finishes 149 = .ok (.iinc 6 1, 3) := by decide +kernel
theorem dX5_finishes_152 : decode cX5_finishes 152 = .ok (.goto (-74), 3) := by decide +kernel
theorem dX5_finishes_155 : decode cX5_finishes 155 = .ok (.iinc 5 1, 3) := by decide +kernel
theorem dX5_finishes_158 : decode cX5_finishes 158 = .ok (.goto (-127), 3) := by decide +kernel
theorem dX5_finishes_161 : decode cX5_finishes 161 = .ok (.aload_n 0, 1) := by decide +kernel
theorem dX5_finishes_162 : decode cX5_finishes 162 = .ok (.getfield 34, 3) := by decide +kernel
theorem dX5_finishes_165 : decode cX5_finishes 165 = .ok (.aload_n 0, 1) := by decide +kernel
theorem dX5_finishes_166 : decode cX5_finishes 166 = .ok (.getfield 53, 3) := by decide +kernel
theorem dX5_finishes_169 : decode cX5_finishes 169 = .ok (.iload_n 1, 1) := by decide +kernel
theorem dX5_finishes_170 : decode cX5_finishes 170 = .ok (.iaload, 1) := by decide +kernel
theorem dX5_finishes_171 : decode cX5_finishes 171 = .ok (.aload_n 0, 1) := by decide +kernel
theorem dX5_finishes_172 : decode cX5_finishes 172 = .ok (.getfield 131, 3) := by decide +kernel
theorem dX5_finishes_175 : decode cX5_finishes 175 = .ok (.iload 4, 2) := by decide +kernel
theorem dX5_finishes_177 : decode cX5_finishes 177 = .ok (.iadd, 1) := by decide +kernel
theorem dX5_finishes_178 : decode cX5_finishes 178 = .ok (.iastore, 1) := by decide +kernel
theorem dX5_finishes_179 : decode cX5_finishes 179 = .ok (.aload_n 0, 1) := by decide +kernel
theorem dX5_finishes_180 : decode cX5_finishes 180 = .ok (.getfield 53, 3) := by decide +kernel
theorem dX5_finishes_183 : decode cX5_finishes 183 = .ok (.iload_n 1, 1) := by decide +kernel
theorem dX5_finishes_184 : decode cX5_finishes 184 = .ok (.iconst (-1), 1) := by decide +kernel
theorem dX5_finishes_185 : decode cX5_finishes 185 = .ok (.iastore, 1) := by decide +kernel
theorem dX5_finishes_186 : decode cX5_finishes 186 = .ok (.return_, 1) := by decide +kernel
theorem dX5_goesOn_0 : decode cX5_goesOn 0 = .ok (.iconst 0, 1) := by decide +kernel
theorem dX5_goesOn_1 : decode cX5_goesOn 1 = .ok (.istore_n 1, 1) := by decide +kernel
theorem dX5_goesOn_2 : decode cX5_goesOn 2 = .ok (.iconst 0, 1) := by decide +kernel
theorem dX5_goesOn_3 : decode cX5_goesOn 3 = .ok (.istore_n 2, 1) := by decide +kernel
theorem dX5_goesOn_4 : decode cX5_goesOn 4 = .ok (.iload_n 2, 1) := by decide +kernel
theorem dX5_goesOn_5 : decode cX5_goesOn 5 = .ok (.iconst 3, 1) := by decide +kernel
theorem dX5_goesOn_6 : decode cX5_goesOn 6 = .ok (.if_icmp .ge 24, 3) := by decide +kernel
theorem dX5_goesOn_9 : decode cX5_goesOn 9 = .ok (.aload_n 0, 1) := by decide +kernel
theorem dX5_goesOn_10 : decode cX5_goesOn 10 = .ok (.getfield 53, 3) := by decide +kernel
theorem dX5_goesOn_13 : decode cX5_goesOn 13 = .ok (.iload_n 2, 1) := by decide +kernel
theorem dX5_goesOn_14 : decode cX5_goesOn 14 = .ok (.iaload, 1) := by decide +kernel
theorem dX5_goesOn_15 : decode cX5_goesOn 15 = .ok (.iconst (-1), 1) := by decide +kernel
theorem dX5_goesOn_16 : decode cX5_goesOn 16 = .ok (.if_icmp .ne 8, 3) := by decide +kernel
theorem dX5_goesOn_19 : decode cX5_goesOn 19 = .ok (.aload_n 0, 1) := by decide +kernel
theorem dX5_goesOn_20 : decode cX5_goesOn 20 = .ok (.iload_n 2, 1) := by decide +kernel
theorem dX5_goesOn_21 : decode cX5_goesOn 21 = .ok (.invokevirtual 137, 3) := by decide +kernel
theorem dX5_goesOn_24 : decode cX5_goesOn 24 = .ok (.iinc 2 1, 3) := by decide +kernel
theorem dX5_goesOn_27 : decode cX5_goesOn 27 = .ok (.goto (-23), 3) := by decide +kernel
theorem dX5_goesOn_30 : decode cX5_goesOn 30 = .ok (.aload_n 0, 1) := by decide +kernel
theorem dX5_goesOn_31 : decode cX5_goesOn 31 = .ok (.dup, 1) := by decide +kernel
theorem dX5_goesOn_32 : decode cX5_goesOn 32 = .ok (.getfield 131, 3) := by decide +kernel
theorem dX5_goesOn_35 : decode cX5_goesOn 35 = .ok (.iconst 1, 1) := by decide +kernel
theorem dX5_goesOn_36 : decode cX5_goesOn 36 = .ok (.iadd, 1) := by decide +kernel
theorem dX5_goesOn_37 : decode cX5_goesOn 37 = .ok (.putfield 131, 3) := by decide +kernel
theorem dX5_goesOn_40 : decode cX5_goesOn 40 = .ok (.iconst 0, 1) := by decide +kernel
theorem dX5_goesOn_41 : decode cX5_goesOn 41 = .ok (.istore_n 2, 1) := by decide +kernel
theorem dX5_goesOn_42 : decode cX5_goesOn 42 = .ok (.iload_n 2, 1) := by decide +kernel
theorem dX5_goesOn_43 : decode cX5_goesOn 43 = .ok (.iconst 3, 1) := by decide +kernel
theorem dX5_goesOn_44 : decode cX5_goesOn 44 = .ok (.if_icmp .ge 46, 3) := by decide +kernel
theorem dX5_goesOn_47 : decode cX5_goesOn 47 = .ok (.aload_n 0, 1) := by decide +kernel
theorem dX5_goesOn_48 : decode cX5_goesOn 48 = .ok (.getfield 53, 3) := by decide +kernel
theorem dX5_goesOn_51 : decode cX5_goesOn 51 = .ok (.iload_n 2, 1) := by decide +kernel
theorem dX5_goesOn_52 : decode cX5_goesOn 52 = .ok (.iaload, 1) := by decide +kernel
theorem dX5_goesOn_53 : decode cX5_goesOn 53 = .ok (.iconst (-1), 1) := by decide +kernel
theorem dX5_goesOn_54 : decode cX5_goesOn 54 = .ok (.if_icmp .eq 30, 3) := by decide +kernel
theorem dX5_goesOn_57 : decode cX5_goesOn 57 = .ok (.aload_n 0, 1) := by decide +kernel
theorem dX5_goesOn_58 : decode cX5_goesOn 58 = .ok (.getfield 56, 3) := by decide +kernel
theorem dX5_goesOn_61 : decode cX5_goesOn 61 = .ok (.iload_n 2, 1) := by decide +kernel
theorem dX5_goesOn_62 : decode cX5_goesOn 62 = .ok (.dup2, 1) := by decide +kernel
theorem dX5_goesOn_63 : decode cX5_goesOn 63 = .ok (.iaload, 1) := by decide +kernel
theorem dX5_goesOn_64 : decode cX5_goesOn 64 = .ok (.iconst 1, 1) := by decide +kernel
theorem dX5_goesOn_65 : decode cX5_goesOn 65 = .ok (.isub, 1) := by decide +kernel
theorem dX5_goesOn_66 : decode cX5_goesOn 66 = .ok (.iastore, 1) := by decide +kernel
theorem dX5_goesOn_67 : decode cX5_goesOn 67 = .ok (.aload_n 0, 1) := by decide +kernel
theorem dX5_goesOn_68 : decode cX5_goesOn 68 = .ok (.getfield 56, 3) := by decide +kernel
theorem dX5_goesOn_71 : decode cX5_goesOn 71 = .ok (.iload_n 2, 1) := by decide +kernel
theorem dX5_goesOn_72 : decode cX5_goesOn 72 = .ok (.iaload, 1) := by decide +kernel
theorem dX5_goesOn_73 : decode cX5_goesOn 73 = .ok (.ifCond .ne 11, 3) := by decide +kernel
theorem dX5_goesOn_76 : decode cX5_goesOn 76 = .ok (.aload_n 0, 1) := by decide +kernel
theorem dX5_goesOn_77 : decode cX5_goesOn 77 = .ok (.iload_n 2, 1) := by decide +kernel
theorem dX5_goesOn_78 : decode cX5_goesOn 78 = .ok (.invokevirtual 141, 3) := by decide +kernel
theorem dX5_goesOn_81 : decode cX5_goesOn 81 = .ok (.iinc 1 1, 3) := by decide +kernel
theorem dX5_goesOn_84 : decode cX5_goesOn 84 = .ok (.iinc 2 1, 3) := by decide +kernel
theorem dX5_goesOn_87 : decode cX5_goesOn 87 = .ok (.goto (-45), 3) := by decide +kernel
theorem dX5_goesOn_90 : decode cX5_goesOn 90 = .ok (.iload_n 1, 1) := by decide +kernel
theorem dX5_goesOn_91 : decode cX5_goesOn 91 = .ok (.ireturn, 1) := by decide +kernel
theorem dX5_all_0 : decode cX5_all 0 = .ok (.aload_n 0, 1) := by decide +kernel
theorem dX5_all_1 : decode cX5_all 1 = .ok (.getfield 28, 3) := by decide +kernel
theorem dX5_all_4 : decode cX5_all 4 = .ok (.iload_n 1, 1) := by decide +kernel
theorem dX5_all_5 : decode cX5_all 5 = .ok (.iload_n 2, 1) := by decide +kernel
theorem dX5_all_6 : decode cX5_all 6 = .ok (.iload_n 3, 1) := by decide +kernel
theorem dX5_all_7 : decode cX5_all 7 = .ok (.invokestatic 97, 3) := by decide +kernel
theorem dX5_all_10 : decode cX5_all 10 = .ok (.iaload, 1) := by decide +kernel
theorem dX5_all_11 : decode cX5_all 11 = .ok (.aload_n 0, 1) := by decide +kernel
theorem dX5_all_12 : decode cX5_all 12 = .ok (.getfield 28, 3) := by decide +kernel
theorem dX5_all_15 : decode cX5_all 15 = .ok (.sipush 1280, 3) := by decide +kernel
theorem dX5_all_18 : decode cX5_all 18 = .ok (.iload_n 1, 1) := by decide +kernel
theorem dX5_all_19 : decode cX5_all 19 = .ok (.iload_n 2, 1) := by decide +kernel
theorem dX5_all_20 : decode cX5_all 20 = .ok (.iload_n 3, 1) := by decide +kernel
theorem dX5_all_21 : decode cX5_all 21 = .ok (.invokestatic 97, 3) := by decide +kernel
theorem dX5_all_24 : decode cX5_all 24 = .ok (.iadd, 1) := by decide +kernel
theorem dX5_all_25 : decode cX5_all 25 = .ok (.iaload, 1) := by decide +kernel
theorem dX5_all_26 : decode cX5_all 26 = .ok (.iadd, 1) := by decide +kernel
theorem dX5_all_27 : decode cX5_all 27 = .ok (.ireturn, 1) := by decide +kernel
theorem dX5_inkOf_0 : decode cX5_inkOf 0 = .ok (.aload_n 0, 1) := by decide +kernel
theorem dX5_inkOf_1 : decode cX5_inkOf 1 = .ok (.iload_n 1, 1) := by decide +kernel
theorem dX5_inkOf_2 : decode cX5_inkOf 2 = .ok (.iload_n 2, 1) := by decide +kernel
theorem dX5_inkOf_3 : decode cX5_inkOf 3 = .ok (.iload_n 3, 1) := by decide +kernel
theorem dX5_inkOf_4 : decode cX5_inkOf 4 = .ok (.invokevirtual 148, 3) := by decide +kernel
theorem dX5_inkOf_7 : decode cX5_inkOf 7 = .ok (.istore 4, 2) := by decide +kernel
theorem dX5_inkOf_9 : decode cX5_inkOf 9 = .ok (.iload 4, 2) := by decide +kernel
theorem dX5_inkOf_11 : decode cX5_inkOf 11 = .ok (.aload_n 0, 1) := by decide +kernel
theorem dX5_inkOf_12 : decode cX5_inkOf 12 = .ok (.getfield 19, 3) := by decide +kernel
theorem dX5_inkOf_15 : decode cX5_inkOf 15 = .ok (.iload_n 1, 1) := by decide +kernel
theorem dX5_inkOf_16 : decode cX5_inkOf 16 = .ok (.iaload, 1) := by decide +kernel
theorem dX5_inkOf_17 : decode cX5_inkOf 17 = .ok (.if_icmp .ge 8, 3) := by decide +kernel
theorem dX5_inkOf_20 : decode cX5_inkOf 20 = .ok (.iload 4, 2) := by decide +kernel
theorem dX5_inkOf_22 : decode cX5_inkOf 22 = .ok (.goto 9, 3) := by decide +kernel
theorem dX5_inkOf_25 : decode cX5_inkOf 25 = .ok (.aload_n 0, 1) := by decide +kernel
theorem dX5_inkOf_26 : decode cX5_inkOf 26 = .ok (.getfield 19, 3) := by decide +kernel
theorem dX5_inkOf_29 : decode cX5_inkOf 29 = .ok (.iload_n 1, 1) := by decide +kernel
theorem dX5_inkOf_30 : decode cX5_inkOf 30 = .ok (.iaload, 1) := by decide +kernel
theorem dX5_inkOf_31 : decode cX5_inkOf 31 = .ok (.ireturn, 1) := by decide +kernel
theorem dX5_error_0 : decode cX5_error 0 = .ok (.aload_n 0, 1) := by decide +kernel
theorem dX5_error_1 : decode cX5_error 1 = .ok (.iload_n 1, 1) := by decide +kernel
theorem dX5_error_2 : decode cX5_error 2 = .ok (.iload_n 2, 1) := by decide +kernel
theorem dX5_error_3 : decode cX5_error 3 = .ok (.iload_n 3, 1) := by decide +kernel
theorem dX5_error_4 : decode cX5_error 4 = .ok (.invokevirtual 151, 3) := by decide +kernel
theorem dX5_error_7 : decode cX5_error 7 = .ok (.aload_n 0, 1) := by decide +kernel
theorem dX5_error_8 : decode cX5_error 8 = .ok (.getfield 25, 3) := by decide +kernel
theorem dX5_error_11 : decode cX5_error 11 = .ok (.iload_n 1, 1) := by decide +kernel
theorem dX5_error_12 : decode cX5_error 12 = .ok (.iload_n 2, 1) := by decide +kernel
theorem dX5_error_13 : decode cX5_error 13 = .ok (.iload_n 3, 1) := by decide +kernel
theorem dX5_error_14 : decode cX5_error 14 = .ok (.invokestatic 97, 3) := by decide +kernel
theorem dX5_error_17 : decode cX5_error 17 = .ok (.iaload, 1) := by decide +kernel
theorem dX5_error_18 : decode cX5_error 18 = .ok (.isub, 1) := by decide +kernel
theorem dX5_error_19 : decode cX5_error 19 = .ok (.istore 4, 2) := by decide +kernel
theorem dX5_error_21 : decode cX5_error 21 = .ok (.iload 4, 2) := by decide +kernel
theorem dX5_error_23 : decode cX5_error 23 = .ok (.ifCond .ge 9, 3) := by decide +kernel
theorem dX5_error_26 : decode cX5_error 26 = .ok (.iload 4, 2) := by decide +kernel
theorem dX5_error_28 : decode cX5_error 28 = .ok (.ineg, 1) := by decide +kernel
theorem dX5_error_29 : decode cX5_error 29 = .ok (.goto 5, 3) := by decide +kernel
theorem dX5_error_32 : decode cX5_error 32 = .ok (.iload 4, 2) := by decide +kernel
theorem dX5_error_34 : decode cX5_error 34 = .ok (.ireturn, 1) := by decide +kernel
def wX5_finishes_L45 (c0 : Nat) (c1 : Int32) (c2 : Int32) (c3 : Int32) (c4 : Int32) (c5 : Int32) : Nat → Int32 → HS → (Int32 → HS → Prop) → Prop
  | 0, _, _, _ => False
  | n + 1, m6, S, K => (((8 : Int32) ≤ m6 → K m6 S) ∧ (¬ (8 : Int32) ≤ m6 → (ok S c0 5 ∧ (wX5_lays c0 c2 c3 m6 c5 S (fun r3 S3 => (ok S3 c0 5 ∧ (wX5_wants c0 c1 m6 r3 S3 (fun S4 => wX5_finishes_L45 c0 c1 c2 c3 c4 c5 n (m6 + (1 : Int32)) S4 K))))))))
def wX5_finishes_L78 (c0 : Nat) (c1 : Int32) (c2 : Int32) (c3 : Int32) (c5 : Int32) : Nat → Int32 → Int32 → HS → (Int32 → Int32 → HS → Prop) → Prop
  | 0, _, _, _, _ => False
  | n + 1, m4, m6, S, K => (((8 : Int32) ≤ m6 → K m4 m6 S) ∧ (¬ (8 : Int32) ≤ m6 → (ok S c0 5 ∧ (wX5_nozzle c0 c1 m6 S (fun r4 S6 => (ok S6 c0 5 ∧ (∀ o3, o3 = gR S6 168 c0 → (ok S6 c0 5 ∧ (wX5_place c0 c2 c3 m6 c5 S6 (fun r5 S7 => (∃ q3, o3 = some q3 ∧ (ok S7 q3 6 ∧ vp_in r5 (gN S7 q3) ∧ (∀ S8, S8 = sA S7 q3 r5.toNatClampNeg r4 → (ok S8 c0 5 ∧ (∀ o4, o4 = gR S8 175 c0 → (∃ q4, o4 = some q4 ∧ (ok S8 q4 6 ∧ vp_in c1 (gN S8 q4) ∧ (ok S8 q4 6 ∧ vp_in c1 (gN S8 q4) ∧ (∀ S9, S9 = sA S8 q4 c1.toNatClampNeg ((gA S8 q4 c1.toNatClampNeg) + r4) → (ok S9 c0 5 ∧ (∀ o5, o5 = gR S9 171 c0 → (∃ q5, o5 = some q5 ∧ (ok S9 q5 6 ∧ vp_in c2 (gN S9 q5) ∧ (ok S9 q5 6 ∧ vp_in c2 (gN S9 q5) ∧ (∀ S10, S10 = sA S9 q5 c2.toNatClampNeg ((gA S9 q5 c2.toNatClampNeg) + r4) → ((r4 ≤ m4 → wX5_finishes_L78 c0 c1 c2 c3 c5 n m4 (m6 + (1 : Int32)) S10 K) ∧ (¬ r4 ≤ m4 → wX5_finishes_L78 c0 c1 c2 c3 c5 n r4 (m6 + (1 : Int32)) S10 K)))))))))))))))))))))))))))
def wX5_finishes_L31 (c0 : Nat) (c1 : Int32) (c2 : Int32) (c3 : Int32) : Nat → Int32 → Int32 → HS → (Int32 → Int32 → HS → Prop) → Prop
  | 0, _, _, _, _ => False
  | n + 1, m4, m5, S, K => (ok S c0 5 ∧ (wX5_end c0 c2 c3 S (fun r2 S2 => ((r2 ≤ m5 → K m4 m5 S2) ∧ (¬ r2 ≤ m5 → (∃ n1 : Nat, wX5_finishes_L45 c0 c1 c2 c3 m4 m5 n1 (0 : Int32) S2 (fun u1 S5 => (∃ n2 : Nat, wX5_finishes_L78 c0 c1 c2 c3 m5 n2 m4 (0 : Int32) S5 (fun u2 u3 S11 => wX5_finishes_L31 c0 c1 c2 c3 n u2 (m5 + (1 : Int32)) S11 K)))))))))
def wX5_finishes (a0 : Nat) (x1 : Int32) (S : HS) (Q : HS → Prop) : Prop := (ok S a0 5 ∧ (∀ o1, o1 = gR S 176 a0 → (∃ q1, o1 = some q1 ∧ (ok S q1 6 ∧ vp_in x1 (gN S q1) ∧ (ok S a0 5 ∧ (∀ o2, o2 = gR S 176 a0 → (∃ q2, o2 = some q2 ∧ (ok S q2 6 ∧ vp_in x1 (gN S q2) ∧ (ok S a0 5 ∧ (wX5_first a0 ((gA S q1 x1.toNatClampNeg) / (16 : Int32)) ((gA S q2 x1.toNatClampNeg) - (gA S q2 x1.toNatClampNeg) / (16 : Int32) * (16 : Int32)) S (fun r1 S1 => (∃ n3 : Nat, wX5_finishes_L31 a0 x1 ((gA S q1 x1.toNatClampNeg) / (16 : Int32)) ((gA S q2 x1.toNatClampNeg) - (gA S q2 x1.toNatClampNeg) / (16 : Int32) * (16 : Int32)) n3 (0 : Int32) r1 S1 (fun u4 u5 S12 => (ok S12 a0 5 ∧ (∀ o6, o6 = gR S12 170 a0 → (ok S12 a0 5 ∧ (∀ o7, o7 = gR S12 176 a0 → (∃ q6, o7 = some q6 ∧ (ok S12 q6 6 ∧ vp_in x1 (gN S12 q6) ∧ (ok S12 a0 5 ∧ (∃ q7, o6 = some q7 ∧ (ok S12 q7 6 ∧ vp_in (gA S12 q6 x1.toNatClampNeg) (gN S12 q7) ∧ (∀ S13, S13 = sA S12 q7 (gA S12 q6 x1.toNatClampNeg).toNatClampNeg ((gI S12 160 a0) + u4) → (ok S13 a0 5 ∧ (∀ o8, o8 = gR S13 176 a0 → (∃ q8, o8 = some q8 ∧ (ok S13 q8 6 ∧ vp_in x1 (gN S13 q8) ∧ (∀ S14, S14 = sA S13 q8 x1.toNatClampNeg (-1 : Int32) → Q S14))))))))))))))))))))))))))))
def wX5_goesOn_L4 (c0 : Nat) (c1 : Int32) : Nat → Int32 → HS → (Int32 → HS → Prop) → Prop
  | 0, _, _, _ => False
  | n + 1, m2, S, K => (((3 : Int32) ≤ m2 → K m2 S) ∧ (¬ (3 : Int32) ≤ m2 → (ok S c0 5 ∧ (∀ o1, o1 = gR S 176 c0 → (∃ q1, o1 = some q1 ∧ (ok S q1 6 ∧ vp_in m2 (gN S q1) ∧ ((¬ (gA S q1 m2.toNatClampNeg) = (-1 : Int32) → wX5_goesOn_L4 c0 c1 n (m2 + (1 : Int32)) S K) ∧ ((gA S q1 m2.toNatClampNeg) = (-1 : Int32) → (ok S c0 5 ∧ (wX5_takes c0 m2 S (fun S1 => wX5_goesOn_L4 c0 c1 n (m2 + (1 : Int32)) S1 K)))))))))))
def wX5_goesOn_L42 (c0 : Nat) : Nat → Int32 → Int32 → HS → (Int32 → Int32 → HS → Prop) → Prop
  | 0, _, _, _, _ => False
  | n + 1, m1, m2, S, K => (((3 : Int32) ≤ m2 → K m1 m2 S) ∧ (¬ (3 : Int32) ≤ m2 → (ok S c0 5 ∧ (∀ o2, o2 = gR S 176 c0 → (∃ q2, o2 = some q2 ∧ (ok S q2 6 ∧ vp_in m2 (gN S q2) ∧ (((gA S q2 m2.toNatClampNeg) = (-1 : Int32) → wX5_goesOn_L42 c0 n m1 (m2 + (1 : Int32)) S K) ∧ (¬ (gA S q2 m2.toNatClampNeg) = (-1 : Int32) → (ok S c0 5 ∧ (∀ o3, o3 = gR S 177 c0 → (∃ q3, o3 = some q3 ∧ (ok S q3 6 ∧ vp_in m2 (gN S q3) ∧ (ok S q3 6 ∧ vp_in m2 (gN S q3) ∧ (∀ S4, S4 = sA S q3 m2.toNatClampNeg ((gA S q3 m2.toNatClampNeg) - (1 : Int32)) → (ok S4 c0 5 ∧ (∀ o4, o4 = gR S4 177 c0 → (∃ q4, o4 = some q4 ∧ (ok S4 q4 6 ∧ vp_in m2 (gN S4 q4) ∧ ((¬ (gA S4 q4 m2.toNatClampNeg) = 0 → wX5_goesOn_L42 c0 n m1 (m2 + (1 : Int32)) S4 K) ∧ ((gA S4 q4 m2.toNatClampNeg) = 0 → (ok S4 c0 5 ∧ (wX5_finishes c0 m2 S4 (fun S5 => wX5_goesOn_L42 c0 n (m1 + (1 : Int32)) (m2 + (1 : Int32)) S5 K)))))))))))))))))))))))
def wX5_goesOn (a0 : Nat) (S : HS) (Q : Int32 → HS → Prop) : Prop := (∃ n1 : Nat, wX5_goesOn_L4 a0 (0 : Int32) n1 (0 : Int32) S (fun u1 S2 => (ok S2 a0 5 ∧ (ok S2 a0 5 ∧ (∀ S3, S3 = sI S2 160 a0 ((gI S2 160 a0) + (1 : Int32)) → (∃ n2 : Nat, wX5_goesOn_L42 a0 n2 (0 : Int32) (0 : Int32) S3 (fun u2 u3 S6 => Q u2 S6)))))))

def wX5_all (a0 : Nat) (x1 : Int32) (x2 : Int32) (x3 : Int32) (S : HS) (Q : Int32 → HS → Prop) : Prop := (ok S a0 5 ∧ (∀ o1, o1 = gR S 168 a0 → (wX5_dot x1 x2 x3 S (fun r1 S1 => (∃ q1, o1 = some q1 ∧ (ok S1 q1 6 ∧ vp_in r1 (gN S1 q1) ∧ (ok S1 a0 5 ∧ (∀ o2, o2 = gR S1 168 a0 → (wX5_dot x1 x2 x3 S1 (fun r2 S2 => (∃ q2, o2 = some q2 ∧ (ok S2 q2 6 ∧ vp_in ((1280 : Int32) + r2) (gN S2 q2) ∧ Q ((gA S1 q1 r1.toNatClampNeg) + (gA S2 q2 ((1280 : Int32) + r2).toNatClampNeg)) S2))))))))))))

def wX5_inkOf (a0 : Nat) (x1 : Int32) (x2 : Int32) (x3 : Int32) (S : HS) (Q : Int32 → HS → Prop) : Prop := (ok S a0 5 ∧ (wX5_all a0 x1 x2 x3 S (fun r1 S1 => (ok S1 a0 5 ∧ (∀ o1, o1 = gR S1 165 a0 → (∃ q1, o1 = some q1 ∧ (ok S1 q1 6 ∧ vp_in x1 (gN S1 q1) ∧ (((gA S1 q1 x1.toNatClampNeg) ≤ r1 → (ok S1 a0 5 ∧ (∀ o2, o2 = gR S1 165 a0 → (∃ q2, o2 = some q2 ∧ (ok S1 q2 6 ∧ vp_in x1 (gN S1 q2) ∧ Q (gA S1 q2 x1.toNatClampNeg) S1))))) ∧ (¬ (gA S1 q1 x1.toNatClampNeg) ≤ r1 → Q r1 S1)))))))))

def wX5_error (a0 : Nat) (x1 : Int32) (x2 : Int32) (x3 : Int32) (S : HS) (Q : Int32 → HS → Prop) : Prop := (ok S a0 5 ∧ (wX5_inkOf a0 x1 x2 x3 S (fun r1 S1 => (ok S1 a0 5 ∧ (∀ o1, o1 = gR S1 167 a0 → (wX5_dot x1 x2 x3 S1 (fun r2 S2 => (∃ q1, o1 = some q1 ∧ (ok S2 q1 6 ∧ vp_in r2 (gN S2 q1) ∧ ((0 ≤ (r1 - (gA S2 q1 r2.toNatClampNeg)) → Q (r1 - (gA S2 q1 r2.toNatClampNeg)) S2) ∧ (¬ 0 ≤ (r1 - (gA S2 q1 r2.toNatClampNeg)) → Q (-(r1 - (gA S2 q1 r2.toNatClampNeg))) S2)))))))))))
theorem kC_X5_lays : Cond.code yX5_lays cX5_lays 6 (some .int) ∈ T0 := T0_mem (i := 742) (by decide +kernel) (by decide +kernel)
theorem kM_RX5_108 : Cond.methodLink RX5 108 yX5_lays ∈ T0 := T0_mem (i := 739) (by decide +kernel) (by decide +kernel)
theorem hd_X5_lays : yX5_lays.cls ≠ "java/lang/invoke/MethodHandle" ∧ yX5_lays.cls ≠ "java/lang/invoke/VarHandle" ∧ (parseMethodDescriptor yX5_lays.desc).map (fun d => d.parameters.length) = some 4 := by decide +kernel
theorem kO_X5_lays : Cond.instanceMethod yX5_lays ∈ T0 := T0_mem (i := 741) (by decide +kernel) (by decide +kernel)
theorem kV_X5_lays : Cond.selects RX5 yX5_lays yX5_lays ∈ T0 := T0_mem (i := 18) (by decide +kernel) (by decide +kernel)
theorem kC_X5_wants : Cond.code yX5_wants cX5_wants 5 none ∈ T0 := T0_mem (i := 777) (by decide +kernel) (by decide +kernel)
theorem kM_RX5_121 : Cond.methodLink RX5 121 yX5_wants ∈ T0 := T0_mem (i := 774) (by decide +kernel) (by decide +kernel)
theorem hd_X5_wants : yX5_wants.cls ≠ "java/lang/invoke/MethodHandle" ∧ yX5_wants.cls ≠ "java/lang/invoke/VarHandle" ∧ (parseMethodDescriptor yX5_wants.desc).map (fun d => d.parameters.length) = some 3 := by decide +kernel
theorem kO_X5_wants : Cond.instanceMethod yX5_wants ∈ T0 := T0_mem (i := 776) (by decide +kernel) (by decide +kernel)
theorem kV_X5_wants : Cond.selects RX5 yX5_wants yX5_wants ∈ T0 := T0_mem (i := 21) (by decide +kernel) (by decide +kernel)
theorem kC_X5_nozzle : Cond.code yX5_nozzle cX5_nozzle 4 (some .int) ∈ T0 := T0_mem (i := 781) (by decide +kernel) (by decide +kernel)
theorem kM_RX5_125 : Cond.methodLink RX5 125 yX5_nozzle ∈ T0 := T0_mem (i := 778) (by decide +kernel) (by decide +kernel)
theorem hd_X5_nozzle : yX5_nozzle.cls ≠ "java/lang/invoke/MethodHandle" ∧ yX5_nozzle.cls ≠ "java/lang/invoke/VarHandle" ∧ (parseMethodDescriptor yX5_nozzle.desc).map (fun d => d.parameters.length) = some 2 := by decide +kernel
theorem kO_X5_nozzle : Cond.instanceMethod yX5_nozzle ∈ T0 := T0_mem (i := 780) (by decide +kernel) (by decide +kernel)
theorem kV_X5_nozzle : Cond.selects RX5 yX5_nozzle yX5_nozzle ∈ T0 := T0_mem (i := 22) (by decide +kernel) (by decide +kernel)
theorem kF_RX5_28 : Cond.fieldLink RX5 28 RX5 (TX5 8).2.1 (TX5 8).2.2.1 ∈ T0 := T0_mem (i := 629) (by decide +kernel) (by decide +kernel)
theorem kC_X5_place : Cond.code yX5_place cX5_place 5 (some .int) ∈ T0 := T0_mem (i := 813) (by decide +kernel) (by decide +kernel)
theorem kM_RX5_134 : Cond.methodLink RX5 134 yX5_place ∈ T0 := T0_mem (i := 810) (by decide +kernel) (by decide +kernel)
theorem hd_X5_place : yX5_place.cls ≠ "java/lang/invoke/MethodHandle" ∧ yX5_place.cls ≠ "java/lang/invoke/VarHandle" ∧ (parseMethodDescriptor yX5_place.desc).map (fun d => d.parameters.length) = some 4 := by decide +kernel
theorem kO_X5_place : Cond.instanceMethod yX5_place ∈ T0 := T0_mem (i := 812) (by decide +kernel) (by decide +kernel)
theorem kV_X5_place : Cond.selects RX5 yX5_place yX5_place ∈ T0 := T0_mem (i := 28) (by decide +kernel) (by decide +kernel)
theorem kF_RX5_50 : Cond.fieldLink RX5 50 RX5 (TX5 15).2.1 (TX5 15).2.2.1 ∈ T0 := T0_mem (i := 636) (by decide +kernel) (by decide +kernel)
theorem kF_RX5_37 : Cond.fieldLink RX5 37 RX5 (TX5 11).2.1 (TX5 11).2.2.1 ∈ T0 := T0_mem (i := 632) (by decide +kernel) (by decide +kernel)
theorem kF_RX5_34 : Cond.fieldLink RX5 34 RX5 (TX5 10).2.1 (TX5 10).2.2.1 ∈ T0 := T0_mem (i := 631) (by decide +kernel) (by decide +kernel)
theorem kF_RX5_131 : Cond.fieldLink RX5 131 RX5 (TX5 0).2.1 (TX5 0).2.2.1 ∈ T0 := T0_mem (i := 621) (by decide +kernel) (by decide +kernel)
theorem kC_X5_takes : Cond.code yX5_takes cX5_takes 5 none ∈ T0 := T0_mem (i := 805) (by decide +kernel) (by decide +kernel)
theorem kM_RX5_137 : Cond.methodLink RX5 137 yX5_takes ∈ T0 := T0_mem (i := 802) (by decide +kernel) (by decide +kernel)
theorem hd_X5_takes : yX5_takes.cls ≠ "java/lang/invoke/MethodHandle" ∧ yX5_takes.cls ≠ "java/lang/invoke/VarHandle" ∧ (parseMethodDescriptor yX5_takes.desc).map (fun d => d.parameters.length) = some 1 := by decide +kernel
theorem kO_X5_takes : Cond.instanceMethod yX5_takes ∈ T0 := T0_mem (i := 804) (by decide +kernel) (by decide +kernel)
theorem kV_X5_takes : Cond.selects RX5 yX5_takes yX5_takes ∈ T0 := T0_mem (i := 26) (by decide +kernel) (by decide +kernel)
theorem kC_X5_finishes : Cond.code yX5_finishes cX5_finishes 8 none ∈ T0 := T0_mem (i := 809) (by decide +kernel) (by decide +kernel)
theorem kM_RX5_141 : Cond.methodLink RX5 141 yX5_finishes ∈ T0 := T0_mem (i := 806) (by decide +kernel) (by decide +kernel)
theorem hd_X5_finishes : yX5_finishes.cls ≠ "java/lang/invoke/MethodHandle" ∧ yX5_finishes.cls ≠ "java/lang/invoke/VarHandle" ∧ (parseMethodDescriptor yX5_finishes.desc).map (fun d => d.parameters.length) = some 1 := by decide +kernel
theorem kO_X5_finishes : Cond.instanceMethod yX5_finishes ∈ T0 := T0_mem (i := 808) (by decide +kernel) (by decide +kernel)
theorem kV_X5_finishes : Cond.selects RX5 yX5_finishes yX5_finishes ∈ T0 := T0_mem (i := 27) (by decide +kernel) (by decide +kernel)
theorem kC_X5_all : Cond.code yX5_all cX5_all 4 (some .int) ∈ T0 := T0_mem (i := 833) (by decide +kernel) (by decide +kernel)
theorem kM_RX5_148 : Cond.methodLink RX5 148 yX5_all ∈ T0 := T0_mem (i := 830) (by decide +kernel) (by decide +kernel)
theorem hd_X5_all : yX5_all.cls ≠ "java/lang/invoke/MethodHandle" ∧ yX5_all.cls ≠ "java/lang/invoke/VarHandle" ∧ (parseMethodDescriptor yX5_all.desc).map (fun d => d.parameters.length) = some 3 := by decide +kernel
theorem kO_X5_all : Cond.instanceMethod yX5_all ∈ T0 := T0_mem (i := 832) (by decide +kernel) (by decide +kernel)
theorem kV_X5_all : Cond.selects RX5 yX5_all yX5_all ∈ T0 := T0_mem (i := 30) (by decide +kernel) (by decide +kernel)
theorem kF_RX5_19 : Cond.fieldLink RX5 19 RX5 (TX5 5).2.1 (TX5 5).2.2.1 ∈ T0 := T0_mem (i := 626) (by decide +kernel) (by decide +kernel)
theorem kC_X5_inkOf : Cond.code yX5_inkOf cX5_inkOf 5 (some .int) ∈ T0 := T0_mem (i := 829) (by decide +kernel) (by decide +kernel)
theorem kM_RX5_151 : Cond.methodLink RX5 151 yX5_inkOf ∈ T0 := T0_mem (i := 826) (by decide +kernel) (by decide +kernel)
theorem hd_X5_inkOf : yX5_inkOf.cls ≠ "java/lang/invoke/MethodHandle" ∧ yX5_inkOf.cls ≠ "java/lang/invoke/VarHandle" ∧ (parseMethodDescriptor yX5_inkOf.desc).map (fun d => d.parameters.length) = some 3 := by decide +kernel
theorem kO_X5_inkOf : Cond.instanceMethod yX5_inkOf ∈ T0 := T0_mem (i := 828) (by decide +kernel) (by decide +kernel)
theorem kV_X5_inkOf : Cond.selects RX5 yX5_inkOf yX5_inkOf ∈ T0 := T0_mem (i := 29) (by decide +kernel) (by decide +kernel)
set_option maxHeartbeats 4000000 in
set_option maxRecDepth 100000 in
theorem met_X5_finishes (l : Launch) (a0 : Nat) (x1 : Int32) : MV l yX5_finishes cX5_finishes 8 none 5 115 0 0 [.ref a0, .int x1] (wX5_finishes a0 x1) := by
  refine MV.of (by decide) (Nat.le_of_ble_eq_true rfl) ?_
  intro p e s m below meth c D cs lo S Q ls B hr hlk hin
  have L78 : ∀ (c0 : Nat) (c1 : Int32) (c2 : Int32) (c3 : Int32) (c5 : Int32) (K : Int32 → Int32 → HS → Prop) (n : Nat) (m4 : Int32) (m6 : Int32) (S : HS) (H : Heap) (locs : List Loc) (ls : Array Slot), Hx D cs lo s S H locs → lv_has ls 8 [(0, .ref c0), (1, .int c1), (2, .int c2), (3, .int c3), (4, .int m4), (5, .int c5), (6, .int m6)] → wX5_finishes_L78 c0 c1 c2 c3 c5 n m4 m6 S K → (∀ (m4 : Int32) (m6 : Int32) (S : HS) (H : Heap) (locs : List Loc) (ls : Array Slot), Hx D cs lo s S H locs → lv_has ls 8 [(0, .ref c0), (1, .int c1), (2, .int c2), (3, .int c3), (4, .int m4), (5, .int c5), (6, .int m6)] → K m4 m6 S → W p l e ({ frames := 5, cells := 0, slots := 0, locals := 115 } : Room) s m [.ref a0, .int x1].toArray below meth c H locs 0 0 (MQ below (va_Qv Q (fun S' t => hp D cs lo S' t.heap) (fun q => lo ≤ q)) [.ref a0, .int x1].toArray s 0 0 (fun q => lo ≤ q)) (F0 m 155 ls [])) → W p l e ({ frames := 5, cells := 0, slots := 0, locals := 115 } : Room) s m [.ref a0, .int x1].toArray below meth c H locs 0 0 (MQ below (va_Qv Q (fun S' t => hp D cs lo S' t.heap) (fun q => lo ≤ q)) [.ref a0, .int x1].toArray s 0 0 (fun q => lo ≤ q)) (F0 m 78 ls []) := by
    intro c0 c1 c2 c3 c5 K n
    induction n with
    | zero => intro m4 m6 S H locs ls h hl hw hk; exact False.elim hw
    | succ n ih =>
      intro m4 m6 S H locs ls h hl hw hk
      refine lv_iload B.1.1 B.1.2.1 dX5_finishes_78 (lv_at hl 6 rfl) ?_
      refine lv_bipush (v := (8 : Int32)) B.1.1 B.1.2.1 dX5_finishes_80 (by decide) ?_
      refine lv_icmp_ge (tgt := 155) B.1.1 B.1.2.1 dX5_finishes_82 (by decide) (fun hc => ?_) (fun hc => ?_)
      · replace hw := hw.1 hc
        exact hk m4 m6 _ _ _ ls h (lv_sub hl [0, 1, 2, 3, 4, 5, 6] rfl) hw
      · replace hw := hw.2 hc
        refine lv_aload_n B.1.1 B.1.2.1 dX5_finishes_85 rfl (lv_at hl 0 rfl) ?_
        refine lv_iload_n B.1.1 B.1.2.1 dX5_finishes_86 rfl (lv_at hl 1 rfl) ?_
        refine lv_iload B.1.1 B.1.2.1 dX5_finishes_87 (lv_at hl 6 rfl) ?_
        obtain ⟨hok, hw⟩ := hw
        refine q_callIV B h (met_X5_nozzle l c0 c1 m6) (CB B 2 kC_X5_nozzle kI_RX5 kM_RX5_125 hd_X5_nozzle ⟨Nat.le_of_ble_eq_true rfl, Nat.le_of_ble_eq_true rfl⟩) kO_X5_nozzle kV_X5_nozzle (ci := 5) rfl (by decide) hok.1 hok.2 (rest := []) rfl rfl hl.1 (Nat.le_of_ble_eq_true rfl) dX5_finishes_89 ⟨Nat.le_of_ble_eq_true rfl, Nat.le_of_ble_eq_true rfl⟩ hw (fun r4 S6 H locs hw9 h9 => ?_)
        replace hw := hw9
        clear hw9
        replace h := h9
        clear h9
        refine lv_istore (i := 7) (lv' := [(7, .int r4), (0, .ref c0), (1, .int c1), (2, .int c2), (3, .int c3), (4, .int m4), (5, .int c5), (6, .int m6)]) B.1.1 B.1.2.1 dX5_finishes_92 hl (by decide) rfl (fun ls hl9 => ?_)
        replace hl := hl9
        clear hl9
        refine lv_aload_n B.1.1 B.1.2.1 dX5_finishes_94 rfl (lv_at hl 1 rfl) ?_
        obtain ⟨hok, hw⟩ := hw
        refine q_getR B h (ci := 5) (j := 8) (code := 168) rfl inT_5 (by decide) kF_RX5_28 rfl rfl rfl (by decide) dX5_finishes_95 hok.1 hok.2 ?_
        obtain ⟨o3, hoo3⟩ : ∃ z, z = gR S6 168 c0 := ⟨_, rfl⟩
        rw [← hoo3]
        replace hw := hw o3 hoo3
        refine lv_aload_n B.1.1 B.1.2.1 dX5_finishes_98 rfl (lv_at hl 1 rfl) ?_
        refine lv_iload_n B.1.1 B.1.2.1 dX5_finishes_99 rfl (lv_at hl 3 rfl) ?_
        refine lv_iload_n B.1.1 B.1.2.1 dX5_finishes_100 rfl (lv_at hl 4 rfl) ?_
        refine lv_iload B.1.1 B.1.2.1 dX5_finishes_101 (lv_at hl 7 rfl) ?_
        refine lv_iload B.1.1 B.1.2.1 dX5_finishes_103 (lv_at hl 6 rfl) ?_
        obtain ⟨hok, hw⟩ := hw
        refine q_callIV B h (met_X5_place l c0 c2 c3 m6 c5) (CB B 4 kC_X5_place kI_RX5 kM_RX5_134 hd_X5_place ⟨Nat.le_of_ble_eq_true rfl, Nat.le_of_ble_eq_true rfl⟩) kO_X5_place kV_X5_place (ci := 5) rfl (by decide) hok.1 hok.2 (rest := [va_rf o3]) rfl rfl hl.1 (by simp [rf_cat, cat_i, cat_r, cat_n, cat_j, cat_f, cat_d]) dX5_finishes_105 ⟨Nat.le_of_ble_eq_true rfl, Nat.le_of_ble_eq_true rfl⟩ hw (fun r5 S7 H locs hw9 h9 => ?_)
        replace hw := hw9
        clear hw9
        replace h := h9
        clear h9
        refine lv_iload B.1.1 B.1.2.1 dX5_finishes_108 (lv_at hl 0 rfl) ?_
        obtain ⟨q3, hn, hw⟩ := hw
        subst hn
        replace hl : lv_has ls 8 [(7, .int r4), (0, .ref c0), (1, .int c1), (2, .int c2), (3, .int c3), (4, .int m4), (5, .int c5), (6, .int m6)] := hl
        obtain ⟨hok, hin9, hw⟩ := hw
        refine q_iast B h dX5_finishes_110 hok.1 hok.2 hin9 (fun H locs h9 => ?_)
        obtain ⟨S8, hS8, hh⟩ : ∃ z, z = sA S7 q3 r5.toNatClampNeg r4 ∧ Hx D cs lo s z H _ := ⟨_, rfl, h9⟩
        clear h9
        replace h := hh
        clear hh
        replace hw := hw S8 hS8
        refine lv_aload_n B.1.1 B.1.2.1 dX5_finishes_111 rfl (lv_at hl 1 rfl) ?_
        obtain ⟨hok, hw⟩ := hw
        refine q_getR B h (ci := 5) (j := 15) (code := 175) rfl inT_5 (by decide) kF_RX5_50 rfl rfl rfl (by decide) dX5_finishes_112 hok.1 hok.2 ?_
        obtain ⟨o4, hoo4⟩ : ∃ z, z = gR S8 175 c0 := ⟨_, rfl⟩
        rw [← hoo4]
        replace hw := hw o4 hoo4
        refine lv_iload_n B.1.1 B.1.2.1 dX5_finishes_115 rfl (lv_at hl 2 rfl) ?_
        refine lv_dup2_11 B.1.1 B.1.2.1 dX5_finishes_116 rfl (rf_cat _) ?_
        obtain ⟨q4, hn, hw⟩ := hw
        subst hn
        replace hl : lv_has ls 8 [(7, .int r4), (0, .ref c0), (1, .int c1), (2, .int c2), (3, .int c3), (4, .int m4), (5, .int c5), (6, .int m6)] := hl
        obtain ⟨hok, hin9, hw⟩ := hw
        refine q_iald B h dX5_finishes_117 hok.1 hok.2 hin9 ?_
        refine lv_iload B.1.1 B.1.2.1 dX5_finishes_118 (lv_at hl 0 rfl) ?_
        refine lv_iadd B.1.1 B.1.2.1 dX5_finishes_120 ?_
        obtain ⟨hok, hin9, hw⟩ := hw
        refine q_iast B h dX5_finishes_121 hok.1 hok.2 hin9 (fun H locs h9 => ?_)
        obtain ⟨S9, hS9, hh⟩ : ∃ z, z = sA S8 q4 c1.toNatClampNeg ((gA S8 q4 c1.toNatClampNeg) + r4) ∧ Hx D cs lo s z H _ := ⟨_, rfl, h9⟩
        clear h9
        replace h := hh
        clear hh
        replace hw := hw S9 hS9
        refine lv_aload_n B.1.1 B.1.2.1 dX5_finishes_122 rfl (lv_at hl 1 rfl) ?_
        obtain ⟨hok, hw⟩ := hw
        refine q_getR B h (ci := 5) (j := 11) (code := 171) rfl inT_5 (by decide) kF_RX5_37 rfl rfl rfl (by decide) dX5_finishes_123 hok.1 hok.2 ?_
        obtain ⟨o5, hoo5⟩ : ∃ z, z = gR S9 171 c0 := ⟨_, rfl⟩
        rw [← hoo5]
        replace hw := hw o5 hoo5
        refine lv_iload_n B.1.1 B.1.2.1 dX5_finishes_126 rfl (lv_at hl 3 rfl) ?_
        refine lv_dup2_11 B.1.1 B.1.2.1 dX5_finishes_127 rfl (rf_cat _) ?_
        obtain ⟨q5, hn, hw⟩ := hw
        subst hn
        replace hl : lv_has ls 8 [(7, .int r4), (0, .ref c0), (1, .int c1), (2, .int c2), (3, .int c3), (4, .int m4), (5, .int c5), (6, .int m6)] := hl
        obtain ⟨hok, hin9, hw⟩ := hw
        refine q_iald B h dX5_finishes_128 hok.1 hok.2 hin9 ?_
        refine lv_iload B.1.1 B.1.2.1 dX5_finishes_129 (lv_at hl 0 rfl) ?_
        refine lv_iadd B.1.1 B.1.2.1 dX5_finishes_131 ?_
        obtain ⟨hok, hin9, hw⟩ := hw
        refine q_iast B h dX5_finishes_132 hok.1 hok.2 hin9 (fun H locs h9 => ?_)
        obtain ⟨S10, hS10, hh⟩ : ∃ z, z = sA S9 q5 c2.toNatClampNeg ((gA S9 q5 c2.toNatClampNeg) + r4) ∧ Hx D cs lo s z H _ := ⟨_, rfl, h9⟩
        clear h9
        replace h := hh
        clear hh
        replace hw := hw S10 hS10
        refine lv_iload B.1.1 B.1.2.1 dX5_finishes_133 (lv_at hl 0 rfl) ?_
        refine lv_iload B.1.1 B.1.2.1 dX5_finishes_135 (lv_at hl 5 rfl) ?_
        refine lv_icmp_le (tgt := 145) B.1.1 B.1.2.1 dX5_finishes_137 (by decide) (fun hc => ?_) (fun hc => ?_)
        · replace hw := hw.1 hc
          refine lv_iload B.1.1 B.1.2.1 dX5_finishes_145 (lv_at hl 5 rfl) ?_
          refine lv_istore (i := 4) (lv' := [(4, .int m4), (7, .int r4), (0, .ref c0), (1, .int c1), (2, .int c2), (3, .int c3), (5, .int c5), (6, .int m6)]) B.1.1 B.1.2.1 dX5_finishes_147 hl (by decide) rfl (fun ls hl9 => ?_)
          replace hl := hl9
          clear hl9
          refine lv_iinc (i := 6) (v := (m6 + (1 : Int32))) (lv' := [(6, .int (m6 + (1 : Int32))), (4, .int m4), (7, .int r4), (0, .ref c0), (1, .int c1), (2, .int c2), (3, .int c3), (5, .int c5)]) B.1.1 B.1.2.1 dX5_finishes_149 hl (k := 7) rfl rfl (by decide) rfl (fun ls hl9 => ?_)
          replace hl := hl9
          clear hl9
          refine lv_goto (tgt := 78) B.1.1 B.1.2.1 dX5_finishes_152 (by decide) ?_
          exact ih m4 (m6 + (1 : Int32)) _ _ _ ls h (lv_sub hl [3, 4, 5, 6, 1, 7, 0] rfl) hw hk
        · replace hw := hw.2 hc
          refine lv_iload B.1.1 B.1.2.1 dX5_finishes_140 (lv_at hl 0 rfl) ?_
          refine lv_goto (tgt := 147) B.1.1 B.1.2.1 dX5_finishes_142 (by decide) ?_
          refine lv_istore (i := 4) (lv' := [(4, .int r4), (7, .int r4), (0, .ref c0), (1, .int c1), (2, .int c2), (3, .int c3), (5, .int c5), (6, .int m6)]) B.1.1 B.1.2.1 dX5_finishes_147 hl (by decide) rfl (fun ls hl9 => ?_)
          replace hl := hl9
          clear hl9
          refine lv_iinc (i := 6) (v := (m6 + (1 : Int32))) (lv' := [(6, .int (m6 + (1 : Int32))), (4, .int r4), (7, .int r4), (0, .ref c0), (1, .int c1), (2, .int c2), (3, .int c3), (5, .int c5)]) B.1.1 B.1.2.1 dX5_finishes_149 hl (k := 7) rfl rfl (by decide) rfl (fun ls hl9 => ?_)
          replace hl := hl9
          clear hl9
          refine lv_goto (tgt := 78) B.1.1 B.1.2.1 dX5_finishes_152 (by decide) ?_
          exact ih r4 (m6 + (1 : Int32)) _ _ _ ls h (lv_sub hl [3, 4, 5, 6, 1, 7, 0] rfl) hw hk
  have L45 : ∀ (c0 : Nat) (c1 : Int32) (c2 : Int32) (c3 : Int32) (c4 : Int32) (c5 : Int32) (K : Int32 → HS → Prop) (n : Nat) (m6 : Int32) (S : HS) (H : Heap) (locs : List Loc) (ls : Array Slot), Hx D cs lo s S H locs → lv_has ls 8 [(0, .ref c0), (1, .int c1), (2, .int c2), (3, .int c3), (4, .int c4), (5, .int c5), (6, .int m6)] → wX5_finishes_L45 c0 c1 c2 c3 c4 c5 n m6 S K → (∀ (m6 : Int32) (S : HS) (H : Heap) (locs : List Loc) (ls : Array Slot), Hx D cs lo s S H locs → lv_has ls 8 [(0, .ref c0), (1, .int c1), (2, .int c2), (3, .int c3), (4, .int c4), (5, .int c5), (6, .int m6)] → K m6 S → W p l e ({ frames := 5, cells := 0, slots := 0, locals := 115 } : Room) s m [.ref a0, .int x1].toArray below meth c H locs 0 0 (MQ below (va_Qv Q (fun S' t => hp D cs lo S' t.heap) (fun q => lo ≤ q)) [.ref a0, .int x1].toArray s 0 0 (fun q => lo ≤ q)) (F0 m 75 ls [])) → W p l e ({ frames := 5, cells := 0, slots := 0, locals := 115 } : Room) s m [.ref a0, .int x1].toArray below meth c H locs 0 0 (MQ below (va_Qv Q (fun S' t => hp D cs lo S' t.heap) (fun q => lo ≤ q)) [.ref a0, .int x1].toArray s 0 0 (fun q => lo ≤ q)) (F0 m 45 ls []) := by
    intro c0 c1 c2 c3 c4 c5 K n
    induction n with
    | zero => intro m6 S H locs ls h hl hw hk; exact False.elim hw
    | succ n ih =>
      intro m6 S H locs ls h hl hw hk
      refine lv_iload B.1.1 B.1.2.1 dX5_finishes_45 (lv_at hl 6 rfl) ?_
      refine lv_bipush (v := (8 : Int32)) B.1.1 B.1.2.1 dX5_finishes_47 (by decide) ?_
      refine lv_icmp_ge (tgt := 75) B.1.1 B.1.2.1 dX5_finishes_49 (by decide) (fun hc => ?_) (fun hc => ?_)
      · replace hw := hw.1 hc
        exact hk m6 _ _ _ ls h (lv_sub hl [0, 1, 2, 3, 4, 5, 6] rfl) hw
      · replace hw := hw.2 hc
        refine lv_aload_n B.1.1 B.1.2.1 dX5_finishes_52 rfl (lv_at hl 0 rfl) ?_
        refine lv_iload_n B.1.1 B.1.2.1 dX5_finishes_53 rfl (lv_at hl 1 rfl) ?_
        refine lv_iload B.1.1 B.1.2.1 dX5_finishes_54 (lv_at hl 6 rfl) ?_
        refine lv_aload_n B.1.1 B.1.2.1 dX5_finishes_56 rfl (lv_at hl 0 rfl) ?_
        refine lv_iload_n B.1.1 B.1.2.1 dX5_finishes_57 rfl (lv_at hl 2 rfl) ?_
        refine lv_iload_n B.1.1 B.1.2.1 dX5_finishes_58 rfl (lv_at hl 3 rfl) ?_
        refine lv_iload B.1.1 B.1.2.1 dX5_finishes_59 (lv_at hl 6 rfl) ?_
        refine lv_iload B.1.1 B.1.2.1 dX5_finishes_61 (lv_at hl 5 rfl) ?_
        obtain ⟨hok, hw⟩ := hw
        refine q_callIV B h (met_X5_lays l c0 c2 c3 m6 c5) (CB B 4 kC_X5_lays kI_RX5 kM_RX5_108 hd_X5_lays ⟨Nat.le_of_ble_eq_true rfl, Nat.le_of_ble_eq_true rfl⟩) kO_X5_lays kV_X5_lays (ci := 5) rfl (by decide) hok.1 hok.2 (rest := [.int m6, .int c1, .ref c0]) rfl rfl hl.1 (Nat.le_of_ble_eq_true rfl) dX5_finishes_63 ⟨Nat.le_of_ble_eq_true rfl, Nat.le_of_ble_eq_true rfl⟩ hw (fun r3 S3 H locs hw9 h9 => ?_)
        replace hw := hw9
        clear hw9
        replace h := h9
        clear h9
        obtain ⟨hok, hw⟩ := hw
        refine q_callVV B h (met_X5_wants l c0 c1 m6 r3) (CB B 3 kC_X5_wants kI_RX5 kM_RX5_121 hd_X5_wants ⟨Nat.le_of_ble_eq_true rfl, Nat.le_of_ble_eq_true rfl⟩) kO_X5_wants kV_X5_wants (ci := 5) rfl (by decide) hok.1 hok.2 (rest := []) rfl rfl hl.1 (Nat.le_of_ble_eq_true rfl) dX5_finishes_66 ⟨Nat.le_of_ble_eq_true rfl, Nat.le_of_ble_eq_true rfl⟩ hw (fun S4 H locs hw9 h9 => ?_)
        replace hw := hw9
        clear hw9
        replace h := h9
        clear h9
        refine lv_iinc (i := 6) (v := (m6 + (1 : Int32))) (lv' := [(6, .int (m6 + (1 : Int32))), (0, .ref c0), (1, .int c1), (2, .int c2), (3, .int c3), (4, .int c4), (5, .int c5)]) B.1.1 B.1.2.1 dX5_finishes_69 hl (k := 6) rfl rfl (by decide) rfl (fun ls hl9 => ?_)
        replace hl := hl9
        clear hl9
        refine lv_goto (tgt := 45) B.1.1 B.1.2.1 dX5_finishes_72 (by decide) ?_
        exact ih (m6 + (1 : Int32)) _ _ _ ls h (lv_sub hl [1, 2, 3, 4, 5, 6, 0] rfl) hw hk
  have L31 : ∀ (c0 : Nat) (c1 : Int32) (c2 : Int32) (c3 : Int32) (K : Int32 → Int32 → HS → Prop) (n : Nat) (m4 : Int32) (m5 : Int32) (S : HS) (H : Heap) (locs : List Loc) (ls : Array Slot), Hx D cs lo s S H locs → lv_has ls 8 [(0, .ref c0), (1, .int c1), (2, .int c2), (3, .int c3), (4, .int m4), (5, .int m5)] → wX5_finishes_L31 c0 c1 c2 c3 n m4 m5 S K → (∀ (m4 : Int32) (m5 : Int32) (S : HS) (H : Heap) (locs : List Loc) (ls : Array Slot), Hx D cs lo s S H locs → lv_has ls 8 [(0, .ref c0), (1, .int c1), (2, .int c2), (3, .int c3), (4, .int m4), (5, .int m5)] → K m4 m5 S → W p l e ({ frames := 5, cells := 0, slots := 0, locals := 115 } : Room) s m [.ref a0, .int x1].toArray below meth c H locs 0 0 (MQ below (va_Qv Q (fun S' t => hp D cs lo S' t.heap) (fun q => lo ≤ q)) [.ref a0, .int x1].toArray s 0 0 (fun q => lo ≤ q)) (F0 m 161 ls [])) → W p l e ({ frames := 5, cells := 0, slots := 0, locals := 115 } : Room) s m [.ref a0, .int x1].toArray below meth c H locs 0 0 (MQ below (va_Qv Q (fun S' t => hp D cs lo S' t.heap) (fun q => lo ≤ q)) [.ref a0, .int x1].toArray s 0 0 (fun q => lo ≤ q)) (F0 m 31 ls []) := by
    intro c0 c1 c2 c3 K n
    induction n with
    | zero => intro m4 m5 S H locs ls h hl hw hk; exact False.elim hw
    | succ n ih =>
      intro m4 m5 S H locs ls h hl hw hk
      refine lv_iload B.1.1 B.1.2.1 dX5_finishes_31 (lv_at hl 5 rfl) ?_
      refine lv_aload_n B.1.1 B.1.2.1 dX5_finishes_33 rfl (lv_at hl 0 rfl) ?_
      refine lv_iload_n B.1.1 B.1.2.1 dX5_finishes_34 rfl (lv_at hl 2 rfl) ?_
      refine lv_iload_n B.1.1 B.1.2.1 dX5_finishes_35 rfl (lv_at hl 3 rfl) ?_
      obtain ⟨hok, hw⟩ := hw
      refine q_callIV B h (met_X5_end l c0 c2 c3) (CB B 2 kC_X5_end kI_RX5 kM_RX5_88 hd_X5_end ⟨Nat.le_of_ble_eq_true rfl, Nat.le_of_ble_eq_true rfl⟩) kO_X5_end kV_X5_end (ci := 5) rfl (by decide) hok.1 hok.2 (rest := [.int m5]) rfl rfl hl.1 (Nat.le_of_ble_eq_true rfl) dX5_finishes_36 ⟨Nat.le_of_ble_eq_true rfl, Nat.le_of_ble_eq_true rfl⟩ hw (fun r2 S2 H locs hw9 h9 => ?_)
      replace hw := hw9
      clear hw9
      replace h := h9
      clear h9
      refine lv_icmp_ge (tgt := 161) B.1.1 B.1.2.1 dX5_finishes_39 (by decide) (fun hc => ?_) (fun hc => ?_)
      · replace hw := hw.1 hc
        exact hk m4 m5 _ _ _ ls h (lv_sub hl [0, 1, 2, 3, 4, 5] rfl) hw
      · replace hw := hw.2 hc
        refine lv_iconst (v := (0 : Int32)) B.1.1 B.1.2.1 dX5_finishes_42 (by decide) ?_
        refine lv_istore (i := 6) (lv' := [(6, .int (0 : Int32)), (0, .ref c0), (1, .int c1), (2, .int c2), (3, .int c3), (4, .int m4), (5, .int m5)]) B.1.1 B.1.2.1 dX5_finishes_43 hl (by decide) rfl (fun ls hl9 => ?_)
        replace hl := hl9
        clear hl9
        obtain ⟨n1, hw⟩ := hw
        refine L45 c0 c1 c2 c3 m4 m5 _ n1 (0 : Int32) _ _ _ ls h (lv_sub hl [1, 2, 3, 4, 5, 6, 0] rfl) hw (fun u1 S5 H locs ls h9 hl9 hw9 => ?_)
        replace hw := hw9
        clear hw9
        replace h := h9
        clear h9
        replace hl := hl9
        clear hl9
        refine lv_iconst (v := (0 : Int32)) B.1.1 B.1.2.1 dX5_finishes_75 (by decide) ?_
        refine lv_istore (i := 6) (lv' := [(6, .int (0 : Int32)), (0, .ref c0), (1, .int c1), (2, .int c2), (3, .int c3), (4, .int m4), (5, .int m5)]) B.1.1 B.1.2.1 dX5_finishes_76 hl (by decide) rfl (fun ls hl9 => ?_)
        replace hl := hl9
        clear hl9
        obtain ⟨n2, hw⟩ := hw
        refine L78 c0 c1 c2 c3 m5 _ n2 m4 (0 : Int32) _ _ _ ls h (lv_sub hl [1, 2, 3, 4, 5, 6, 0] rfl) hw (fun u2 u3 S11 H locs ls h9 hl9 hw9 => ?_)
        replace hw := hw9
        clear hw9
        replace h := h9
        clear h9
        replace hl := hl9
        clear hl9
        refine lv_iinc (i := 5) (v := (m5 + (1 : Int32))) (lv' := [(5, .int (m5 + (1 : Int32))), (0, .ref c0), (1, .int c1), (2, .int c2), (3, .int c3), (4, .int u2), (6, .int u3)]) B.1.1 B.1.2.1 dX5_finishes_155 hl (k := 5) rfl rfl (by decide) rfl (fun ls hl9 => ?_)
        replace hl := hl9
        clear hl9
        refine lv_goto (tgt := 31) B.1.1 B.1.2.1 dX5_finishes_158 (by decide) ?_
        exact ih u2 (m5 + (1 : Int32)) _ _ _ ls h (lv_sub hl [1, 2, 3, 4, 5, 0] rfl) hw hk
  intro h hl hw
  replace hl : lv_has ls 8 [(0, .ref a0), (1, .int x1)] := hl
  refine lv_aload_n B.1.1 B.1.2.1 dX5_finishes_0 rfl (lv_at hl 0 rfl) ?_
  obtain ⟨hok, hw⟩ := hw
  refine q_getR B h (ci := 5) (j := 16) (code := 176) rfl inT_5 (by decide) kF_RX5_53 rfl rfl rfl (by decide) dX5_finishes_1 hok.1 hok.2 ?_
  obtain ⟨o1, hoo1⟩ : ∃ z, z = gR S 176 a0 := ⟨_, rfl⟩
  rw [← hoo1]
  replace hw := hw o1 hoo1
  refine lv_iload_n B.1.1 B.1.2.1 dX5_finishes_4 rfl (lv_at hl 1 rfl) ?_
  obtain ⟨q1, hn, hw⟩ := hw
  subst hn
  replace hl : lv_has ls 8 [(0, .ref a0), (1, .int x1)] := hl
  obtain ⟨hok, hin9, hw⟩ := hw
  refine q_iald B h dX5_finishes_5 hok.1 hok.2 hin9 ?_
  refine lv_bipush (v := (16 : Int32)) B.1.1 B.1.2.1 dX5_finishes_6 (by decide) ?_
  refine lv_idiv B.1.1 B.1.2.1 dX5_finishes_8 (by decide) ?_
  refine lv_istore_n (i := 2) (lv' := [(2, .int ((gA S q1 x1.toNatClampNeg) / (16 : Int32))), (0, .ref a0), (1, .int x1)]) B.1.1 B.1.2.1 dX5_finishes_9 rfl hl (by decide) rfl (fun ls hl9 => ?_)
  replace hl := hl9
  clear hl9
  refine lv_aload_n B.1.1 B.1.2.1 dX5_finishes_10 rfl (lv_at hl 1 rfl) ?_
  obtain ⟨hok, hw⟩ := hw
  refine q_getR B h (ci := 5) (j := 16) (code := 176) rfl inT_5 (by decide) kF_RX5_53 rfl rfl rfl (by decide) dX5_finishes_11 hok.1 hok.2 ?_
  obtain ⟨o2, hoo2⟩ : ∃ z, z = gR S 176 a0 := ⟨_, rfl⟩
  rw [← hoo2]
  replace hw := hw o2 hoo2
  refine lv_iload_n B.1.1 B.1.2.1 dX5_finishes_14 rfl (lv_at hl 2 rfl) ?_
  obtain ⟨q2, hn, hw⟩ := hw
  subst hn
  replace hl : lv_has ls 8 [(2, .int ((gA S q1 x1.toNatClampNeg) / (16 : Int32))), (0, .ref a0), (1, .int x1)] := hl
  obtain ⟨hok, hin9, hw⟩ := hw
  refine q_iald B h dX5_finishes_15 hok.1 hok.2 hin9 ?_
  refine lv_bipush (v := (16 : Int32)) B.1.1 B.1.2.1 dX5_finishes_16 (by decide) ?_
  refine lv_irem B.1.1 B.1.2.1 dX5_finishes_18 (by decide) ?_
  refine lv_istore_n (i := 3) (lv' := [(3, .int ((gA S q2 x1.toNatClampNeg) - (gA S q2 x1.toNatClampNeg) / (16 : Int32) * (16 : Int32))), (2, .int ((gA S q1 x1.toNatClampNeg) / (16 : Int32))), (0, .ref a0), (1, .int x1)]) B.1.1 B.1.2.1 dX5_finishes_19 rfl hl (by decide) rfl (fun ls hl9 => ?_)
  replace hl := hl9
  clear hl9
  refine lv_iconst (v := (0 : Int32)) B.1.1 B.1.2.1 dX5_finishes_20 (by decide) ?_
  refine lv_istore (i := 4) (lv' := [(4, .int (0 : Int32)), (3, .int ((gA S q2 x1.toNatClampNeg) - (gA S q2 x1.toNatClampNeg) / (16 : Int32) * (16 : Int32))), (2, .int ((gA S q1 x1.toNatClampNeg) / (16 : Int32))), (0, .ref a0), (1, .int x1)]) B.1.1 B.1.2.1 dX5_finishes_21 hl (by decide) rfl (fun ls hl9 => ?_)
  replace hl := hl9
  clear hl9
  refine lv_aload_n B.1.1 B.1.2.1 dX5_finishes_23 rfl (lv_at hl 3 rfl) ?_
  refine lv_iload_n B.1.1 B.1.2.1 dX5_finishes_24 rfl (lv_at hl 2 rfl) ?_
  refine lv_iload_n B.1.1 B.1.2.1 dX5_finishes_25 rfl (lv_at hl 1 rfl) ?_
  obtain ⟨hok, hw⟩ := hw
  refine q_callIV B h (met_X5_first l a0 ((gA S q1 x1.toNatClampNeg) / (16 : Int32)) ((gA S q2 x1.toNatClampNeg) - (gA S q2 x1.toNatClampNeg) / (16 : Int32) * (16 : Int32))) (CB B 2 kC_X5_first kI_RX5 kM_RX5_84 hd_X5_first ⟨Nat.le_of_ble_eq_true rfl, Nat.le_of_ble_eq_true rfl⟩) kO_X5_first kV_X5_first (ci := 5) rfl (by decide) hok.1 hok.2 (rest := []) rfl rfl hl.1 (Nat.le_of_ble_eq_true rfl) dX5_finishes_26 ⟨Nat.le_of_ble_eq_true rfl, Nat.le_of_ble_eq_true rfl⟩ hw (fun r1 S1 H locs hw9 h9 => ?_)
  replace hw := hw9
  clear hw9
  replace h := h9
  clear h9
  refine lv_istore (i := 5) (lv' := [(5, .int r1), (4, .int (0 : Int32)), (3, .int ((gA S q2 x1.toNatClampNeg) - (gA S q2 x1.toNatClampNeg) / (16 : Int32) * (16 : Int32))), (2, .int ((gA S q1 x1.toNatClampNeg) / (16 : Int32))), (0, .ref a0), (1, .int x1)]) B.1.1 B.1.2.1 dX5_finishes_29 hl (by decide) rfl (fun ls hl9 => ?_)
  replace hl := hl9
  clear hl9
  obtain ⟨n3, hw⟩ := hw
  refine L31 a0 x1 ((gA S q1 x1.toNatClampNeg) / (16 : Int32)) ((gA S q2 x1.toNatClampNeg) - (gA S q2 x1.toNatClampNeg) / (16 : Int32) * (16 : Int32)) _ n3 (0 : Int32) r1 _ _ _ ls h (lv_sub hl [4, 5, 3, 2, 1, 0] rfl) hw (fun u4 u5 S12 H locs ls h9 hl9 hw9 => ?_)
  replace hw := hw9
  clear hw9
  replace h := h9
  clear h9
  replace hl := hl9
  clear hl9
  refine lv_aload_n B.1.1 B.1.2.1 dX5_finishes_161 rfl (lv_at hl 0 rfl) ?_
  obtain ⟨hok, hw⟩ := hw
  refine q_getR B h (ci := 5) (j := 10) (code := 170) rfl inT_5 (by decide) kF_RX5_34 rfl rfl rfl (by decide) dX5_finishes_162 hok.1 hok.2 ?_
  obtain ⟨o6, hoo6⟩ : ∃ z, z = gR S12 170 a0 := ⟨_, rfl⟩
  rw [← hoo6]
  replace hw := hw o6 hoo6
  refine lv_aload_n B.1.1 B.1.2.1 dX5_finishes_165 rfl (lv_at hl 0 rfl) ?_
  obtain ⟨hok, hw⟩ := hw
  refine q_getR B h (ci := 5) (j := 16) (code := 176) rfl inT_5 (by decide) kF_RX5_53 rfl rfl rfl (by decide) dX5_finishes_166 hok.1 hok.2 ?_
  obtain ⟨o7, hoo7⟩ : ∃ z, z = gR S12 176 a0 := ⟨_, rfl⟩
  rw [← hoo7]
  replace hw := hw o7 hoo7
  refine lv_iload_n B.1.1 B.1.2.1 dX5_finishes_169 rfl (lv_at hl 1 rfl) ?_
  obtain ⟨q6, hn, hw⟩ := hw
  subst hn
  replace hl : lv_has ls 8 [(0, .ref a0), (1, .int x1), (2, .int ((gA S q1 x1.toNatClampNeg) / (16 : Int32))), (3, .int ((gA S q2 x1.toNatClampNeg) - (gA S q2 x1.toNatClampNeg) / (16 : Int32) * (16 : Int32))), (4, .int u4), (5, .int u5)] := hl
  obtain ⟨hok, hin9, hw⟩ := hw
  refine q_iald B h dX5_finishes_170 hok.1 hok.2 hin9 ?_
  refine lv_aload_n B.1.1 B.1.2.1 dX5_finishes_171 rfl (lv_at hl 0 rfl) ?_
  obtain ⟨hok, hw⟩ := hw
  refine q_getI B h (ci := 5) (j := 0) (code := 160) rfl inT_5 (by decide) kF_RX5_131 rfl rfl rfl (by decide) dX5_finishes_172 hok.1 hok.2 ?_
  refine lv_iload B.1.1 B.1.2.1 dX5_finishes_175 (lv_at hl 4 rfl) ?_
  refine lv_iadd B.1.1 B.1.2.1 dX5_finishes_177 ?_
  obtain ⟨q7, hn, hw⟩ := hw
  subst hn
  replace hl : lv_has ls 8 [(0, .ref a0), (1, .int x1), (2, .int ((gA S q1 x1.toNatClampNeg) / (16 : Int32))), (3, .int ((gA S q2 x1.toNatClampNeg) - (gA S q2 x1.toNatClampNeg) / (16 : Int32) * (16 : Int32))), (4, .int u4), (5, .int u5)] := hl
  obtain ⟨hok, hin9, hw⟩ := hw
  refine q_iast B h dX5_finishes_178 hok.1 hok.2 hin9 (fun H locs h9 => ?_)
  obtain ⟨S13, hS13, hh⟩ : ∃ z, z = sA S12 q7 (gA S12 q6 x1.toNatClampNeg).toNatClampNeg ((gI S12 160 a0) + u4) ∧ Hx D cs lo s z H _ := ⟨_, rfl, h9⟩
  clear h9
  replace h := hh
  clear hh
  replace hw := hw S13 hS13
  refine lv_aload_n B.1.1 B.1.2.1 dX5_finishes_179 rfl (lv_at hl 0 rfl) ?_
  obtain ⟨hok, hw⟩ := hw
  refine q_getR B h (ci := 5) (j := 16) (code := 176) rfl inT_5 (by decide) kF_RX5_53 rfl rfl rfl (by decide) dX5_finishes_180 hok.1 hok.2 ?_
  obtain ⟨o8, hoo8⟩ : ∃ z, z = gR S13 176 a0 := ⟨_, rfl⟩
  rw [← hoo8]
  replace hw := hw o8 hoo8
  refine lv_iload_n B.1.1 B.1.2.1 dX5_finishes_183 rfl (lv_at hl 1 rfl) ?_
  refine lv_iconst (v := (-1 : Int32)) B.1.1 B.1.2.1 dX5_finishes_184 (by decide) ?_
  obtain ⟨q8, hn, hw⟩ := hw
  subst hn
  replace hl : lv_has ls 8 [(0, .ref a0), (1, .int x1), (2, .int ((gA S q1 x1.toNatClampNeg) / (16 : Int32))), (3, .int ((gA S q2 x1.toNatClampNeg) - (gA S q2 x1.toNatClampNeg) / (16 : Int32) * (16 : Int32))), (4, .int u4), (5, .int u5)] := hl
  obtain ⟨hok, hin9, hw⟩ := hw
  refine q_iast B h dX5_finishes_185 hok.1 hok.2 hin9 (fun H locs h9 => ?_)
  obtain ⟨S14, hS14, hh⟩ : ∃ z, z = sA S13 q8 x1.toNatClampNeg (-1 : Int32) ∧ Hx D cs lo s z H _ := ⟨_, rfl, h9⟩
  clear h9
  replace h := hh
  clear hh
  replace hw := hw S14 hS14
  exact q_vret B hr hlk h hw dX5_finishes_186 (Nat.le_of_ble_eq_true rfl) (Nat.le_of_ble_eq_true rfl)
set_option maxHeartbeats 4000000 in
set_option maxRecDepth 100000 in
theorem met_X5_goesOn (l : Launch) (a0 : Nat) : MI l yX5_goesOn cX5_goesOn 3 (some .int) 6 142 0 0 [.ref a0] (wX5_goesOn a0) := by
  refine MI.of (by decide) (Nat.le_of_ble_eq_true rfl) ?_
  intro p e s m below meth c D cs lo S Q ls B hr hlk hin
  have L42 : ∀ (c0 : Nat) (K : Int32 → Int32 → HS → Prop) (n : Nat) (m1 : Int32) (m2 : Int32) (S : HS) (H : Heap) (locs : List Loc) (ls : Array Slot), Hx D cs lo s S H locs → lv_has ls 3 [(0, .ref c0), (1, .int m1), (2, .int m2)] → wX5_goesOn_L42 c0 n m1 m2 S K → (∀ (m1 : Int32) (m2 : Int32) (S : HS) (H : Heap) (locs : List Loc) (ls : Array Slot), Hx D cs lo s S H locs → lv_has ls 3 [(0, .ref c0), (1, .int m1), (2, .int m2)] → K m1 m2 S → W p l e ({ frames := 6, cells := 0, slots := 0, locals := 142 } : Room) s m [.ref a0].toArray below meth c H locs 0 0 (MQ below (va_Qi Q (fun S' t => hp D cs lo S' t.heap) (fun q => lo ≤ q)) [.ref a0].toArray s 0 0 (fun q => lo ≤ q)) (F0 m 90 ls [])) → W p l e ({ frames := 6, cells := 0, slots := 0, locals := 142 } : Room) s m [.ref a0].toArray below meth c H locs 0 0 (MQ below (va_Qi Q (fun S' t => hp D cs lo S' t.heap) (fun q => lo ≤ q)) [.ref a0].toArray s 0 0 (fun q => lo ≤ q)) (F0 m 42 ls []) := by
    intro c0 K n
    induction n with
    | zero => intro m1 m2 S H locs ls h hl hw hk; exact False.elim hw
    | succ n ih =>
      intro m1 m2 S H locs ls h hl hw hk
      refine lv_iload_n B.1.1 B.1.2.1 dX5_goesOn_42 rfl (lv_at hl 2 rfl) ?_
      refine lv_iconst (v := (3 : Int32)) B.1.1 B.1.2.1 dX5_goesOn_43 (by decide) ?_
      refine lv_icmp_ge (tgt := 90) B.1.1 B.1.2.1 dX5_goesOn_44 (by decide) (fun hc => ?_) (fun hc => ?_)
      · replace hw := hw.1 hc
        exact hk m1 m2 _ _ _ ls h (lv_sub hl [0, 1, 2] rfl) hw
      · replace hw := hw.2 hc
        refine lv_aload_n B.1.1 B.1.2.1 dX5_goesOn_47 rfl (lv_at hl 0 rfl) ?_
        obtain ⟨hok, hw⟩ := hw
        refine q_getR B h (ci := 5) (j := 16) (code := 176) rfl inT_5 (by decide) kF_RX5_53 rfl rfl rfl (by decide) dX5_goesOn_48 hok.1 hok.2 ?_
        obtain ⟨o2, hoo2⟩ : ∃ z, z = gR S 176 c0 := ⟨_, rfl⟩
        rw [← hoo2]
        replace hw := hw o2 hoo2
        refine lv_iload_n B.1.1 B.1.2.1 dX5_goesOn_51 rfl (lv_at hl 2 rfl) ?_
        obtain ⟨q2, hn, hw⟩ := hw
        subst hn
        replace hl : lv_has ls 3 [(0, .ref c0), (1, .int m1), (2, .int m2)] := hl
        obtain ⟨hok, hin9, hw⟩ := hw
        refine q_iald B h dX5_goesOn_52 hok.1 hok.2 hin9 ?_
        refine lv_iconst (v := (-1 : Int32)) B.1.1 B.1.2.1 dX5_goesOn_53 (by decide) ?_
        refine lv_icmp_eq (tgt := 84) B.1.1 B.1.2.1 dX5_goesOn_54 (by decide) (fun hc => ?_) (fun hc => ?_)
        · replace hw := hw.1 hc
          refine lv_iinc (i := 2) (v := (m2 + (1 : Int32))) (lv' := [(2, .int (m2 + (1 : Int32))), (0, .ref c0), (1, .int m1)]) B.1.1 B.1.2.1 dX5_goesOn_84 hl (k := 2) rfl rfl (by decide) rfl (fun ls hl9 => ?_)
          replace hl := hl9
          clear hl9
          refine lv_goto (tgt := 42) B.1.1 B.1.2.1 dX5_goesOn_87 (by decide) ?_
          exact ih m1 (m2 + (1 : Int32)) _ _ _ ls h (lv_sub hl [1, 2, 0] rfl) hw hk
        · replace hw := hw.2 hc
          refine lv_aload_n B.1.1 B.1.2.1 dX5_goesOn_57 rfl (lv_at hl 0 rfl) ?_
          obtain ⟨hok, hw⟩ := hw
          refine q_getR B h (ci := 5) (j := 17) (code := 177) rfl inT_5 (by decide) kF_RX5_56 rfl rfl rfl (by decide) dX5_goesOn_58 hok.1 hok.2 ?_
          obtain ⟨o3, hoo3⟩ : ∃ z, z = gR S 177 c0 := ⟨_, rfl⟩
          rw [← hoo3]
          replace hw := hw o3 hoo3
          refine lv_iload_n B.1.1 B.1.2.1 dX5_goesOn_61 rfl (lv_at hl 2 rfl) ?_
          refine lv_dup2_11 B.1.1 B.1.2.1 dX5_goesOn_62 rfl (rf_cat _) ?_
          obtain ⟨q3, hn, hw⟩ := hw
          subst hn
          replace hl : lv_has ls 3 [(0, .ref c0), (1, .int m1), (2, .int m2)] := hl
          obtain ⟨hok, hin9, hw⟩ := hw
          refine q_iald B h dX5_goesOn_63 hok.1 hok.2 hin9 ?_
          refine lv_iconst (v := (1 : Int32)) B.1.1 B.1.2.1 dX5_goesOn_64 (by decide) ?_
          refine lv_isub B.1.1 B.1.2.1 dX5_goesOn_65 ?_
          obtain ⟨hok, hin9, hw⟩ := hw
          refine q_iast B h dX5_goesOn_66 hok.1 hok.2 hin9 (fun H locs h9 => ?_)
          obtain ⟨S4, hS4, hh⟩ : ∃ z, z = sA S q3 m2.toNatClampNeg ((gA S q3 m2.toNatClampNeg) - (1 : Int32)) ∧ Hx D cs lo s z H _ := ⟨_, rfl, h9⟩
          clear h9
          replace h := hh
          clear hh
          replace hw := hw S4 hS4
          refine lv_aload_n B.1.1 B.1.2.1 dX5_goesOn_67 rfl (lv_at hl 0 rfl) ?_
          obtain ⟨hok, hw⟩ := hw
          refine q_getR B h (ci := 5) (j := 17) (code := 177) rfl inT_5 (by decide) kF_RX5_56 rfl rfl rfl (by decide) dX5_goesOn_68 hok.1 hok.2 ?_
          obtain ⟨o4, hoo4⟩ : ∃ z, z = gR S4 177 c0 := ⟨_, rfl⟩
          rw [← hoo4]
          replace hw := hw o4 hoo4
          refine lv_iload_n B.1.1 B.1.2.1 dX5_goesOn_71 rfl (lv_at hl 2 rfl) ?_
          obtain ⟨q4, hn, hw⟩ := hw
          subst hn
          replace hl : lv_has ls 3 [(0, .ref c0), (1, .int m1), (2, .int m2)] := hl
          obtain ⟨hok, hin9, hw⟩ := hw
          refine q_iald B h dX5_goesOn_72 hok.1 hok.2 hin9 ?_
          refine lv_if_ne (tgt := 84) B.1.1 B.1.2.1 dX5_goesOn_73 (by decide) (fun hc => ?_) (fun hc => ?_)
          · replace hw := hw.1 hc
            refine lv_iinc (i := 2) (v := (m2 + (1 : Int32))) (lv' := [(2, .int (m2 + (1 : Int32))), (0, .ref c0), (1, .int m1)]) B.1.1 B.1.2.1 dX5_goesOn_84 hl (k := 2) rfl rfl (by decide) rfl (fun ls hl9 => ?_)
            replace hl := hl9
            clear hl9
            refine lv_goto (tgt := 42) B.1.1 B.1.2.1 dX5_goesOn_87 (by decide) ?_
            exact ih m1 (m2 + (1 : Int32)) _ _ _ ls h (lv_sub hl [1, 2, 0] rfl) hw hk
          · replace hw := hw.2 hc
            refine lv_aload_n B.1.1 B.1.2.1 dX5_goesOn_76 rfl (lv_at hl 0 rfl) ?_
            refine lv_iload_n B.1.1 B.1.2.1 dX5_goesOn_77 rfl (lv_at hl 2 rfl) ?_
            obtain ⟨hok, hw⟩ := hw
            refine q_callVV B h (met_X5_finishes l c0 m2) (CB B 1 kC_X5_finishes kI_RX5 kM_RX5_141 hd_X5_finishes ⟨Nat.le_of_ble_eq_true rfl, Nat.le_of_ble_eq_true rfl⟩) kO_X5_finishes kV_X5_finishes (ci := 5) rfl (by decide) hok.1 hok.2 (rest := []) rfl rfl hl.1 (Nat.le_of_ble_eq_true rfl) dX5_goesOn_78 ⟨Nat.le_of_ble_eq_true rfl, Nat.le_of_ble_eq_true rfl⟩ hw (fun S5 H locs hw9 h9 => ?_)
            replace hw := hw9
            clear hw9
            replace h := h9
            clear h9
            refine lv_iinc (i := 1) (v := (m1 + (1 : Int32))) (lv' := [(1, .int (m1 + (1 : Int32))), (0, .ref c0), (2, .int m2)]) B.1.1 B.1.2.1 dX5_goesOn_81 hl (k := 1) rfl rfl (by decide) rfl (fun ls hl9 => ?_)
            replace hl := hl9
            clear hl9
            refine lv_iinc (i := 2) (v := (m2 + (1 : Int32))) (lv' := [(2, .int (m2 + (1 : Int32))), (1, .int (m1 + (1 : Int32))), (0, .ref c0)]) B.1.1 B.1.2.1 dX5_goesOn_84 hl (k := 2) rfl rfl (by decide) rfl (fun ls hl9 => ?_)
            replace hl := hl9
            clear hl9
            refine lv_goto (tgt := 42) B.1.1 B.1.2.1 dX5_goesOn_87 (by decide) ?_
            exact ih (m1 + (1 : Int32)) (m2 + (1 : Int32)) _ _ _ ls h (lv_sub hl [2, 1, 0] rfl) hw hk
  have L4 : ∀ (c0 : Nat) (c1 : Int32) (K : Int32 → HS → Prop) (n : Nat) (m2 : Int32) (S : HS) (H : Heap) (locs : List Loc) (ls : Array Slot), Hx D cs lo s S H locs → lv_has ls 3 [(0, .ref c0), (1, .int c1), (2, .int m2)] → wX5_goesOn_L4 c0 c1 n m2 S K → (∀ (m2 : Int32) (S : HS) (H : Heap) (locs : List Loc) (ls : Array Slot), Hx D cs lo s S H locs → lv_has ls 3 [(0, .ref c0), (1, .int c1), (2, .int m2)] → K m2 S → W p l e ({ frames := 6, cells := 0, slots := 0, locals := 142 } : Room) s m [.ref a0].toArray below meth c H locs 0 0 (MQ below (va_Qi Q (fun S' t => hp D cs lo S' t.heap) (fun q => lo ≤ q)) [.ref a0].toArray s 0 0 (fun q => lo ≤ q)) (F0 m 30 ls [])) → W p l e ({ frames := 6, cells := 0, slots := 0, locals := 142 } : Room) s m [.ref a0].toArray below meth c H locs 0 0 (MQ below (va_Qi Q (fun S' t => hp D cs lo S' t.heap) (fun q => lo ≤ q)) [.ref a0].toArray s 0 0 (fun q => lo ≤ q)) (F0 m 4 ls []) := by
    intro c0 c1 K n
    induction n with
    | zero => intro m2 S H locs ls h hl hw hk; exact False.elim hw
    | succ n ih =>
      intro m2 S H locs ls h hl hw hk
      refine lv_iload_n B.1.1 B.1.2.1 dX5_goesOn_4 rfl (lv_at hl 2 rfl) ?_
      refine lv_iconst (v := (3 : Int32)) B.1.1 B.1.2.1 dX5_goesOn_5 (by decide) ?_
      refine lv_icmp_ge (tgt := 30) B.1.1 B.1.2.1 dX5_goesOn_6 (by decide) (fun hc => ?_) (fun hc => ?_)
      · replace hw := hw.1 hc
        exact hk m2 _ _ _ ls h (lv_sub hl [0, 1, 2] rfl) hw
      · replace hw := hw.2 hc
        refine lv_aload_n B.1.1 B.1.2.1 dX5_goesOn_9 rfl (lv_at hl 0 rfl) ?_
        obtain ⟨hok, hw⟩ := hw
        refine q_getR B h (ci := 5) (j := 16) (code := 176) rfl inT_5 (by decide) kF_RX5_53 rfl rfl rfl (by decide) dX5_goesOn_10 hok.1 hok.2 ?_
        obtain ⟨o1, hoo1⟩ : ∃ z, z = gR S 176 c0 := ⟨_, rfl⟩
        rw [← hoo1]
        replace hw := hw o1 hoo1
        refine lv_iload_n B.1.1 B.1.2.1 dX5_goesOn_13 rfl (lv_at hl 2 rfl) ?_
        obtain ⟨q1, hn, hw⟩ := hw
        subst hn
        replace hl : lv_has ls 3 [(0, .ref c0), (1, .int c1), (2, .int m2)] := hl
        obtain ⟨hok, hin9, hw⟩ := hw
        refine q_iald B h dX5_goesOn_14 hok.1 hok.2 hin9 ?_
        refine lv_iconst (v := (-1 : Int32)) B.1.1 B.1.2.1 dX5_goesOn_15 (by decide) ?_
        refine lv_icmp_ne (tgt := 24) B.1.1 B.1.2.1 dX5_goesOn_16 (by decide) (fun hc => ?_) (fun hc => ?_)
        · replace hw := hw.1 hc
          refine lv_iinc (i := 2) (v := (m2 + (1 : Int32))) (lv' := [(2, .int (m2 + (1 : Int32))), (0, .ref c0), (1, .int c1)]) B.1.1 B.1.2.1 dX5_goesOn_24 hl (k := 2) rfl rfl (by decide) rfl (fun ls hl9 => ?_)
          replace hl := hl9
          clear hl9
          refine lv_goto (tgt := 4) B.1.1 B.1.2.1 dX5_goesOn_27 (by decide) ?_
          exact ih (m2 + (1 : Int32)) _ _ _ ls h (lv_sub hl [1, 2, 0] rfl) hw hk
        · replace hw := hw.2 hc
          refine lv_aload_n B.1.1 B.1.2.1 dX5_goesOn_19 rfl (lv_at hl 0 rfl) ?_
          refine lv_iload_n B.1.1 B.1.2.1 dX5_goesOn_20 rfl (lv_at hl 2 rfl) ?_
          obtain ⟨hok, hw⟩ := hw
          refine q_callVV B h (met_X5_takes l c0 m2) (CB B 1 kC_X5_takes kI_RX5 kM_RX5_137 hd_X5_takes ⟨Nat.le_of_ble_eq_true rfl, Nat.le_of_ble_eq_true rfl⟩) kO_X5_takes kV_X5_takes (ci := 5) rfl (by decide) hok.1 hok.2 (rest := []) rfl rfl hl.1 (Nat.le_of_ble_eq_true rfl) dX5_goesOn_21 ⟨Nat.le_of_ble_eq_true rfl, Nat.le_of_ble_eq_true rfl⟩ hw (fun S1 H locs hw9 h9 => ?_)
          replace hw := hw9
          clear hw9
          replace h := h9
          clear h9
          refine lv_iinc (i := 2) (v := (m2 + (1 : Int32))) (lv' := [(2, .int (m2 + (1 : Int32))), (0, .ref c0), (1, .int c1)]) B.1.1 B.1.2.1 dX5_goesOn_24 hl (k := 2) rfl rfl (by decide) rfl (fun ls hl9 => ?_)
          replace hl := hl9
          clear hl9
          refine lv_goto (tgt := 4) B.1.1 B.1.2.1 dX5_goesOn_27 (by decide) ?_
          exact ih (m2 + (1 : Int32)) _ _ _ ls h (lv_sub hl [1, 2, 0] rfl) hw hk
  intro h hl hw
  replace hl : lv_has ls 3 [(0, .ref a0)] := hl
  refine lv_iconst (v := (0 : Int32)) B.1.1 B.1.2.1 dX5_goesOn_0 (by decide) ?_
  refine lv_istore_n (i := 1) (lv' := [(1, .int (0 : Int32)), (0, .ref a0)]) B.1.1 B.1.2.1 dX5_goesOn_1 rfl hl (by decide) rfl (fun ls hl9 => ?_)
  replace hl := hl9
  clear hl9
  refine lv_iconst (v := (0 : Int32)) B.1.1 B.1.2.1 dX5_goesOn_2 (by decide) ?_
  refine lv_istore_n (i := 2) (lv' := [(2, .int (0 : Int32)), (1, .int (0 : Int32)), (0, .ref a0)]) B.1.1 B.1.2.1 dX5_goesOn_3 rfl hl (by decide) rfl (fun ls hl9 => ?_)
  replace hl := hl9
  clear hl9
  obtain ⟨n1, hw⟩ := hw
  refine L4 a0 (0 : Int32) _ n1 (0 : Int32) _ _ _ ls h (lv_sub hl [2, 1, 0] rfl) hw (fun u1 S2 H locs ls h9 hl9 hw9 => ?_)
  replace hw := hw9
  clear hw9
  replace h := h9
  clear h9
  replace hl := hl9
  clear hl9
  refine lv_aload_n B.1.1 B.1.2.1 dX5_goesOn_30 rfl (lv_at hl 0 rfl) ?_
  refine lv_dup B.1.1 B.1.2.1 dX5_goesOn_31 rfl ?_
  obtain ⟨hok, hw⟩ := hw
  refine q_getI B h (ci := 5) (j := 0) (code := 160) rfl inT_5 (by decide) kF_RX5_131 rfl rfl rfl (by decide) dX5_goesOn_32 hok.1 hok.2 ?_
  refine lv_iconst (v := (1 : Int32)) B.1.1 B.1.2.1 dX5_goesOn_35 (by decide) ?_
  refine lv_iadd B.1.1 B.1.2.1 dX5_goesOn_36 ?_
  obtain ⟨hok, hw⟩ := hw
  refine q_putI B h (ci := 5) (j := 0) (code := 160) (v := ((gI S2 160 a0) + (1 : Int32))) rfl inT_5 tyX5 tyX5_ok nmX5 (by decide) kF_RX5_131 rfl rfl rfl rfl (by decide) (by first | rfl | decide) (by first | rfl | decide) dX5_goesOn_37 hok.1 hok.2 (fun H locs h9 => ?_)
  obtain ⟨S3, hS3, hh⟩ : ∃ z, z = sI S2 160 a0 ((gI S2 160 a0) + (1 : Int32)) ∧ Hx D cs lo s z H _ := ⟨_, rfl, h9⟩
  clear h9
  replace h := hh
  clear hh
  replace hw := hw S3 hS3
  refine lv_iconst (v := (0 : Int32)) B.1.1 B.1.2.1 dX5_goesOn_40 (by decide) ?_
  refine lv_istore_n (i := 2) (lv' := [(2, .int (0 : Int32)), (0, .ref a0), (1, .int (0 : Int32))]) B.1.1 B.1.2.1 dX5_goesOn_41 rfl hl (by decide) rfl (fun ls hl9 => ?_)
  replace hl := hl9
  clear hl9
  obtain ⟨n2, hw⟩ := hw
  refine L42 a0 _ n2 (0 : Int32) (0 : Int32) _ _ _ ls h (lv_sub hl [1, 2, 0] rfl) hw (fun u2 u3 S6 H locs ls h9 hl9 hw9 => ?_)
  replace hw := hw9
  clear hw9
  replace h := h9
  clear h9
  replace hl := hl9
  clear hl9
  refine lv_iload_n B.1.1 B.1.2.1 dX5_goesOn_90 rfl (lv_at hl 1 rfl) ?_
  exact q_iret B hr hlk h hw dX5_goesOn_91 (Nat.le_of_ble_eq_true rfl) (Nat.le_of_ble_eq_true rfl)
set_option maxHeartbeats 4000000 in
set_option maxRecDepth 100000 in
theorem met_X5_all (l : Launch) (a0 : Nat) (x1 : Int32) (x2 : Int32) (x3 : Int32) : MI l yX5_all cX5_all 4 (some .int) 1 22 0 0 [.ref a0, .int x1, .int x2, .int x3] (wX5_all a0 x1 x2 x3) := by
  refine MI.of (by decide) (Nat.le_of_ble_eq_true rfl) ?_
  intro p e s m below meth c D cs lo S Q ls B hr hlk hin
  intro h hl hw
  replace hl : lv_has ls 4 [(0, .ref a0), (1, .int x1), (2, .int x2), (3, .int x3)] := hl
  refine lv_aload_n B.1.1 B.1.2.1 dX5_all_0 rfl (lv_at hl 0 rfl) ?_
  obtain ⟨hok, hw⟩ := hw
  refine q_getR B h (ci := 5) (j := 8) (code := 168) rfl inT_5 (by decide) kF_RX5_28 rfl rfl rfl (by decide) dX5_all_1 hok.1 hok.2 ?_
  obtain ⟨o1, hoo1⟩ : ∃ z, z = gR S 168 a0 := ⟨_, rfl⟩
  rw [← hoo1]
  replace hw := hw o1 hoo1
  refine lv_iload_n B.1.1 B.1.2.1 dX5_all_4 rfl (lv_at hl 1 rfl) ?_
  refine lv_iload_n B.1.1 B.1.2.1 dX5_all_5 rfl (lv_at hl 2 rfl) ?_
  refine lv_iload_n B.1.1 B.1.2.1 dX5_all_6 rfl (lv_at hl 3 rfl) ?_
  refine q_callIS B h (met_X5_dot l x1 x2 x3) (CB B 3 kC_X5_dot kI_RX5 kM_RX5_97 hd_X5_dot ⟨Nat.le_of_ble_eq_true rfl, Nat.le_of_ble_eq_true rfl⟩) kS_X5_dot (rest := [va_rf o1]) rfl rfl hl.1 (by simp [rf_cat, cat_i, cat_r, cat_n, cat_j, cat_f, cat_d]) dX5_all_7 ⟨Nat.le_of_ble_eq_true rfl, Nat.le_of_ble_eq_true rfl⟩ hw (fun r1 S1 H locs hw9 h9 => ?_)
  replace hw := hw9
  clear hw9
  replace h := h9
  clear h9
  obtain ⟨q1, hn, hw⟩ := hw
  subst hn
  replace hl : lv_has ls 4 [(0, .ref a0), (1, .int x1), (2, .int x2), (3, .int x3)] := hl
  obtain ⟨hok, hin9, hw⟩ := hw
  refine q_iald B h dX5_all_10 hok.1 hok.2 hin9 ?_
  refine lv_aload_n B.1.1 B.1.2.1 dX5_all_11 rfl (lv_at hl 0 rfl) ?_
  obtain ⟨hok, hw⟩ := hw
  refine q_getR B h (ci := 5) (j := 8) (code := 168) rfl inT_5 (by decide) kF_RX5_28 rfl rfl rfl (by decide) dX5_all_12 hok.1 hok.2 ?_
  obtain ⟨o2, hoo2⟩ : ∃ z, z = gR S1 168 a0 := ⟨_, rfl⟩
  rw [← hoo2]
  replace hw := hw o2 hoo2
  refine lv_sipush (v := (1280 : Int32)) B.1.1 B.1.2.1 dX5_all_15 (by decide) ?_
  refine lv_iload_n B.1.1 B.1.2.1 dX5_all_18 rfl (lv_at hl 1 rfl) ?_
  refine lv_iload_n B.1.1 B.1.2.1 dX5_all_19 rfl (lv_at hl 2 rfl) ?_
  refine lv_iload_n B.1.1 B.1.2.1 dX5_all_20 rfl (lv_at hl 3 rfl) ?_
  refine q_callIS B h (met_X5_dot l x1 x2 x3) (CB B 3 kC_X5_dot kI_RX5 kM_RX5_97 hd_X5_dot ⟨Nat.le_of_ble_eq_true rfl, Nat.le_of_ble_eq_true rfl⟩) kS_X5_dot (rest := [.int (1280 : Int32), va_rf o2, .int (gA S1 q1 r1.toNatClampNeg)]) rfl rfl hl.1 (by simp [rf_cat, cat_i, cat_r, cat_n, cat_j, cat_f, cat_d]) dX5_all_21 ⟨Nat.le_of_ble_eq_true rfl, Nat.le_of_ble_eq_true rfl⟩ hw (fun r2 S2 H locs hw9 h9 => ?_)
  replace hw := hw9
  clear hw9
  replace h := h9
  clear h9
  refine lv_iadd B.1.1 B.1.2.1 dX5_all_24 ?_
  obtain ⟨q2, hn, hw⟩ := hw
  subst hn
  replace hl : lv_has ls 4 [(0, .ref a0), (1, .int x1), (2, .int x2), (3, .int x3)] := hl
  obtain ⟨hok, hin9, hw⟩ := hw
  refine q_iald B h dX5_all_25 hok.1 hok.2 hin9 ?_
  refine lv_iadd B.1.1 B.1.2.1 dX5_all_26 ?_
  exact q_iret B hr hlk h hw dX5_all_27 (Nat.le_of_ble_eq_true rfl) (Nat.le_of_ble_eq_true rfl)
set_option maxHeartbeats 4000000 in
set_option maxRecDepth 100000 in
theorem met_X5_inkOf (l : Launch) (a0 : Nat) (x1 : Int32) (x2 : Int32) (x3 : Int32) : MI l yX5_inkOf cX5_inkOf 5 (some .int) 2 45 0 0 [.ref a0, .int x1, .int x2, .int x3] (wX5_inkOf a0 x1 x2 x3) := by
  refine MI.of (by decide) (Nat.le_of_ble_eq_true rfl) ?_
  intro p e s m below meth c D cs lo S Q ls B hr hlk hin
  intro h hl hw
  replace hl : lv_has ls 5 [(0, .ref a0), (1, .int x1), (2, .int x2), (3, .int x3)] := hl
  refine lv_aload_n B.1.1 B.1.2.1 dX5_inkOf_0 rfl (lv_at hl 0 rfl) ?_
  refine lv_iload_n B.1.1 B.1.2.1 dX5_inkOf_1 rfl (lv_at hl 1 rfl) ?_
  refine lv_iload_n B.1.1 B.1.2.1 dX5_inkOf_2 rfl (lv_at hl 2 rfl) ?_
  refine lv_iload_n B.1.1 B.1.2.1 dX5_inkOf_3 rfl (lv_at hl 3 rfl) ?_
  obtain ⟨hok, hw⟩ := hw
  refine q_callIV B h (met_X5_all l a0 x1 x2 x3) (CB B 3 kC_X5_all kI_RX5 kM_RX5_148 hd_X5_all ⟨Nat.le_of_ble_eq_true rfl, Nat.le_of_ble_eq_true rfl⟩) kO_X5_all kV_X5_all (ci := 5) rfl (by decide) hok.1 hok.2 (rest := []) rfl rfl hl.1 (Nat.le_of_ble_eq_true rfl) dX5_inkOf_4 ⟨Nat.le_of_ble_eq_true rfl, Nat.le_of_ble_eq_true rfl⟩ hw (fun r1 S1 H locs hw9 h9 => ?_)
  replace hw := hw9
  clear hw9
  replace h := h9
  clear h9
  refine lv_istore (i := 4) (lv' := [(4, .int r1), (0, .ref a0), (1, .int x1), (2, .int x2), (3, .int x3)]) B.1.1 B.1.2.1 dX5_inkOf_7 hl (by decide) rfl (fun ls hl9 => ?_)
  replace hl := hl9
  clear hl9
  refine lv_iload B.1.1 B.1.2.1 dX5_inkOf_9 (lv_at hl 0 rfl) ?_
  refine lv_aload_n B.1.1 B.1.2.1 dX5_inkOf_11 rfl (lv_at hl 1 rfl) ?_
  obtain ⟨hok, hw⟩ := hw
  refine q_getR B h (ci := 5) (j := 5) (code := 165) rfl inT_5 (by decide) kF_RX5_19 rfl rfl rfl (by decide) dX5_inkOf_12 hok.1 hok.2 ?_
  obtain ⟨o1, hoo1⟩ : ∃ z, z = gR S1 165 a0 := ⟨_, rfl⟩
  rw [← hoo1]
  replace hw := hw o1 hoo1
  refine lv_iload_n B.1.1 B.1.2.1 dX5_inkOf_15 rfl (lv_at hl 2 rfl) ?_
  obtain ⟨q1, hn, hw⟩ := hw
  subst hn
  replace hl : lv_has ls 5 [(4, .int r1), (0, .ref a0), (1, .int x1), (2, .int x2), (3, .int x3)] := hl
  obtain ⟨hok, hin9, hw⟩ := hw
  refine q_iald B h dX5_inkOf_16 hok.1 hok.2 hin9 ?_
  refine lv_icmp_ge (tgt := 25) B.1.1 B.1.2.1 dX5_inkOf_17 (by decide) (fun hc => ?_) (fun hc => ?_)
  · replace hw := hw.1 hc
    refine lv_aload_n B.1.1 B.1.2.1 dX5_inkOf_25 rfl (lv_at hl 1 rfl) ?_
    obtain ⟨hok, hw⟩ := hw
    refine q_getR B h (ci := 5) (j := 5) (code := 165) rfl inT_5 (by decide) kF_RX5_19 rfl rfl rfl (by decide) dX5_inkOf_26 hok.1 hok.2 ?_
    obtain ⟨o2, hoo2⟩ : ∃ z, z = gR S1 165 a0 := ⟨_, rfl⟩
    rw [← hoo2]
    replace hw := hw o2 hoo2
    refine lv_iload_n B.1.1 B.1.2.1 dX5_inkOf_29 rfl (lv_at hl 2 rfl) ?_
    obtain ⟨q2, hn, hw⟩ := hw
    subst hn
    replace hl : lv_has ls 5 [(4, .int r1), (0, .ref a0), (1, .int x1), (2, .int x2), (3, .int x3)] := hl
    obtain ⟨hok, hin9, hw⟩ := hw
    refine q_iald B h dX5_inkOf_30 hok.1 hok.2 hin9 ?_
    exact q_iret B hr hlk h hw dX5_inkOf_31 (Nat.le_of_ble_eq_true rfl) (Nat.le_of_ble_eq_true rfl)
  · replace hw := hw.2 hc
    refine lv_iload B.1.1 B.1.2.1 dX5_inkOf_20 (lv_at hl 0 rfl) ?_
    refine lv_goto (tgt := 31) B.1.1 B.1.2.1 dX5_inkOf_22 (by decide) ?_
    exact q_iret B hr hlk h hw dX5_inkOf_31 (Nat.le_of_ble_eq_true rfl) (Nat.le_of_ble_eq_true rfl)
set_option maxHeartbeats 4000000 in
set_option maxRecDepth 100000 in
theorem met_X5_error (l : Launch) (a0 : Nat) (x1 : Int32) (x2 : Int32) (x3 : Int32) : MI l yX5_error cX5_error 5 (some .int) 3 69 0 0 [.ref a0, .int x1, .int x2, .int x3] (wX5_error a0 x1 x2 x3) := by
  refine MI.of (by decide) (Nat.le_of_ble_eq_true rfl) ?_
  intro p e s m below meth c D cs lo S Q ls B hr hlk hin
  intro h hl hw
  replace hl : lv_has ls 5 [(0, .ref a0), (1, .int x1), (2, .int x2), (3, .int x3)] := hl
  refine lv_aload_n B.1.1 B.1.2.1 dX5_error_0 rfl (lv_at hl 0 rfl) ?_
  refine lv_iload_n B.1.1 B.1.2.1 dX5_error_1 rfl (lv_at hl 1 rfl) ?_
  refine lv_iload_n B.1.1 B.1.2.1 dX5_error_2 rfl (lv_at hl 2 rfl) ?_
  refine lv_iload_n B.1.1 B.1.2.1 dX5_error_3 rfl (lv_at hl 3 rfl) ?_
  obtain ⟨hok, hw⟩ := hw
  refine q_callIV B h (met_X5_inkOf l a0 x1 x2 x3) (CB B 3 kC_X5_inkOf kI_RX5 kM_RX5_151 hd_X5_inkOf ⟨Nat.le_of_ble_eq_true rfl, Nat.le_of_ble_eq_true rfl⟩) kO_X5_inkOf kV_X5_inkOf (ci := 5) rfl (by decide) hok.1 hok.2 (rest := []) rfl rfl hl.1 (Nat.le_of_ble_eq_true rfl) dX5_error_4 ⟨Nat.le_of_ble_eq_true rfl, Nat.le_of_ble_eq_true rfl⟩ hw (fun r1 S1 H locs hw9 h9 => ?_)
  replace hw := hw9
  clear hw9
  replace h := h9
  clear h9
  refine lv_aload_n B.1.1 B.1.2.1 dX5_error_7 rfl (lv_at hl 0 rfl) ?_
  obtain ⟨hok, hw⟩ := hw
  refine q_getR B h (ci := 5) (j := 7) (code := 167) rfl inT_5 (by decide) kF_RX5_25 rfl rfl rfl (by decide) dX5_error_8 hok.1 hok.2 ?_
  obtain ⟨o1, hoo1⟩ : ∃ z, z = gR S1 167 a0 := ⟨_, rfl⟩
  rw [← hoo1]
  replace hw := hw o1 hoo1
  refine lv_iload_n B.1.1 B.1.2.1 dX5_error_11 rfl (lv_at hl 1 rfl) ?_
  refine lv_iload_n B.1.1 B.1.2.1 dX5_error_12 rfl (lv_at hl 2 rfl) ?_
  refine lv_iload_n B.1.1 B.1.2.1 dX5_error_13 rfl (lv_at hl 3 rfl) ?_
  refine q_callIS B h (met_X5_dot l x1 x2 x3) (CB B 3 kC_X5_dot kI_RX5 kM_RX5_97 hd_X5_dot ⟨Nat.le_of_ble_eq_true rfl, Nat.le_of_ble_eq_true rfl⟩) kS_X5_dot (rest := [va_rf o1, .int r1]) rfl rfl hl.1 (by simp [rf_cat, cat_i, cat_r, cat_n, cat_j, cat_f, cat_d]) dX5_error_14 ⟨Nat.le_of_ble_eq_true rfl, Nat.le_of_ble_eq_true rfl⟩ hw (fun r2 S2 H locs hw9 h9 => ?_)
  replace hw := hw9
  clear hw9
  replace h := h9
  clear h9
  obtain ⟨q1, hn, hw⟩ := hw
  subst hn
  replace hl : lv_has ls 5 [(0, .ref a0), (1, .int x1), (2, .int x2), (3, .int x3)] := hl
  obtain ⟨hok, hin9, hw⟩ := hw
  refine q_iald B h dX5_error_17 hok.1 hok.2 hin9 ?_
  refine lv_isub B.1.1 B.1.2.1 dX5_error_18 ?_
  refine lv_istore (i := 4) (lv' := [(4, .int (r1 - (gA S2 q1 r2.toNatClampNeg))), (0, .ref a0), (1, .int x1), (2, .int x2), (3, .int x3)]) B.1.1 B.1.2.1 dX5_error_19 hl (by decide) rfl (fun ls hl9 => ?_)
  replace hl := hl9
  clear hl9
  refine lv_iload B.1.1 B.1.2.1 dX5_error_21 (lv_at hl 0 rfl) ?_
  refine lv_if_ge (tgt := 32) B.1.1 B.1.2.1 dX5_error_23 (by decide) (fun hc => ?_) (fun hc => ?_)
  · replace hw := hw.1 hc
    refine lv_iload B.1.1 B.1.2.1 dX5_error_32 (lv_at hl 0 rfl) ?_
    exact q_iret B hr hlk h hw dX5_error_34 (Nat.le_of_ble_eq_true rfl) (Nat.le_of_ble_eq_true rfl)
  · replace hw := hw.2 hc
    refine lv_iload B.1.1 B.1.2.1 dX5_error_26 (lv_at hl 0 rfl) ?_
    refine lv_ineg B.1.1 B.1.2.1 dX5_error_28 ?_
    refine lv_goto (tgt := 34) B.1.1 B.1.2.1 dX5_error_29 (by decide) ?_
    exact q_iret B hr hlk h hw dX5_error_34 (Nat.le_of_ble_eq_true rfl) (Nat.le_of_ble_eq_true rfl)
